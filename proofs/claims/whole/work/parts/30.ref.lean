def F_X8_in (a0 : Int32) (a1 : Int32) (a2 : Int32) (M : Mem) : Option Int32 := (if a0 < a1 then some (0 : Int32) else (if a2 < a0 then some (0 : Int32) else some (1 : Int32)))
set_option maxHeartbeats 4000000 in
set_option maxRecDepth 100000 in
theorem c_X8_in {l : Launch} {G : GG} {a0 : Int32} {a1 : Int32} {a2 : Int32}  {M : Mem} {r : Int32} (hF : F_X8_in a0 a1 a2 M = some r) : Met l yX8_in (wz yX8_in cX8_in 3 (some .boolean)) (RM 0 0) (PreC G [.int a0, .int a1, .int a2] M) (QcI G r M) 0 0 (g_A G) := by
  rw [F_X8_in] at hF
  refine x_start (by decide) (Nat.le_of_ble_eq_true rfl) (lv := [(0, .int a0), (1, .int a1), (2, .int a2)]) rfl ?_
  intro p e s m below meth c cx hr hW hS ls hl
  obtain ⟨hx, hb, hml, hown, hts, hKK, hSS, hlk⟩ := id cx
  refine lv_iload_n hx hb dX8_in_0 rfl (lv_at hl 0 rfl) ?_
  refine lv_iload_n hx hb dX8_in_1 rfl (lv_at hl 1 rfl) ?_
  refine lv_icmp_lt (tgt := 14) hx hb dX8_in_2 (by decide) (fun c1 => ?_) (fun c1 => ?_)
  · have hF := it_p c1 hF
    refine lv_iconst (v := (0 : Int32)) hx hb dX8_in_14 (by decide) ?_
    exact x_zret cx hr (by decide) hW hS (Option.some.inj hF) rfl dX8_in_15
  · have hF := it_n c1 hF
    refine lv_iload_n hx hb dX8_in_5 rfl (lv_at hl 0 rfl) ?_
    refine lv_iload_n hx hb dX8_in_6 rfl (lv_at hl 2 rfl) ?_
    refine lv_icmp_gt (tgt := 14) hx hb dX8_in_7 (by decide) (fun c2 => ?_) (fun c2 => ?_)
    · have hF := it_p c2 hF
      refine lv_iconst (v := (0 : Int32)) hx hb dX8_in_14 (by decide) ?_
      exact x_zret cx hr (by decide) hW hS (Option.some.inj hF) rfl dX8_in_15
    · have hF := it_n c2 hF
      refine lv_iconst (v := (1 : Int32)) hx hb dX8_in_10 (by decide) ?_
      refine lv_goto (tgt := 15) hx hb dX8_in_11 (by decide) ?_
      exact x_zret cx hr (by decide) hW hS (Option.some.inj hF) rfl dX8_in_15
def F_X8_finds (a1 : Int32) (M : Mem) : Option (Int32 × Mem) := ix 7 ((-1000000001 : Int32) - a1) (fun j1 => ix 7 ((-1000000001 : Int32) - a1) (fun j2 => pin (w_I M 51 j2 ((m_I M 51 j1) + (1 : Int32))) (fun M3 => some (a1, M3))))
set_option maxHeartbeats 4000000 in
set_option maxRecDepth 100000 in
theorem c_X8_finds {l : Launch} {G : GG} {a1 : Int32}  {M : Mem} {r : Int32} {M1 : Mem} (hF : F_X8_finds a1 M = some (r, M1)) : Met l yX8_finds (wz yX8_finds cX8_finds 2 (some .int)) (RM 0 0) (PreC G [.ref (g_ad G 49), .int a1] M) (QcI G r M1) 0 0 (g_A G) := by
  rw [F_X8_finds] at hF
  refine x_start (by decide) (Nat.le_of_ble_eq_true rfl) (lv := [(0, .ref (g_ad G 49)), (1, .int a1)]) rfl ?_
  intro p e s m below meth c cx hr hW hS ls hl
  obtain ⟨hx, hb, hml, hown, hts, hKK, hSS, hlk⟩ := id cx
  refine lv_aload_n hx hb dX8_finds_0 rfl (lv_at hl 0 rfl) ?_
  refine x_get cx hW kc_49 fk_X8_13 (v := .ref (g_ad G 51)) rfl dX8_finds_1 ?_
  refine x_ldc cx q_k_X8_56 dX8_finds_4 ?_
  refine lv_iload_n hx hb dX8_finds_6 rfl (lv_at hl 1 rfl) ?_
  refine lv_isub hx hb dX8_finds_7 ?_
  refine lv_dup2_11 hx hb dX8_finds_8 rfl rfl ?_
  obtain ⟨j1, hj1, gj1, hF⟩ := ix_e hF
  refine x_iald cx hW kc_51 (by decide) hj1 gj1 dX8_finds_9 ?_
  refine lv_iconst (v := (1 : Int32)) hx hb dX8_finds_10 (by decide) ?_
  refine lv_iadd hx hb dX8_finds_11 ?_
  obtain ⟨j2, hj2, gj2, hF⟩ := ix_e hF
  obtain ⟨M3, eM3, hF⟩ := pin_e hF
  refine x_iast cx hW hS kc_51 (by decide) hj2 gj2 eM3 dX8_finds_12 (fun H locs hW hS => ?_)
  refine lv_iload_n hx hb dX8_finds_13 rfl (lv_at hl 1 rfl) ?_
  exact x_iret cx hr hW hS (sp_1 hF) (sp_2 hF) dX8_finds_14
def F_X8_held (a0 : Int32) (a1 : Int32) (a2 : Int32) (M : Mem) : Option Int32 := (if a1 ≤ a0 then (if a0 ≤ a2 then some a0 else some a2) else some a1)
set_option maxHeartbeats 4000000 in
set_option maxRecDepth 100000 in
theorem c_X8_held {l : Launch} {G : GG} {a0 : Int32} {a1 : Int32} {a2 : Int32}  {M : Mem} {r : Int32} (hF : F_X8_held a0 a1 a2 M = some r) : Met l yX8_held (wz yX8_held cX8_held 3 (some .int)) (RM 0 0) (PreC G [.int a0, .int a1, .int a2] M) (QcI G r M) 0 0 (g_A G) := by
  rw [F_X8_held] at hF
  refine x_start (by decide) (Nat.le_of_ble_eq_true rfl) (lv := [(0, .int a0), (1, .int a1), (2, .int a2)]) rfl ?_
  intro p e s m below meth c cx hr hW hS ls hl
  obtain ⟨hx, hb, hml, hown, hts, hKK, hSS, hlk⟩ := id cx
  refine lv_iload_n hx hb dX8_held_0 rfl (lv_at hl 0 rfl) ?_
  refine lv_iload_n hx hb dX8_held_1 rfl (lv_at hl 1 rfl) ?_
  refine lv_icmp_ge (tgt := 9) hx hb dX8_held_2 (by decide) (fun c1 => ?_) (fun c1 => ?_)
  · have hF := it_p c1 hF
    refine lv_iload_n hx hb dX8_held_9 rfl (lv_at hl 0 rfl) ?_
    refine lv_iload_n hx hb dX8_held_10 rfl (lv_at hl 2 rfl) ?_
    refine lv_icmp_le (tgt := 18) hx hb dX8_held_11 (by decide) (fun c2 => ?_) (fun c2 => ?_)
    · have hF := it_p c2 hF
      refine lv_iload_n hx hb dX8_held_18 rfl (lv_at hl 0 rfl) ?_
      exact x_iret cx hr hW hS (Option.some.inj hF) rfl dX8_held_19
    · have hF := it_n c2 hF
      refine lv_iload_n hx hb dX8_held_14 rfl (lv_at hl 2 rfl) ?_
      refine lv_goto (tgt := 19) hx hb dX8_held_15 (by decide) ?_
      exact x_iret cx hr hW hS (Option.some.inj hF) rfl dX8_held_19
  · have hF := it_n c1 hF
    refine lv_iload_n hx hb dX8_held_5 rfl (lv_at hl 1 rfl) ?_
    refine lv_goto (tgt := 19) hx hb dX8_held_6 (by decide) ?_
    exact x_iret cx hr hW hS (Option.some.inj hF) rfl dX8_held_19
def F_X8_its (a1 : Int32) (a2 : Int32) (M : Mem) : Option Int32 := ix 51 (((3 : Int32) + ((6 : Int32) * a1)) + a2) (fun j1 => some (m_I M 50 j1))
set_option maxHeartbeats 4000000 in
set_option maxRecDepth 100000 in
theorem c_X8_its {l : Launch} {G : GG} {a1 : Int32} {a2 : Int32}  {M : Mem} {r : Int32} (hF : F_X8_its a1 a2 M = some r) : Met l yX8_its (wz yX8_its cX8_its 3 (some .int)) (RM 0 0) (PreC G [.ref (g_ad G 49), .int a1, .int a2] M) (QcI G r M) 0 0 (g_A G) := by
  rw [F_X8_its] at hF
  refine x_start (by decide) (Nat.le_of_ble_eq_true rfl) (lv := [(0, .ref (g_ad G 49)), (1, .int a1), (2, .int a2)]) rfl ?_
  intro p e s m below meth c cx hr hW hS ls hl
  obtain ⟨hx, hb, hml, hown, hts, hKK, hSS, hlk⟩ := id cx
  refine lv_aload_n hx hb dX8_its_0 rfl (lv_at hl 0 rfl) ?_
  refine x_get cx hW kc_49 fk_X8_7 (v := .ref (g_ad G 50)) rfl dX8_its_1 ?_
  refine lv_iconst (v := (3 : Int32)) hx hb dX8_its_4 (by decide) ?_
  refine lv_bipush (v := (6 : Int32)) hx hb dX8_its_5 (by decide) ?_
  refine lv_iload_n hx hb dX8_its_7 rfl (lv_at hl 1 rfl) ?_
  refine lv_imul hx hb dX8_its_8 ?_
  refine lv_iadd hx hb dX8_its_9 ?_
  refine lv_iload_n hx hb dX8_its_10 rfl (lv_at hl 2 rfl) ?_
  refine lv_iadd hx hb dX8_its_11 ?_
  obtain ⟨j1, hj1, gj1, hF⟩ := ix_e hF
  refine x_iald cx hW kc_50 (by decide) hj1 gj1 dX8_its_12 ?_
  exact x_iret cx hr hW hS (Option.some.inj hF) rfl dX8_its_13
def F_X8_puts (a1 : Int32) (a2 : Int32) (a3 : Int32) (M : Mem) : Option Mem := ix 51 (((3 : Int32) + ((6 : Int32) * a1)) + a2) (fun j1 => pin (w_I M 50 j1 a3) (fun M2 => some M2))
set_option maxHeartbeats 4000000 in
set_option maxRecDepth 100000 in
theorem c_X8_puts {l : Launch} {G : GG} {a1 : Int32} {a2 : Int32} {a3 : Int32}  {M : Mem} {M1 : Mem} (hF : F_X8_puts a1 a2 a3 M = some M1) : Met l yX8_puts (wz yX8_puts cX8_puts 4 none) (RM 0 0) (PreC G [.ref (g_ad G 49), .int a1, .int a2, .int a3] M) (QcV G M1) 0 0 (g_A G) := by
  rw [F_X8_puts] at hF
  refine x_start (by decide) (Nat.le_of_ble_eq_true rfl) (lv := [(0, .ref (g_ad G 49)), (1, .int a1), (2, .int a2), (3, .int a3)]) rfl ?_
  intro p e s m below meth c cx hr hW hS ls hl
  obtain ⟨hx, hb, hml, hown, hts, hKK, hSS, hlk⟩ := id cx
  refine lv_aload_n hx hb dX8_puts_0 rfl (lv_at hl 0 rfl) ?_
  refine x_get cx hW kc_49 fk_X8_7 (v := .ref (g_ad G 50)) rfl dX8_puts_1 ?_
  refine lv_iconst (v := (3 : Int32)) hx hb dX8_puts_4 (by decide) ?_
  refine lv_bipush (v := (6 : Int32)) hx hb dX8_puts_5 (by decide) ?_
  refine lv_iload_n hx hb dX8_puts_7 rfl (lv_at hl 1 rfl) ?_
  refine lv_imul hx hb dX8_puts_8 ?_
  refine lv_iadd hx hb dX8_puts_9 ?_
  refine lv_iload_n hx hb dX8_puts_10 rfl (lv_at hl 2 rfl) ?_
  refine lv_iadd hx hb dX8_puts_11 ?_
  refine lv_iload_n hx hb dX8_puts_12 rfl (lv_at hl 3 rfl) ?_
  obtain ⟨j1, hj1, gj1, hF⟩ := ix_e hF
  obtain ⟨M2, eM2, hF⟩ := pin_e hF
  refine x_iast cx hW hS kc_50 (by decide) hj1 gj1 eM2 dX8_puts_13 (fun H locs hW hS => ?_)
  exact x_vret cx hr hW hS (Option.some.inj hF) dX8_puts_14
def F_X8_becomes (a1 : Int32) (a2 : Int32) (M : Mem) : Option (Int32 × Mem) := ix 51 a1 (fun j1 => ix 51 a1 (fun j2 => pin (w_I M 50 j2 a2) (fun M3 => some ((m_I M 50 j1), M3))))
set_option maxHeartbeats 4000000 in
set_option maxRecDepth 100000 in
theorem c_X8_becomes {l : Launch} {G : GG} {a1 : Int32} {a2 : Int32}  {M : Mem} {r : Int32} {M1 : Mem} (hF : F_X8_becomes a1 a2 M = some (r, M1)) : Met l yX8_becomes (wz yX8_becomes cX8_becomes 4 (some .int)) (RM 0 0) (PreC G [.ref (g_ad G 49), .int a1, .int a2] M) (QcI G r M1) 0 0 (g_A G) := by
  rw [F_X8_becomes] at hF
  refine x_start (by decide) (Nat.le_of_ble_eq_true rfl) (lv := [(0, .ref (g_ad G 49)), (1, .int a1), (2, .int a2)]) rfl ?_
  intro p e s m below meth c cx hr hW hS ls hl
  obtain ⟨hx, hb, hml, hown, hts, hKK, hSS, hlk⟩ := id cx
  refine lv_aload_n hx hb dX8_becomes_0 rfl (lv_at hl 0 rfl) ?_
  refine x_get cx hW kc_49 fk_X8_7 (v := .ref (g_ad G 50)) rfl dX8_becomes_1 ?_
  refine lv_iload_n hx hb dX8_becomes_4 rfl (lv_at hl 1 rfl) ?_
  obtain ⟨j1, hj1, gj1, hF⟩ := ix_e hF
  refine x_iald cx hW kc_50 (by decide) hj1 gj1 dX8_becomes_5 ?_
  refine lv_istore_n (lv' := [(3, .int (m_I M 50 j1)), (0, .ref (g_ad G 49)), (1, .int a1), (2, .int a2)]) hx hb dX8_becomes_6 rfl hl (by decide) rfl (fun ls hl => ?_)
  refine lv_aload_n hx hb dX8_becomes_7 rfl (lv_at hl 1 rfl) ?_
  refine x_get cx hW kc_49 fk_X8_7 (v := .ref (g_ad G 50)) rfl dX8_becomes_8 ?_
  refine lv_iload_n hx hb dX8_becomes_11 rfl (lv_at hl 2 rfl) ?_
  refine lv_iload_n hx hb dX8_becomes_12 rfl (lv_at hl 3 rfl) ?_
  obtain ⟨j2, hj2, gj2, hF⟩ := ix_e hF
  obtain ⟨M3, eM3, hF⟩ := pin_e hF
  refine x_iast cx hW hS kc_50 (by decide) hj2 gj2 eM3 dX8_becomes_13 (fun H locs hW hS => ?_)
  refine lv_iload_n hx hb dX8_becomes_14 rfl (lv_at hl 0 rfl) ?_
  exact x_iret cx hr hW hS (sp_1 hF) (sp_2 hF) dX8_becomes_15
def F_X8_isOne (a1 : Int32) (M : Mem) : Option Int32 := ix 51 (2 : Int32) (fun j1 => (F_X8_in a1 (0 : Int32) ((m_I M 50 j1) - (1 : Int32)) M).bind (fun r3 => zb r3 (some r3)))
set_option maxHeartbeats 4000000 in
set_option maxRecDepth 100000 in
theorem c_X8_isOne {l : Launch} {G : GG} {a1 : Int32}  {M : Mem} {r : Int32} (hF : F_X8_isOne a1 M = some r) : Met l yX8_isOne (wz yX8_isOne cX8_isOne 2 (some .boolean)) (RM 1 22) (PreC G [.ref (g_ad G 49), .int a1] M) (QcI G r M) 0 0 (g_A G) := by
  rw [F_X8_isOne] at hF
  refine x_start (by decide) (Nat.le_of_ble_eq_true rfl) (lv := [(0, .ref (g_ad G 49)), (1, .int a1)]) rfl ?_
  intro p e s m below meth c cx hr hW hS ls hl
  obtain ⟨hx, hb, hml, hown, hts, hKK, hSS, hlk⟩ := id cx
  refine lv_iload_n hx hb dX8_isOne_0 rfl (lv_at hl 1 rfl) ?_
  refine lv_iconst (v := (0 : Int32)) hx hb dX8_isOne_1 (by decide) ?_
  refine lv_aload_n hx hb dX8_isOne_2 rfl (lv_at hl 0 rfl) ?_
  refine x_get cx hW kc_49 fk_X8_7 (v := .ref (g_ad G 50)) rfl dX8_isOne_3 ?_
  refine lv_iconst (v := (2 : Int32)) hx hb dX8_isOne_6 (by decide) ?_
  obtain ⟨j1, hj1, gj1, hF⟩ := ix_e hF
  refine x_iald cx hW kc_50 (by decide) hj1 gj1 dX8_isOne_7 ?_
  refine lv_iconst (v := (1 : Int32)) hx hb dX8_isOne_8 (by decide) ?_
  refine lv_isub hx hb dX8_isOne_9 ?_
  obtain ⟨r3, hc2, hF⟩ := bi_e hF
  refine x_goi (x_runS cx hW hS (c_X8_in (l := l) (G := G) hc2) cs_X8_57 (rest := []) ⟨Nat.le_of_ble_eq_true rfl, Nat.le_of_ble_eq_true rfl⟩ hl.1 rfl rfl (Nat.le_of_ble_eq_true rfl) ⟨Nat.zero_le _, Nat.zero_le _⟩ dX8_isOne_10) hS (fun H locs hW hS => ?_)
  obtain ⟨z4, hF⟩ := zb_e hF
  exact x_zret cx hr (nz_b z4) hW hS (Option.some.inj hF) rfl dX8_isOne_13
def F_X8_isKind (a0 : Int32) (M : Mem) : Option Int32 := (F_X8_in a0 (0 : Int32) (5 : Int32) M).bind (fun r2 => zb r2 (some r2))
set_option maxHeartbeats 4000000 in
set_option maxRecDepth 100000 in
theorem c_X8_isKind {l : Launch} {G : GG} {a0 : Int32}  {M : Mem} {r : Int32} (hF : F_X8_isKind a0 M = some r) : Met l yX8_isKind (wz yX8_isKind cX8_isKind 1 (some .boolean)) (RM 1 22) (PreC G [.int a0] M) (QcI G r M) 0 0 (g_A G) := by
  rw [F_X8_isKind] at hF
  refine x_start (by decide) (Nat.le_of_ble_eq_true rfl) (lv := [(0, .int a0)]) rfl ?_
  intro p e s m below meth c cx hr hW hS ls hl
  obtain ⟨hx, hb, hml, hown, hts, hKK, hSS, hlk⟩ := id cx
  refine lv_iload_n hx hb dX8_isKind_0 rfl (lv_at hl 0 rfl) ?_
  refine lv_iconst (v := (0 : Int32)) hx hb dX8_isKind_1 (by decide) ?_
  refine lv_iconst (v := (5 : Int32)) hx hb dX8_isKind_2 (by decide) ?_
  obtain ⟨r2, hc1, hF⟩ := bi_e hF
  refine x_goi (x_runS cx hW hS (c_X8_in (l := l) (G := G) hc1) cs_X8_57 (rest := []) ⟨Nat.le_of_ble_eq_true rfl, Nat.le_of_ble_eq_true rfl⟩ hl.1 rfl rfl (Nat.le_of_ble_eq_true rfl) ⟨Nat.zero_le _, Nat.zero_le _⟩ dX8_isKind_3) hS (fun H locs hW hS => ?_)
  obtain ⟨z3, hF⟩ := zb_e hF
  exact x_zret cx hr (nz_b z3) hW hS (Option.some.inj hF) rfl dX8_isKind_6
def F_X8_isChild (a1 : Int32) (M : Mem) : Option Int32 := (F_X8_its a1 (0 : Int32) M).bind (fun r2 => (if r2 = (3 : Int32) then some (1 : Int32) else some (0 : Int32)))
set_option maxHeartbeats 4000000 in
set_option maxRecDepth 100000 in
theorem c_X8_isChild {l : Launch} {G : GG} {a1 : Int32}  {M : Mem} {r : Int32} (hF : F_X8_isChild a1 M = some r) : Met l yX8_isChild (wz yX8_isChild cX8_isChild 2 (some .boolean)) (RM 1 22) (PreC G [.ref (g_ad G 49), .int a1] M) (QcI G r M) 0 0 (g_A G) := by
  rw [F_X8_isChild] at hF
  refine x_start (by decide) (Nat.le_of_ble_eq_true rfl) (lv := [(0, .ref (g_ad G 49)), (1, .int a1)]) rfl ?_
  intro p e s m below meth c cx hr hW hS ls hl
  obtain ⟨hx, hb, hml, hown, hts, hKK, hSS, hlk⟩ := id cx
  refine lv_aload_n hx hb dX8_isChild_0 rfl (lv_at hl 0 rfl) ?_
  refine lv_iload_n hx hb dX8_isChild_1 rfl (lv_at hl 1 rfl) ?_
  refine lv_iconst (v := (0 : Int32)) hx hb dX8_isChild_2 (by decide) ?_
  obtain ⟨r2, hc1, hF⟩ := bi_e hF
  refine x_goi (x_runV cx hW hS (c_X8_its (l := l) (G := G) hc1) cv_X8_61 kc_49 rfl (rest := []) ⟨Nat.le_of_ble_eq_true rfl, Nat.le_of_ble_eq_true rfl⟩ hl.1 rfl rfl (Nat.le_of_ble_eq_true rfl) ⟨Nat.zero_le _, Nat.zero_le _⟩ dX8_isChild_3) hS (fun H locs hW hS => ?_)
  refine lv_iconst (v := (3 : Int32)) hx hb dX8_isChild_6 (by decide) ?_
  refine lv_icmp_ne (tgt := 14) hx hb dX8_isChild_7 (by decide) (fun c3 => ?_) (fun c3 => ?_)
  · have hF := it_n c3 hF
    refine lv_iconst (v := (0 : Int32)) hx hb dX8_isChild_14 (by decide) ?_
    exact x_zret cx hr (by decide) hW hS (Option.some.inj hF) rfl dX8_isChild_15
  · have hF := it_p c3 hF
    refine lv_iconst (v := (1 : Int32)) hx hb dX8_isChild_10 (by decide) ?_
    refine lv_goto (tgt := 15) hx hb dX8_isChild_11 (by decide) ?_
    exact x_zret cx hr (by decide) hW hS (Option.some.inj hF) rfl dX8_isChild_15
def F_X8_areAlike (a1 : Int32) (a2 : Int32) (M : Mem) : Option Int32 := (F_X8_isChild a1 M).bind (fun r2 => (F_X8_isChild a2 M).bind (fun r4 => (if r2 = r4 then some (1 : Int32) else some (0 : Int32))))
set_option maxHeartbeats 4000000 in
set_option maxRecDepth 100000 in
theorem c_X8_areAlike {l : Launch} {G : GG} {a1 : Int32} {a2 : Int32}  {M : Mem} {r : Int32} (hF : F_X8_areAlike a1 a2 M = some r) : Met l yX8_areAlike (wz yX8_areAlike cX8_areAlike 3 (some .boolean)) (RM 2 43) (PreC G [.ref (g_ad G 49), .int a1, .int a2] M) (QcI G r M) 0 0 (g_A G) := by
  rw [F_X8_areAlike] at hF
  refine x_start (by decide) (Nat.le_of_ble_eq_true rfl) (lv := [(0, .ref (g_ad G 49)), (1, .int a1), (2, .int a2)]) rfl ?_
  intro p e s m below meth c cx hr hW hS ls hl
  obtain ⟨hx, hb, hml, hown, hts, hKK, hSS, hlk⟩ := id cx
  refine lv_aload_n hx hb dX8_areAlike_0 rfl (lv_at hl 0 rfl) ?_
  refine lv_iload_n hx hb dX8_areAlike_1 rfl (lv_at hl 1 rfl) ?_
  obtain ⟨r2, hc1, hF⟩ := bi_e hF
  refine x_goi (x_runV cx hW hS (c_X8_isChild (l := l) (G := G) hc1) cv_X8_65 kc_49 rfl (rest := []) ⟨Nat.le_of_ble_eq_true rfl, Nat.le_of_ble_eq_true rfl⟩ hl.1 rfl rfl (Nat.le_of_ble_eq_true rfl) ⟨Nat.zero_le _, Nat.zero_le _⟩ dX8_areAlike_2) hS (fun H locs hW hS => ?_)
  refine lv_aload_n hx hb dX8_areAlike_5 rfl (lv_at hl 0 rfl) ?_
  refine lv_iload_n hx hb dX8_areAlike_6 rfl (lv_at hl 2 rfl) ?_
  obtain ⟨r4, hc3, hF⟩ := bi_e hF
  refine x_goi (x_runV cx hW hS (c_X8_isChild (l := l) (G := G) hc3) cv_X8_65 kc_49 rfl (rest := [.int r2]) ⟨Nat.le_of_ble_eq_true rfl, Nat.le_of_ble_eq_true rfl⟩ hl.1 rfl rfl (Nat.le_of_ble_eq_true rfl) ⟨Nat.zero_le _, Nat.zero_le _⟩ dX8_areAlike_7) hS (fun H locs hW hS => ?_)
  refine lv_icmp_ne (tgt := 17) hx hb dX8_areAlike_10 (by decide) (fun c5 => ?_) (fun c5 => ?_)
  · have hF := it_n c5 hF
    refine lv_iconst (v := (0 : Int32)) hx hb dX8_areAlike_17 (by decide) ?_
    exact x_zret cx hr (by decide) hW hS (Option.some.inj hF) rfl dX8_areAlike_18
  · have hF := it_p c5 hF
    refine lv_iconst (v := (1 : Int32)) hx hb dX8_areAlike_13 (by decide) ?_
    refine lv_goto (tgt := 18) hx hb dX8_areAlike_14 (by decide) ?_
    exact x_zret cx hr (by decide) hW hS (Option.some.inj hF) rfl dX8_areAlike_18
def F_X8_earnsAs_41 (a1 : Int32) (a2 : Int32) (M : Mem) (x3 : Int32) (t0 : Int32) : Option Int32 := (F_X8_its a1 (4 : Int32) M).bind (fun r10 => (F_X8_its a1 (0 : Int32) M).bind (fun r12 => (if r12 = (1 : Int32) then some (x3 + (2 : Int32)) else (if r12 = (2 : Int32) then some t0 else (if r12 = (3 : Int32) then some (1 : Int32) else (if r12 = (4 : Int32) then (if 0 ≤ ((x3 + (2 : Int32)) - (r10 / (4 : Int32))) then some ((x3 + (2 : Int32)) - (r10 / (4 : Int32))) else some (0 : Int32)) else (if r12 = (5 : Int32) then some ((2 : Int32) * t0) else some x3)))))))
set_option maxHeartbeats 4000000 in
set_option maxRecDepth 100000 in
theorem t_X8_earnsAs_41 {p : Program} {l : Launch} {e : Env} {s : State} {m : MethodId} {args : Array Value} {below : List Frame} {meth : Method} {c : Code} {G : GG} {a1 : Int32} {a2 : Int32} (cx : Cx G cX8_earnsAs RX8 6 p s m args meth c) (hr : meth.sig.returnType = (some .int))   {M : Mem} {r : Int32} : ∀ (x3 : Int32) (t0 : Int32), F_X8_earnsAs_41 a1 a2 M x3 t0 = some r → ∀ (H : Heap) (locs : List Loc) (ls : Array Slot), WH G M H → va_S (g_A G) s.heap H locs → lv_has ls 6 [(0, .ref (g_ad G 49)), (1, .int a1), (3, .int x3)] → W p l e (RM 1 22) s m args below meth c H locs 0 0 (MQ below (QcI G r M) args s 0 0 (g_A G)) (F0 m 41 ls [.int t0]) := by
  obtain ⟨hx, hb, hml, hown, hts, hKK, hSS, hlk⟩ := id cx
  intro x3 t0 hF H locs ls hW hS hl
  rw [F_X8_earnsAs_41] at hF
  refine lv_istore (lv' := [(4, .int t0), (0, .ref (g_ad G 49)), (1, .int a1), (3, .int x3)]) hx hb dX8_earnsAs_41 hl (by decide) rfl (fun ls hl => ?_)
  refine lv_iload_n hx hb dX8_earnsAs_43 rfl (lv_at hl 3 rfl) ?_
  refine lv_iconst (v := (2 : Int32)) hx hb dX8_earnsAs_44 (by decide) ?_
  refine lv_iadd hx hb dX8_earnsAs_45 ?_
  refine lv_aload_n hx hb dX8_earnsAs_46 rfl (lv_at hl 1 rfl) ?_
  refine lv_iload_n hx hb dX8_earnsAs_47 rfl (lv_at hl 2 rfl) ?_
  refine lv_iconst (v := (4 : Int32)) hx hb dX8_earnsAs_48 (by decide) ?_
  obtain ⟨r10, hc9, hF⟩ := bi_e hF
  refine x_goi (x_runV cx hW hS (c_X8_its (l := l) (G := G) hc9) cv_X8_61 kc_49 rfl (rest := [.int (x3 + (2 : Int32))]) ⟨Nat.le_of_ble_eq_true rfl, Nat.le_of_ble_eq_true rfl⟩ hl.1 rfl rfl (Nat.le_of_ble_eq_true rfl) ⟨Nat.zero_le _, Nat.zero_le _⟩ dX8_earnsAs_49) hS (fun H locs hW hS => ?_)
  refine lv_iconst (v := (4 : Int32)) hx hb dX8_earnsAs_52 (by decide) ?_
  refine lv_idiv hx hb dX8_earnsAs_53 (by decide) ?_
  refine lv_isub hx hb dX8_earnsAs_54 ?_
  refine lv_istore (lv' := [(5, .int ((x3 + (2 : Int32)) - (r10 / (4 : Int32)))), (4, .int t0), (0, .ref (g_ad G 49)), (1, .int a1), (3, .int x3)]) hx hb dX8_earnsAs_55 hl (by decide) rfl (fun ls hl => ?_)
  refine lv_aload_n hx hb dX8_earnsAs_57 rfl (lv_at hl 2 rfl) ?_
  refine lv_iload_n hx hb dX8_earnsAs_58 rfl (lv_at hl 3 rfl) ?_
  refine lv_iconst (v := (0 : Int32)) hx hb dX8_earnsAs_59 (by decide) ?_
  obtain ⟨r12, hc11, hF⟩ := bi_e hF
  refine x_goi (x_runV cx hW hS (c_X8_its (l := l) (G := G) hc11) cv_X8_61 kc_49 rfl (rest := []) ⟨Nat.le_of_ble_eq_true rfl, Nat.le_of_ble_eq_true rfl⟩ hl.1 rfl rfl (Nat.le_of_ble_eq_true rfl) ⟨Nat.zero_le _, Nat.zero_le _⟩ dX8_earnsAs_60) hS (fun H locs hW hS => ?_)
  refine x_sw (1 : Int32) (fun c13 => ?_) (fun c13 => ?_)
  · have hF := it_p c13 hF
    refine x_tab (tgt := 96) cx dX8_earnsAs_63 c13 (by decide) (by decide) rfl (by decide) ?_
    refine lv_iload_n hx hb dX8_earnsAs_96 rfl (lv_at hl 4 rfl) ?_
    refine lv_iconst (v := (2 : Int32)) hx hb dX8_earnsAs_97 (by decide) ?_
    refine lv_iadd hx hb dX8_earnsAs_98 ?_
    exact x_iret cx hr hW hS (Option.some.inj hF) rfl dX8_earnsAs_99
  · have hF := it_n c13 hF
    refine x_sw (2 : Int32) (fun c14 => ?_) (fun c14 => ?_)
    · have hF := it_p c14 hF
      refine x_tab (tgt := 100) cx dX8_earnsAs_63 c14 (by decide) (by decide) rfl (by decide) ?_
      refine lv_iload hx hb dX8_earnsAs_100 (lv_at hl 1 rfl) ?_
      exact x_iret cx hr hW hS (Option.some.inj hF) rfl dX8_earnsAs_102
    · have hF := it_n c14 hF
      refine x_sw (3 : Int32) (fun c15 => ?_) (fun c15 => ?_)
      · have hF := it_p c15 hF
        refine x_tab (tgt := 103) cx dX8_earnsAs_63 c15 (by decide) (by decide) rfl (by decide) ?_
        refine lv_iconst (v := (1 : Int32)) hx hb dX8_earnsAs_103 (by decide) ?_
        exact x_iret cx hr hW hS (Option.some.inj hF) rfl dX8_earnsAs_104
      · have hF := it_n c15 hF
        refine x_sw (4 : Int32) (fun c16 => ?_) (fun c16 => ?_)
        · have hF := it_p c16 hF
          refine x_tab (tgt := 105) cx dX8_earnsAs_63 c16 (by decide) (by decide) rfl (by decide) ?_
          refine lv_iload hx hb dX8_earnsAs_105 (lv_at hl 0 rfl) ?_
          refine lv_if_ge (tgt := 114) hx hb dX8_earnsAs_107 (by decide) (fun c17 => ?_) (fun c17 => ?_)
          · have hF := it_p c17 hF
            refine lv_iload hx hb dX8_earnsAs_114 (lv_at hl 0 rfl) ?_
            exact x_iret cx hr hW hS (Option.some.inj hF) rfl dX8_earnsAs_116
          · have hF := it_n c17 hF
            refine lv_iconst (v := (0 : Int32)) hx hb dX8_earnsAs_110 (by decide) ?_
            refine lv_goto (tgt := 116) hx hb dX8_earnsAs_111 (by decide) ?_
            exact x_iret cx hr hW hS (Option.some.inj hF) rfl dX8_earnsAs_116
        · have hF := it_n c16 hF
          refine x_sw (5 : Int32) (fun c18 => ?_) (fun c18 => ?_)
          · have hF := it_p c18 hF
            refine x_tab (tgt := 117) cx dX8_earnsAs_63 c18 (by decide) (by decide) rfl (by decide) ?_
            refine lv_iconst (v := (2 : Int32)) hx hb dX8_earnsAs_117 (by decide) ?_
            refine lv_iload hx hb dX8_earnsAs_118 (lv_at hl 1 rfl) ?_
            refine lv_imul hx hb dX8_earnsAs_120 ?_
            exact x_iret cx hr hW hS (Option.some.inj hF) rfl dX8_earnsAs_121
          · have hF := it_n c18 hF
            refine lv_tableOut (tgt := 122) hx hb dX8_earnsAs_63 (by have z0 := lv_neT c13 (a := 1) (by decide); have z1 := lv_neT c14 (a := 2) (by decide); have z2 := lv_neT c15 (a := 3) (by decide); have z3 := lv_neT c16 (a := 4) (by decide); have z4 := lv_neT c18 (a := 5) (by decide); omega) (by decide) ?_
            refine lv_iload_n hx hb dX8_earnsAs_122 rfl (lv_at hl 4 rfl) ?_
            exact x_iret cx hr hW hS (Option.some.inj hF) rfl dX8_earnsAs_123
def F_X8_earnsAs (a1 : Int32) (a2 : Int32) (M : Mem) : Option Int32 := (if a1 = a2 then some (0 : Int32) else (F_X8_its a1 (1 : Int32) M).bind (fun r3 => (F_X8_its a2 (1 : Int32) M).bind (fun r5 => (F_X8_its a1 (3 : Int32) M).bind (fun r7 => (if (50 : Int32) ≤ r7 then F_X8_earnsAs_41 a1 a2 M ((r3 + r5) / (2 : Int32)) ((r3 + r5) / (2 : Int32)) else F_X8_earnsAs_41 a1 a2 M ((r3 + r5) / (2 : Int32)) (((r3 + r5) / (2 : Int32)) + (4 : Int32)))))))
set_option maxHeartbeats 4000000 in
set_option maxRecDepth 100000 in
theorem c_X8_earnsAs {l : Launch} {G : GG} {a1 : Int32} {a2 : Int32}  {M : Mem} {r : Int32} (hF : F_X8_earnsAs a1 a2 M = some r) : Met l yX8_earnsAs (wz yX8_earnsAs cX8_earnsAs 6 (some .int)) (RM 1 22) (PreC G [.ref (g_ad G 49), .int a1, .int a2] M) (QcI G r M) 0 0 (g_A G) := by
  rw [F_X8_earnsAs] at hF
  refine x_start (by decide) (Nat.le_of_ble_eq_true rfl) (lv := [(0, .ref (g_ad G 49)), (1, .int a1), (2, .int a2)]) rfl ?_
  intro p e s m below meth c cx hr hW hS ls hl
  obtain ⟨hx, hb, hml, hown, hts, hKK, hSS, hlk⟩ := id cx
  refine lv_iload_n hx hb dX8_earnsAs_0 rfl (lv_at hl 1 rfl) ?_
  refine lv_iload_n hx hb dX8_earnsAs_1 rfl (lv_at hl 2 rfl) ?_
  refine lv_icmp_ne (tgt := 7) hx hb dX8_earnsAs_2 (by decide) (fun c1 => ?_) (fun c1 => ?_)
  · have hF := it_n c1 hF
    refine lv_aload_n hx hb dX8_earnsAs_7 rfl (lv_at hl 0 rfl) ?_
    refine lv_iload_n hx hb dX8_earnsAs_8 rfl (lv_at hl 1 rfl) ?_
    refine lv_iconst (v := (1 : Int32)) hx hb dX8_earnsAs_9 (by decide) ?_
    obtain ⟨r3, hc2, hF⟩ := bi_e hF
    refine x_goi (x_runV cx hW hS (c_X8_its (l := l) (G := G) hc2) cv_X8_61 kc_49 rfl (rest := []) ⟨Nat.le_of_ble_eq_true rfl, Nat.le_of_ble_eq_true rfl⟩ hl.1 rfl rfl (Nat.le_of_ble_eq_true rfl) ⟨Nat.zero_le _, Nat.zero_le _⟩ dX8_earnsAs_10) hS (fun H locs hW hS => ?_)
    refine lv_aload_n hx hb dX8_earnsAs_13 rfl (lv_at hl 0 rfl) ?_
    refine lv_iload_n hx hb dX8_earnsAs_14 rfl (lv_at hl 2 rfl) ?_
    refine lv_iconst (v := (1 : Int32)) hx hb dX8_earnsAs_15 (by decide) ?_
    obtain ⟨r5, hc4, hF⟩ := bi_e hF
    refine x_goi (x_runV cx hW hS (c_X8_its (l := l) (G := G) hc4) cv_X8_61 kc_49 rfl (rest := [.int r3]) ⟨Nat.le_of_ble_eq_true rfl, Nat.le_of_ble_eq_true rfl⟩ hl.1 rfl rfl (Nat.le_of_ble_eq_true rfl) ⟨Nat.zero_le _, Nat.zero_le _⟩ dX8_earnsAs_16) hS (fun H locs hW hS => ?_)
    refine lv_iadd hx hb dX8_earnsAs_19 ?_
    refine lv_iconst (v := (2 : Int32)) hx hb dX8_earnsAs_20 (by decide) ?_
    refine lv_idiv hx hb dX8_earnsAs_21 (by decide) ?_
    refine lv_istore_n (lv' := [(3, .int ((r3 + r5) / (2 : Int32))), (0, .ref (g_ad G 49)), (1, .int a1), (2, .int a2)]) hx hb dX8_earnsAs_22 rfl hl (by decide) rfl (fun ls hl => ?_)
    refine lv_aload_n hx hb dX8_earnsAs_23 rfl (lv_at hl 1 rfl) ?_
    refine lv_iload_n hx hb dX8_earnsAs_24 rfl (lv_at hl 2 rfl) ?_
    refine lv_iconst (v := (3 : Int32)) hx hb dX8_earnsAs_25 (by decide) ?_
    obtain ⟨r7, hc6, hF⟩ := bi_e hF
    refine x_goi (x_runV cx hW hS (c_X8_its (l := l) (G := G) hc6) cv_X8_61 kc_49 rfl (rest := []) ⟨Nat.le_of_ble_eq_true rfl, Nat.le_of_ble_eq_true rfl⟩ hl.1 rfl rfl (Nat.le_of_ble_eq_true rfl) ⟨Nat.zero_le _, Nat.zero_le _⟩ dX8_earnsAs_26) hS (fun H locs hW hS => ?_)
    refine lv_bipush (v := (50 : Int32)) hx hb dX8_earnsAs_29 (by decide) ?_
    refine lv_icmp_ge (tgt := 40) hx hb dX8_earnsAs_31 (by decide) (fun c8 => ?_) (fun c8 => ?_)
    · have hF := it_p c8 hF
      refine lv_iload_n hx hb dX8_earnsAs_40 rfl (lv_at hl 0 rfl) ?_
      exact t_X8_earnsAs_41 cx hr ((r3 + r5) / (2 : Int32)) ((r3 + r5) / (2 : Int32)) hF _ _ _ hW hS (lv_sub hl [1, 2, 0] rfl)
    · have hF := it_n c8 hF
      refine lv_iload_n hx hb dX8_earnsAs_34 rfl (lv_at hl 0 rfl) ?_
      refine lv_iconst (v := (4 : Int32)) hx hb dX8_earnsAs_35 (by decide) ?_
      refine lv_iadd hx hb dX8_earnsAs_36 ?_
      refine lv_goto (tgt := 41) hx hb dX8_earnsAs_37 (by decide) ?_
      exact t_X8_earnsAs_41 cx hr ((r3 + r5) / (2 : Int32)) (((r3 + r5) / (2 : Int32)) + (4 : Int32)) hF _ _ _ hW hS (lv_sub hl [1, 2, 0] rfl)
  · have hF := it_p c1 hF
    refine lv_iconst (v := (0 : Int32)) hx hb dX8_earnsAs_5 (by decide) ?_
    exact x_iret cx hr hW hS (Option.some.inj hF) rfl dX8_earnsAs_6
def F_X8_saysAs_27 (a1 : Int32) (a2 : Int32) (M : Mem) (t0 : Int32) : Option Int32 := (F_X8_its a1 (0 : Int32) M).bind (fun r8 => (if r8 = (2 : Int32) then some (3 : Int32) else (if r8 = (3 : Int32) then some (0 : Int32) else (if r8 = (4 : Int32) then some (t0 + (1 : Int32)) else (if r8 = (5 : Int32) then some (-2 : Int32) else some t0)))))
set_option maxHeartbeats 4000000 in
set_option maxRecDepth 100000 in
theorem t_X8_saysAs_27 {p : Program} {l : Launch} {e : Env} {s : State} {m : MethodId} {args : Array Value} {below : List Frame} {meth : Method} {c : Code} {G : GG} {a1 : Int32} {a2 : Int32} (cx : Cx G cX8_saysAs RX8 4 p s m args meth c) (hr : meth.sig.returnType = (some .int))   {M : Mem} {r : Int32} : ∀ (t0 : Int32), F_X8_saysAs_27 a1 a2 M t0 = some r → ∀ (H : Heap) (locs : List Loc) (ls : Array Slot), WH G M H → va_S (g_A G) s.heap H locs → lv_has ls 4 [(0, .ref (g_ad G 49)), (1, .int a1)] → W p l e (RM 1 22) s m args below meth c H locs 0 0 (MQ below (QcI G r M) args s 0 0 (g_A G)) (F0 m 27 ls [.int t0]) := by
  obtain ⟨hx, hb, hml, hown, hts, hKK, hSS, hlk⟩ := id cx
  intro t0 hF H locs ls hW hS hl
  rw [F_X8_saysAs_27] at hF
  refine lv_istore_n (lv' := [(3, .int t0), (0, .ref (g_ad G 49)), (1, .int a1)]) hx hb dX8_saysAs_27 rfl hl (by decide) rfl (fun ls hl => ?_)
  refine lv_aload_n hx hb dX8_saysAs_28 rfl (lv_at hl 1 rfl) ?_
  refine lv_iload_n hx hb dX8_saysAs_29 rfl (lv_at hl 2 rfl) ?_
  refine lv_iconst (v := (0 : Int32)) hx hb dX8_saysAs_30 (by decide) ?_
  obtain ⟨r8, hc7, hF⟩ := bi_e hF
  refine x_goi (x_runV cx hW hS (c_X8_its (l := l) (G := G) hc7) cv_X8_61 kc_49 rfl (rest := []) ⟨Nat.le_of_ble_eq_true rfl, Nat.le_of_ble_eq_true rfl⟩ hl.1 rfl rfl (Nat.le_of_ble_eq_true rfl) ⟨Nat.zero_le _, Nat.zero_le _⟩ dX8_saysAs_31) hS (fun H locs hW hS => ?_)
  refine x_sw (2 : Int32) (fun c9 => ?_) (fun c9 => ?_)
  · have hF := it_p c9 hF
    refine x_tab (tgt := 64) cx dX8_saysAs_34 c9 (by decide) (by decide) rfl (by decide) ?_
    refine lv_iconst (v := (3 : Int32)) hx hb dX8_saysAs_64 (by decide) ?_
    exact x_iret cx hr hW hS (Option.some.inj hF) rfl dX8_saysAs_65
  · have hF := it_n c9 hF
    refine x_sw (3 : Int32) (fun c10 => ?_) (fun c10 => ?_)
    · have hF := it_p c10 hF
      refine x_tab (tgt := 66) cx dX8_saysAs_34 c10 (by decide) (by decide) rfl (by decide) ?_
      refine lv_iconst (v := (0 : Int32)) hx hb dX8_saysAs_66 (by decide) ?_
      exact x_iret cx hr hW hS (Option.some.inj hF) rfl dX8_saysAs_67
    · have hF := it_n c10 hF
      refine x_sw (4 : Int32) (fun c11 => ?_) (fun c11 => ?_)
      · have hF := it_p c11 hF
        refine x_tab (tgt := 68) cx dX8_saysAs_34 c11 (by decide) (by decide) rfl (by decide) ?_
        refine lv_iload_n hx hb dX8_saysAs_68 rfl (lv_at hl 0 rfl) ?_
        refine lv_iconst (v := (1 : Int32)) hx hb dX8_saysAs_69 (by decide) ?_
        refine lv_iadd hx hb dX8_saysAs_70 ?_
        exact x_iret cx hr hW hS (Option.some.inj hF) rfl dX8_saysAs_71
      · have hF := it_n c11 hF
        refine x_sw (5 : Int32) (fun c12 => ?_) (fun c12 => ?_)
        · have hF := it_p c12 hF
          refine x_tab (tgt := 72) cx dX8_saysAs_34 c12 (by decide) (by decide) rfl (by decide) ?_
          refine lv_bipush (v := (-2 : Int32)) hx hb dX8_saysAs_72 (by decide) ?_
          exact x_iret cx hr hW hS (Option.some.inj hF) rfl dX8_saysAs_74
        · have hF := it_n c12 hF
          refine lv_tableOut (tgt := 75) hx hb dX8_saysAs_34 (by have z0 := lv_neT c9 (a := 2) (by decide); have z1 := lv_neT c10 (a := 3) (by decide); have z2 := lv_neT c11 (a := 4) (by decide); have z3 := lv_neT c12 (a := 5) (by decide); omega) (by decide) ?_
          refine lv_iload_n hx hb dX8_saysAs_75 rfl (lv_at hl 0 rfl) ?_
          exact x_iret cx hr hW hS (Option.some.inj hF) rfl dX8_saysAs_76
def F_X8_saysAs (a1 : Int32) (a2 : Int32) (M : Mem) : Option Int32 := (if a1 = a2 then some (0 : Int32) else (F_X8_its a1 (1 : Int32) M).bind (fun r3 => (F_X8_its a2 (1 : Int32) M).bind (fun r5 => (if r3 < r5 then F_X8_saysAs_27 a1 a2 M (-1 : Int32) else F_X8_saysAs_27 a1 a2 M (1 : Int32)))))
set_option maxHeartbeats 4000000 in
set_option maxRecDepth 100000 in
theorem c_X8_saysAs {l : Launch} {G : GG} {a1 : Int32} {a2 : Int32}  {M : Mem} {r : Int32} (hF : F_X8_saysAs a1 a2 M = some r) : Met l yX8_saysAs (wz yX8_saysAs cX8_saysAs 4 (some .int)) (RM 1 22) (PreC G [.ref (g_ad G 49), .int a1, .int a2] M) (QcI G r M) 0 0 (g_A G) := by
  rw [F_X8_saysAs] at hF
  refine x_start (by decide) (Nat.le_of_ble_eq_true rfl) (lv := [(0, .ref (g_ad G 49)), (1, .int a1), (2, .int a2)]) rfl ?_
  intro p e s m below meth c cx hr hW hS ls hl
  obtain ⟨hx, hb, hml, hown, hts, hKK, hSS, hlk⟩ := id cx
  refine lv_iload_n hx hb dX8_saysAs_0 rfl (lv_at hl 1 rfl) ?_
  refine lv_iload_n hx hb dX8_saysAs_1 rfl (lv_at hl 2 rfl) ?_
  refine lv_icmp_ne (tgt := 7) hx hb dX8_saysAs_2 (by decide) (fun c1 => ?_) (fun c1 => ?_)
  · have hF := it_n c1 hF
    refine lv_aload_n hx hb dX8_saysAs_7 rfl (lv_at hl 0 rfl) ?_
    refine lv_iload_n hx hb dX8_saysAs_8 rfl (lv_at hl 1 rfl) ?_
    refine lv_iconst (v := (1 : Int32)) hx hb dX8_saysAs_9 (by decide) ?_
    obtain ⟨r3, hc2, hF⟩ := bi_e hF
    refine x_goi (x_runV cx hW hS (c_X8_its (l := l) (G := G) hc2) cv_X8_61 kc_49 rfl (rest := []) ⟨Nat.le_of_ble_eq_true rfl, Nat.le_of_ble_eq_true rfl⟩ hl.1 rfl rfl (Nat.le_of_ble_eq_true rfl) ⟨Nat.zero_le _, Nat.zero_le _⟩ dX8_saysAs_10) hS (fun H locs hW hS => ?_)
    refine lv_aload_n hx hb dX8_saysAs_13 rfl (lv_at hl 0 rfl) ?_
    refine lv_iload_n hx hb dX8_saysAs_14 rfl (lv_at hl 2 rfl) ?_
    refine lv_iconst (v := (1 : Int32)) hx hb dX8_saysAs_15 (by decide) ?_
    obtain ⟨r5, hc4, hF⟩ := bi_e hF
    refine x_goi (x_runV cx hW hS (c_X8_its (l := l) (G := G) hc4) cv_X8_61 kc_49 rfl (rest := [.int r3]) ⟨Nat.le_of_ble_eq_true rfl, Nat.le_of_ble_eq_true rfl⟩ hl.1 rfl rfl (Nat.le_of_ble_eq_true rfl) ⟨Nat.zero_le _, Nat.zero_le _⟩ dX8_saysAs_16) hS (fun H locs hW hS => ?_)
    refine lv_icmp_lt (tgt := 26) hx hb dX8_saysAs_19 (by decide) (fun c6 => ?_) (fun c6 => ?_)
    · have hF := it_p c6 hF
      refine lv_iconst (v := (-1 : Int32)) hx hb dX8_saysAs_26 (by decide) ?_
      exact t_X8_saysAs_27 cx hr (-1 : Int32) hF _ _ _ hW hS (lv_sub hl [0, 1] rfl)
    · have hF := it_n c6 hF
      refine lv_iconst (v := (1 : Int32)) hx hb dX8_saysAs_22 (by decide) ?_
      refine lv_goto (tgt := 27) hx hb dX8_saysAs_23 (by decide) ?_
      exact t_X8_saysAs_27 cx hr (1 : Int32) hF _ _ _ hW hS (lv_sub hl [0, 1] rfl)
  · have hF := it_p c1 hF
    refine lv_iconst (v := (0 : Int32)) hx hb dX8_saysAs_5 (by decide) ?_
    exact x_iret cx hr hW hS (Option.some.inj hF) rfl dX8_saysAs_6
def F_X8_hearsAs_23 (a1 : Int32) (a2 : Int32) (M : Mem) (t0 : Int32) : Option Int32 := (F_X8_its a1 (0 : Int32) M).bind (fun r6 => (if r6 = (2 : Int32) then some ((2 : Int32) * t0) else (if r6 = (3 : Int32) then some (0 : Int32) else (if r6 = (4 : Int32) then some (t0 + (1 : Int32)) else (if r6 = (5 : Int32) then some ((2 : Int32) * t0) else some t0)))))
set_option maxHeartbeats 4000000 in
set_option maxRecDepth 100000 in
theorem t_X8_hearsAs_23 {p : Program} {l : Launch} {e : Env} {s : State} {m : MethodId} {args : Array Value} {below : List Frame} {meth : Method} {c : Code} {G : GG} {a1 : Int32} {a2 : Int32} (cx : Cx G cX8_hearsAs RX8 4 p s m args meth c) (hr : meth.sig.returnType = (some .int))   {M : Mem} {r : Int32} : ∀ (t0 : Int32), F_X8_hearsAs_23 a1 a2 M t0 = some r → ∀ (H : Heap) (locs : List Loc) (ls : Array Slot), WH G M H → va_S (g_A G) s.heap H locs → lv_has ls 4 [(0, .ref (g_ad G 49)), (1, .int a1)] → W p l e (RM 1 22) s m args below meth c H locs 0 0 (MQ below (QcI G r M) args s 0 0 (g_A G)) (F0 m 23 ls [.int t0]) := by
  obtain ⟨hx, hb, hml, hown, hts, hKK, hSS, hlk⟩ := id cx
  intro t0 hF H locs ls hW hS hl
  rw [F_X8_hearsAs_23] at hF
  refine lv_istore_n (lv' := [(3, .int t0), (0, .ref (g_ad G 49)), (1, .int a1)]) hx hb dX8_hearsAs_23 rfl hl (by decide) rfl (fun ls hl => ?_)
  refine lv_aload_n hx hb dX8_hearsAs_24 rfl (lv_at hl 1 rfl) ?_
  refine lv_iload_n hx hb dX8_hearsAs_25 rfl (lv_at hl 2 rfl) ?_
  refine lv_iconst (v := (0 : Int32)) hx hb dX8_hearsAs_26 (by decide) ?_
  obtain ⟨r6, hc5, hF⟩ := bi_e hF
  refine x_goi (x_runV cx hW hS (c_X8_its (l := l) (G := G) hc5) cv_X8_61 kc_49 rfl (rest := []) ⟨Nat.le_of_ble_eq_true rfl, Nat.le_of_ble_eq_true rfl⟩ hl.1 rfl rfl (Nat.le_of_ble_eq_true rfl) ⟨Nat.zero_le _, Nat.zero_le _⟩ dX8_hearsAs_27) hS (fun H locs hW hS => ?_)
  refine x_sw (2 : Int32) (fun c7 => ?_) (fun c7 => ?_)
  · have hF := it_p c7 hF
    refine x_tab (tgt := 60) cx dX8_hearsAs_30 c7 (by decide) (by decide) rfl (by decide) ?_
    refine lv_iconst (v := (2 : Int32)) hx hb dX8_hearsAs_60 (by decide) ?_
    refine lv_iload_n hx hb dX8_hearsAs_61 rfl (lv_at hl 0 rfl) ?_
    refine lv_imul hx hb dX8_hearsAs_62 ?_
    exact x_iret cx hr hW hS (Option.some.inj hF) rfl dX8_hearsAs_63
  · have hF := it_n c7 hF
    refine x_sw (3 : Int32) (fun c8 => ?_) (fun c8 => ?_)
    · have hF := it_p c8 hF
      refine x_tab (tgt := 64) cx dX8_hearsAs_30 c8 (by decide) (by decide) rfl (by decide) ?_
      refine lv_iconst (v := (0 : Int32)) hx hb dX8_hearsAs_64 (by decide) ?_
      exact x_iret cx hr hW hS (Option.some.inj hF) rfl dX8_hearsAs_65
    · have hF := it_n c8 hF
      refine x_sw (4 : Int32) (fun c9 => ?_) (fun c9 => ?_)
      · have hF := it_p c9 hF
        refine x_tab (tgt := 66) cx dX8_hearsAs_30 c9 (by decide) (by decide) rfl (by decide) ?_
        refine lv_iload_n hx hb dX8_hearsAs_66 rfl (lv_at hl 0 rfl) ?_
        refine lv_iconst (v := (1 : Int32)) hx hb dX8_hearsAs_67 (by decide) ?_
        refine lv_iadd hx hb dX8_hearsAs_68 ?_
        exact x_iret cx hr hW hS (Option.some.inj hF) rfl dX8_hearsAs_69
      · have hF := it_n c9 hF
        refine x_sw (5 : Int32) (fun c10 => ?_) (fun c10 => ?_)
        · have hF := it_p c10 hF
          refine x_tab (tgt := 60) cx dX8_hearsAs_30 c10 (by decide) (by decide) rfl (by decide) ?_
          refine lv_iconst (v := (2 : Int32)) hx hb dX8_hearsAs_60 (by decide) ?_
          refine lv_iload_n hx hb dX8_hearsAs_61 rfl (lv_at hl 0 rfl) ?_
          refine lv_imul hx hb dX8_hearsAs_62 ?_
          exact x_iret cx hr hW hS (Option.some.inj hF) rfl dX8_hearsAs_63
        · have hF := it_n c10 hF
          refine lv_tableOut (tgt := 70) hx hb dX8_hearsAs_30 (by have z0 := lv_neT c7 (a := 2) (by decide); have z1 := lv_neT c8 (a := 3) (by decide); have z2 := lv_neT c9 (a := 4) (by decide); have z3 := lv_neT c10 (a := 5) (by decide); omega) (by decide) ?_
          refine lv_iload_n hx hb dX8_hearsAs_70 rfl (lv_at hl 0 rfl) ?_
          exact x_iret cx hr hW hS (Option.some.inj hF) rfl dX8_hearsAs_71
def F_X8_hearsAs (a1 : Int32) (a2 : Int32) (M : Mem) : Option Int32 := (if a1 = a2 then some (0 : Int32) else (F_X8_its a2 (3 : Int32) M).bind (fun r3 => (if (20 : Int32) ≤ r3 then F_X8_hearsAs_23 a1 a2 M (0 : Int32) else F_X8_hearsAs_23 a1 a2 M (2 : Int32))))
set_option maxHeartbeats 4000000 in
set_option maxRecDepth 100000 in
theorem c_X8_hearsAs {l : Launch} {G : GG} {a1 : Int32} {a2 : Int32}  {M : Mem} {r : Int32} (hF : F_X8_hearsAs a1 a2 M = some r) : Met l yX8_hearsAs (wz yX8_hearsAs cX8_hearsAs 4 (some .int)) (RM 1 22) (PreC G [.ref (g_ad G 49), .int a1, .int a2] M) (QcI G r M) 0 0 (g_A G) := by
  rw [F_X8_hearsAs] at hF
  refine x_start (by decide) (Nat.le_of_ble_eq_true rfl) (lv := [(0, .ref (g_ad G 49)), (1, .int a1), (2, .int a2)]) rfl ?_
  intro p e s m below meth c cx hr hW hS ls hl
  obtain ⟨hx, hb, hml, hown, hts, hKK, hSS, hlk⟩ := id cx
  refine lv_iload_n hx hb dX8_hearsAs_0 rfl (lv_at hl 1 rfl) ?_
  refine lv_iload_n hx hb dX8_hearsAs_1 rfl (lv_at hl 2 rfl) ?_
  refine lv_icmp_ne (tgt := 7) hx hb dX8_hearsAs_2 (by decide) (fun c1 => ?_) (fun c1 => ?_)
  · have hF := it_n c1 hF
    refine lv_aload_n hx hb dX8_hearsAs_7 rfl (lv_at hl 0 rfl) ?_
    refine lv_iload_n hx hb dX8_hearsAs_8 rfl (lv_at hl 2 rfl) ?_
    refine lv_iconst (v := (3 : Int32)) hx hb dX8_hearsAs_9 (by decide) ?_
    obtain ⟨r3, hc2, hF⟩ := bi_e hF
    refine x_goi (x_runV cx hW hS (c_X8_its (l := l) (G := G) hc2) cv_X8_61 kc_49 rfl (rest := []) ⟨Nat.le_of_ble_eq_true rfl, Nat.le_of_ble_eq_true rfl⟩ hl.1 rfl rfl (Nat.le_of_ble_eq_true rfl) ⟨Nat.zero_le _, Nat.zero_le _⟩ dX8_hearsAs_10) hS (fun H locs hW hS => ?_)
    refine lv_bipush (v := (20 : Int32)) hx hb dX8_hearsAs_13 (by decide) ?_
    refine lv_icmp_ge (tgt := 22) hx hb dX8_hearsAs_15 (by decide) (fun c4 => ?_) (fun c4 => ?_)
    · have hF := it_p c4 hF
      refine lv_iconst (v := (0 : Int32)) hx hb dX8_hearsAs_22 (by decide) ?_
      exact t_X8_hearsAs_23 cx hr (0 : Int32) hF _ _ _ hW hS (lv_sub hl [0, 1] rfl)
    · have hF := it_n c4 hF
      refine lv_iconst (v := (2 : Int32)) hx hb dX8_hearsAs_18 (by decide) ?_
      refine lv_goto (tgt := 23) hx hb dX8_hearsAs_19 (by decide) ?_
      exact t_X8_hearsAs_23 cx hr (2 : Int32) hF _ _ _ hW hS (lv_sub hl [0, 1] rfl)
  · have hF := it_p c1 hF
    refine lv_iconst (v := (0 : Int32)) hx hb dX8_hearsAs_5 (by decide) ?_
    exact x_iret cx hr hW hS (Option.some.inj hF) rfl dX8_hearsAs_6
def F_X8_earns (a1 : Int32) (M : Mem) : Option Int32 := (F_X8_its a1 (5 : Int32) M).bind (fun r2 => (F_X8_earnsAs a1 r2 M).bind (fun r4 => some r4))
set_option maxHeartbeats 4000000 in
set_option maxRecDepth 100000 in
theorem c_X8_earns {l : Launch} {G : GG} {a1 : Int32}  {M : Mem} {r : Int32} (hF : F_X8_earns a1 M = some r) : Met l yX8_earns (wz yX8_earns cX8_earns 2 (some .int)) (RM 2 47) (PreC G [.ref (g_ad G 49), .int a1] M) (QcI G r M) 0 0 (g_A G) := by
  rw [F_X8_earns] at hF
  refine x_start (by decide) (Nat.le_of_ble_eq_true rfl) (lv := [(0, .ref (g_ad G 49)), (1, .int a1)]) rfl ?_
  intro p e s m below meth c cx hr hW hS ls hl
  obtain ⟨hx, hb, hml, hown, hts, hKK, hSS, hlk⟩ := id cx
  refine lv_aload_n hx hb dX8_earns_0 rfl (lv_at hl 0 rfl) ?_
  refine lv_iload_n hx hb dX8_earns_1 rfl (lv_at hl 1 rfl) ?_
  refine lv_aload_n hx hb dX8_earns_2 rfl (lv_at hl 0 rfl) ?_
  refine lv_iload_n hx hb dX8_earns_3 rfl (lv_at hl 1 rfl) ?_
  refine lv_iconst (v := (5 : Int32)) hx hb dX8_earns_4 (by decide) ?_
  obtain ⟨r2, hc1, hF⟩ := bi_e hF
  refine x_goi (x_runV cx hW hS (c_X8_its (l := l) (G := G) hc1) cv_X8_61 kc_49 rfl (rest := [.int a1, .ref (g_ad G 49)]) ⟨Nat.le_of_ble_eq_true rfl, Nat.le_of_ble_eq_true rfl⟩ hl.1 rfl rfl (Nat.le_of_ble_eq_true rfl) ⟨Nat.zero_le _, Nat.zero_le _⟩ dX8_earns_5) hS (fun H locs hW hS => ?_)
  obtain ⟨r4, hc3, hF⟩ := bi_e hF
  refine x_goi (x_runV cx hW hS (c_X8_earnsAs (l := l) (G := G) hc3) cv_X8_69 kc_49 rfl (rest := []) ⟨Nat.le_of_ble_eq_true rfl, Nat.le_of_ble_eq_true rfl⟩ hl.1 rfl rfl (Nat.le_of_ble_eq_true rfl) ⟨Nat.zero_le _, Nat.zero_le _⟩ dX8_earns_8) hS (fun H locs hW hS => ?_)
  exact x_iret cx hr hW hS (Option.some.inj hF) rfl dX8_earns_11
def F_X8_earnAll_4  (M : Mem) : Nat → Int32 → Int32 → Option Int32
  | 0, _, _ => none
  | n + 1, x1, x2 => ix 51 (2 : Int32) (fun j1 => (if (m_I M 50 j1) ≤ x2 then some x1 else (F_X8_earns x2 M).bind (fun r4 => F_X8_earnAll_4 M n (x1 + r4) (x2 + 1))))
set_option maxHeartbeats 4000000 in
set_option maxRecDepth 100000 in
theorem t_X8_earnAll_4 {p : Program} {l : Launch} {e : Env} {s : State} {m : MethodId} {args : Array Value} {below : List Frame} {meth : Method} {c : Code} {G : GG}  (cx : Cx G cX8_earnAll RX8 3 p s m args meth c) (hr : meth.sig.returnType = (some .int))   {M : Mem} {r : Int32} : ∀ (n : Nat) (x1 : Int32) (x2 : Int32), F_X8_earnAll_4  M n x1 x2 = some r → ∀ (H : Heap) (locs : List Loc) (ls : Array Slot), WH G M H → va_S (g_A G) s.heap H locs → lv_has ls 3 [(0, .ref (g_ad G 49)), (1, .int x1), (2, .int x2)] → W p l e (RM 3 68) s m args below meth c H locs 0 0 (MQ below (QcI G r M) args s 0 0 (g_A G)) (F0 m 4 ls []) := by
  obtain ⟨hx, hb, hml, hown, hts, hKK, hSS, hlk⟩ := id cx
  intro n
  induction n with
  | zero =>
    intro x1 x2 hF H locs ls hW hS hl
    rw [F_X8_earnAll_4] at hF
    cases hF
  | succ n ih =>
    intro x1 x2 hF H locs ls hW hS hl
    rw [F_X8_earnAll_4] at hF
    refine lv_iload_n hx hb dX8_earnAll_4 rfl (lv_at hl 2 rfl) ?_
    refine lv_aload_n hx hb dX8_earnAll_5 rfl (lv_at hl 0 rfl) ?_
    refine x_get cx hW kc_49 fk_X8_7 (v := .ref (g_ad G 50)) rfl dX8_earnAll_6 ?_
    refine lv_iconst (v := (2 : Int32)) hx hb dX8_earnAll_9 (by decide) ?_
    obtain ⟨j1, hj1, gj1, hF⟩ := ix_e hF
    refine x_iald cx hW kc_50 (by decide) hj1 gj1 dX8_earnAll_10 ?_
    refine lv_icmp_ge (tgt := 28) hx hb dX8_earnAll_11 (by decide) (fun c2 => ?_) (fun c2 => ?_)
    · have hF := it_p c2 hF
      refine lv_iload_n hx hb dX8_earnAll_28 rfl (lv_at hl 1 rfl) ?_
      exact x_iret cx hr hW hS (Option.some.inj hF) rfl dX8_earnAll_29
    · have hF := it_n c2 hF
      refine lv_iload_n hx hb dX8_earnAll_14 rfl (lv_at hl 1 rfl) ?_
      refine lv_aload_n hx hb dX8_earnAll_15 rfl (lv_at hl 0 rfl) ?_
      refine lv_iload_n hx hb dX8_earnAll_16 rfl (lv_at hl 2 rfl) ?_
      obtain ⟨r4, hc3, hF⟩ := bi_e hF
      refine x_goi (x_runV cx hW hS (c_X8_earns (l := l) (G := G) hc3) cv_X8_72 kc_49 rfl (rest := [.int x1]) ⟨Nat.le_of_ble_eq_true rfl, Nat.le_of_ble_eq_true rfl⟩ hl.1 rfl rfl (Nat.le_of_ble_eq_true rfl) ⟨Nat.zero_le _, Nat.zero_le _⟩ dX8_earnAll_17) hS (fun H locs hW hS => ?_)
      refine lv_iadd hx hb dX8_earnAll_20 ?_
      refine lv_istore_n (lv' := [(1, .int (x1 + r4)), (0, .ref (g_ad G 49)), (2, .int x2)]) hx hb dX8_earnAll_21 rfl hl (by decide) rfl (fun ls hl => ?_)
      refine lv_iinc (v := (x2 + 1)) (lv' := [(2, .int (x2 + 1)), (1, .int (x1 + r4)), (0, .ref (g_ad G 49))]) hx hb dX8_earnAll_22 hl (k := 2) rfl rfl (by decide) rfl (fun ls hl => ?_)
      refine lv_goto (tgt := 4) hx hb dX8_earnAll_25 (by decide) ?_
      exact ih (x1 + r4) (x2 + 1) hF _ _ _ hW hS (lv_sub hl [2, 1, 0] rfl)
def F_X8_earnAll (M : Mem) : Option Int32 := F_X8_earnAll_4 M FU (0 : Int32) (0 : Int32)
set_option maxHeartbeats 4000000 in
set_option maxRecDepth 100000 in
theorem c_X8_earnAll {l : Launch} {G : GG}   {M : Mem} {r : Int32} (hF : F_X8_earnAll M = some r) : Met l yX8_earnAll (wz yX8_earnAll cX8_earnAll 3 (some .int)) (RM 3 68) (PreC G [.ref (g_ad G 49)] M) (QcI G r M) 0 0 (g_A G) := by
  rw [F_X8_earnAll] at hF
  refine x_start (by decide) (Nat.le_of_ble_eq_true rfl) (lv := [(0, .ref (g_ad G 49))]) rfl ?_
  intro p e s m below meth c cx hr hW hS ls hl
  obtain ⟨hx, hb, hml, hown, hts, hKK, hSS, hlk⟩ := id cx
  refine lv_iconst (v := (0 : Int32)) hx hb dX8_earnAll_0 (by decide) ?_
  refine lv_istore_n (lv' := [(1, .int (0 : Int32)), (0, .ref (g_ad G 49))]) hx hb dX8_earnAll_1 rfl hl (by decide) rfl (fun ls hl => ?_)
  refine lv_iconst (v := (0 : Int32)) hx hb dX8_earnAll_2 (by decide) ?_
  refine lv_istore_n (lv' := [(2, .int (0 : Int32)), (1, .int (0 : Int32)), (0, .ref (g_ad G 49))]) hx hb dX8_earnAll_3 rfl hl (by decide) rfl (fun ls hl => ?_)
  exact t_X8_earnAll_4 cx hr FU (0 : Int32) (0 : Int32) hF _ _ _ hW hS (lv_sub hl [2, 1, 0] rfl)
def F_X8_sumOf_4 (a1 : Int32) (M : Mem) : Nat → Int32 → Int32 → Option Int32
  | 0, _, _ => none
  | n + 1, x2, x3 => ix 51 (2 : Int32) (fun j1 => (if (m_I M 50 j1) ≤ x3 then some x2 else (F_X8_its x3 a1 M).bind (fun r4 => F_X8_sumOf_4 a1 M n (x2 + r4) (x3 + 1))))
set_option maxHeartbeats 4000000 in
set_option maxRecDepth 100000 in
theorem t_X8_sumOf_4 {p : Program} {l : Launch} {e : Env} {s : State} {m : MethodId} {args : Array Value} {below : List Frame} {meth : Method} {c : Code} {G : GG} {a1 : Int32} (cx : Cx G cX8_sumOf RX8 4 p s m args meth c) (hr : meth.sig.returnType = (some .int))   {M : Mem} {r : Int32} : ∀ (n : Nat) (x2 : Int32) (x3 : Int32), F_X8_sumOf_4 a1 M n x2 x3 = some r → ∀ (H : Heap) (locs : List Loc) (ls : Array Slot), WH G M H → va_S (g_A G) s.heap H locs → lv_has ls 4 [(0, .ref (g_ad G 49)), (1, .int a1), (2, .int x2), (3, .int x3)] → W p l e (RM 1 22) s m args below meth c H locs 0 0 (MQ below (QcI G r M) args s 0 0 (g_A G)) (F0 m 4 ls []) := by
  obtain ⟨hx, hb, hml, hown, hts, hKK, hSS, hlk⟩ := id cx
  intro n
  induction n with
  | zero =>
    intro x2 x3 hF H locs ls hW hS hl
    rw [F_X8_sumOf_4] at hF
    cases hF
  | succ n ih =>
    intro x2 x3 hF H locs ls hW hS hl
    rw [F_X8_sumOf_4] at hF
    refine lv_iload_n hx hb dX8_sumOf_4 rfl (lv_at hl 3 rfl) ?_
    refine lv_aload_n hx hb dX8_sumOf_5 rfl (lv_at hl 0 rfl) ?_
    refine x_get cx hW kc_49 fk_X8_7 (v := .ref (g_ad G 50)) rfl dX8_sumOf_6 ?_
    refine lv_iconst (v := (2 : Int32)) hx hb dX8_sumOf_9 (by decide) ?_
    obtain ⟨j1, hj1, gj1, hF⟩ := ix_e hF
    refine x_iald cx hW kc_50 (by decide) hj1 gj1 dX8_sumOf_10 ?_
    refine lv_icmp_ge (tgt := 29) hx hb dX8_sumOf_11 (by decide) (fun c2 => ?_) (fun c2 => ?_)
    · have hF := it_p c2 hF
      refine lv_iload_n hx hb dX8_sumOf_29 rfl (lv_at hl 2 rfl) ?_
      exact x_iret cx hr hW hS (Option.some.inj hF) rfl dX8_sumOf_30
    · have hF := it_n c2 hF
      refine lv_iload_n hx hb dX8_sumOf_14 rfl (lv_at hl 2 rfl) ?_
      refine lv_aload_n hx hb dX8_sumOf_15 rfl (lv_at hl 0 rfl) ?_
      refine lv_iload_n hx hb dX8_sumOf_16 rfl (lv_at hl 3 rfl) ?_
      refine lv_iload_n hx hb dX8_sumOf_17 rfl (lv_at hl 1 rfl) ?_
      obtain ⟨r4, hc3, hF⟩ := bi_e hF
      refine x_goi (x_runV cx hW hS (c_X8_its (l := l) (G := G) hc3) cv_X8_61 kc_49 rfl (rest := [.int x2]) ⟨Nat.le_of_ble_eq_true rfl, Nat.le_of_ble_eq_true rfl⟩ hl.1 rfl rfl (Nat.le_of_ble_eq_true rfl) ⟨Nat.zero_le _, Nat.zero_le _⟩ dX8_sumOf_18) hS (fun H locs hW hS => ?_)
      refine lv_iadd hx hb dX8_sumOf_21 ?_
      refine lv_istore_n (lv' := [(2, .int (x2 + r4)), (0, .ref (g_ad G 49)), (1, .int a1), (3, .int x3)]) hx hb dX8_sumOf_22 rfl hl (by decide) rfl (fun ls hl => ?_)
      refine lv_iinc (v := (x3 + 1)) (lv' := [(3, .int (x3 + 1)), (2, .int (x2 + r4)), (0, .ref (g_ad G 49)), (1, .int a1)]) hx hb dX8_sumOf_23 hl (k := 3) rfl rfl (by decide) rfl (fun ls hl => ?_)
      refine lv_goto (tgt := 4) hx hb dX8_sumOf_26 (by decide) ?_
      exact ih (x2 + r4) (x3 + 1) hF _ _ _ hW hS (lv_sub hl [2, 3, 1, 0] rfl)
def F_X8_sumOf (a1 : Int32) (M : Mem) : Option Int32 := F_X8_sumOf_4 a1 M FU (0 : Int32) (0 : Int32)
set_option maxHeartbeats 4000000 in
set_option maxRecDepth 100000 in
theorem c_X8_sumOf {l : Launch} {G : GG} {a1 : Int32}  {M : Mem} {r : Int32} (hF : F_X8_sumOf a1 M = some r) : Met l yX8_sumOf (wz yX8_sumOf cX8_sumOf 4 (some .int)) (RM 1 22) (PreC G [.ref (g_ad G 49), .int a1] M) (QcI G r M) 0 0 (g_A G) := by
  rw [F_X8_sumOf] at hF
  refine x_start (by decide) (Nat.le_of_ble_eq_true rfl) (lv := [(0, .ref (g_ad G 49)), (1, .int a1)]) rfl ?_
  intro p e s m below meth c cx hr hW hS ls hl
  obtain ⟨hx, hb, hml, hown, hts, hKK, hSS, hlk⟩ := id cx
  refine lv_iconst (v := (0 : Int32)) hx hb dX8_sumOf_0 (by decide) ?_
  refine lv_istore_n (lv' := [(2, .int (0 : Int32)), (0, .ref (g_ad G 49)), (1, .int a1)]) hx hb dX8_sumOf_1 rfl hl (by decide) rfl (fun ls hl => ?_)
  refine lv_iconst (v := (0 : Int32)) hx hb dX8_sumOf_2 (by decide) ?_
  refine lv_istore_n (lv' := [(3, .int (0 : Int32)), (2, .int (0 : Int32)), (0, .ref (g_ad G 49)), (1, .int a1)]) hx hb dX8_sumOf_3 rfl hl (by decide) rfl (fun ls hl => ?_)
  exact t_X8_sumOf_4 cx hr FU (0 : Int32) (0 : Int32) hF _ _ _ hW hS (lv_sub hl [2, 3, 1, 0] rfl)
def F_X8_adds (a1 : Int32) (a2 : Int32) (a3 : Int32) (a4 : Int32) (M : Mem) : Option Mem := ix 51 (2 : Int32) (fun j1 => (F_X8_puts (m_I M 50 j1) (0 : Int32) a1 M).bind (fun M3 => (F_X8_puts (m_I M 50 j1) (1 : Int32) a2 M3).bind (fun M5 => (F_X8_puts (m_I M 50 j1) (2 : Int32) a3 M5).bind (fun M7 => (F_X8_puts (m_I M 50 j1) (3 : Int32) a4 M7).bind (fun M9 => (F_X8_puts (m_I M 50 j1) (4 : Int32) (0 : Int32) M9).bind (fun M11 => (F_X8_puts (m_I M 50 j1) (5 : Int32) (m_I M 50 j1) M11).bind (fun M13 => ix 51 (2 : Int32) (fun j14 => ix 51 (2 : Int32) (fun j15 => pin (w_I M13 50 j15 ((m_I M13 50 j14) + (1 : Int32))) (fun M16 => some M16))))))))))
set_option maxHeartbeats 4000000 in
set_option maxRecDepth 100000 in
theorem c_X8_adds {l : Launch} {G : GG} {a1 : Int32} {a2 : Int32} {a3 : Int32} {a4 : Int32}  {M : Mem} {M1 : Mem} (hF : F_X8_adds a1 a2 a3 a4 M = some M1) : Met l yX8_adds (wz yX8_adds cX8_adds 6 none) (RM 1 23) (PreC G [.ref (g_ad G 49), .int a1, .int a2, .int a3, .int a4] M) (QcV G M1) 0 0 (g_A G) := by
  rw [F_X8_adds] at hF
  refine x_start (by decide) (Nat.le_of_ble_eq_true rfl) (lv := [(0, .ref (g_ad G 49)), (1, .int a1), (2, .int a2), (3, .int a3), (4, .int a4)]) rfl ?_
  intro p e s m below meth c cx hr hW hS ls hl
  obtain ⟨hx, hb, hml, hown, hts, hKK, hSS, hlk⟩ := id cx
  refine lv_aload_n hx hb dX8_adds_0 rfl (lv_at hl 0 rfl) ?_
  refine x_get cx hW kc_49 fk_X8_7 (v := .ref (g_ad G 50)) rfl dX8_adds_1 ?_
  refine lv_iconst (v := (2 : Int32)) hx hb dX8_adds_4 (by decide) ?_
  obtain ⟨j1, hj1, gj1, hF⟩ := ix_e hF
  refine x_iald cx hW kc_50 (by decide) hj1 gj1 dX8_adds_5 ?_
  refine lv_istore (lv' := [(5, .int (m_I M 50 j1)), (0, .ref (g_ad G 49)), (1, .int a1), (2, .int a2), (3, .int a3), (4, .int a4)]) hx hb dX8_adds_6 hl (by decide) rfl (fun ls hl => ?_)
  refine lv_aload_n hx hb dX8_adds_8 rfl (lv_at hl 1 rfl) ?_
  refine lv_iload hx hb dX8_adds_9 (lv_at hl 0 rfl) ?_
  refine lv_iconst (v := (0 : Int32)) hx hb dX8_adds_11 (by decide) ?_
  refine lv_iload_n hx hb dX8_adds_12 rfl (lv_at hl 2 rfl) ?_
  obtain ⟨M3, hc2, hF⟩ := bi_e hF
  refine x_gov (x_runV cx hW hS (c_X8_puts (l := l) (G := G) hc2) cv_X8_76 kc_49 rfl (rest := []) ⟨Nat.le_of_ble_eq_true rfl, Nat.le_of_ble_eq_true rfl⟩ hl.1 rfl rfl (Nat.le_of_ble_eq_true rfl) ⟨Nat.zero_le _, Nat.zero_le _⟩ dX8_adds_13) hS (fun H locs hW hS => ?_)
  refine lv_aload_n hx hb dX8_adds_16 rfl (lv_at hl 1 rfl) ?_
  refine lv_iload hx hb dX8_adds_17 (lv_at hl 0 rfl) ?_
  refine lv_iconst (v := (1 : Int32)) hx hb dX8_adds_19 (by decide) ?_
  refine lv_iload_n hx hb dX8_adds_20 rfl (lv_at hl 3 rfl) ?_
  obtain ⟨M5, hc4, hF⟩ := bi_e hF
  refine x_gov (x_runV cx hW hS (c_X8_puts (l := l) (G := G) hc4) cv_X8_76 kc_49 rfl (rest := []) ⟨Nat.le_of_ble_eq_true rfl, Nat.le_of_ble_eq_true rfl⟩ hl.1 rfl rfl (Nat.le_of_ble_eq_true rfl) ⟨Nat.zero_le _, Nat.zero_le _⟩ dX8_adds_21) hS (fun H locs hW hS => ?_)
  refine lv_aload_n hx hb dX8_adds_24 rfl (lv_at hl 1 rfl) ?_
  refine lv_iload hx hb dX8_adds_25 (lv_at hl 0 rfl) ?_
  refine lv_iconst (v := (2 : Int32)) hx hb dX8_adds_27 (by decide) ?_
  refine lv_iload_n hx hb dX8_adds_28 rfl (lv_at hl 4 rfl) ?_
  obtain ⟨M7, hc6, hF⟩ := bi_e hF
  refine x_gov (x_runV cx hW hS (c_X8_puts (l := l) (G := G) hc6) cv_X8_76 kc_49 rfl (rest := []) ⟨Nat.le_of_ble_eq_true rfl, Nat.le_of_ble_eq_true rfl⟩ hl.1 rfl rfl (Nat.le_of_ble_eq_true rfl) ⟨Nat.zero_le _, Nat.zero_le _⟩ dX8_adds_29) hS (fun H locs hW hS => ?_)
  refine lv_aload_n hx hb dX8_adds_32 rfl (lv_at hl 1 rfl) ?_
  refine lv_iload hx hb dX8_adds_33 (lv_at hl 0 rfl) ?_
  refine lv_iconst (v := (3 : Int32)) hx hb dX8_adds_35 (by decide) ?_
  refine lv_iload hx hb dX8_adds_36 (lv_at hl 5 rfl) ?_
  obtain ⟨M9, hc8, hF⟩ := bi_e hF
  refine x_gov (x_runV cx hW hS (c_X8_puts (l := l) (G := G) hc8) cv_X8_76 kc_49 rfl (rest := []) ⟨Nat.le_of_ble_eq_true rfl, Nat.le_of_ble_eq_true rfl⟩ hl.1 rfl rfl (Nat.le_of_ble_eq_true rfl) ⟨Nat.zero_le _, Nat.zero_le _⟩ dX8_adds_38) hS (fun H locs hW hS => ?_)
  refine lv_aload_n hx hb dX8_adds_41 rfl (lv_at hl 1 rfl) ?_
  refine lv_iload hx hb dX8_adds_42 (lv_at hl 0 rfl) ?_
  refine lv_iconst (v := (4 : Int32)) hx hb dX8_adds_44 (by decide) ?_
  refine lv_iconst (v := (0 : Int32)) hx hb dX8_adds_45 (by decide) ?_
  obtain ⟨M11, hc10, hF⟩ := bi_e hF
  refine x_gov (x_runV cx hW hS (c_X8_puts (l := l) (G := G) hc10) cv_X8_76 kc_49 rfl (rest := []) ⟨Nat.le_of_ble_eq_true rfl, Nat.le_of_ble_eq_true rfl⟩ hl.1 rfl rfl (Nat.le_of_ble_eq_true rfl) ⟨Nat.zero_le _, Nat.zero_le _⟩ dX8_adds_46) hS (fun H locs hW hS => ?_)
  refine lv_aload_n hx hb dX8_adds_49 rfl (lv_at hl 1 rfl) ?_
  refine lv_iload hx hb dX8_adds_50 (lv_at hl 0 rfl) ?_
  refine lv_iconst (v := (5 : Int32)) hx hb dX8_adds_52 (by decide) ?_
  refine lv_iload hx hb dX8_adds_53 (lv_at hl 0 rfl) ?_
  obtain ⟨M13, hc12, hF⟩ := bi_e hF
  refine x_gov (x_runV cx hW hS (c_X8_puts (l := l) (G := G) hc12) cv_X8_76 kc_49 rfl (rest := []) ⟨Nat.le_of_ble_eq_true rfl, Nat.le_of_ble_eq_true rfl⟩ hl.1 rfl rfl (Nat.le_of_ble_eq_true rfl) ⟨Nat.zero_le _, Nat.zero_le _⟩ dX8_adds_55) hS (fun H locs hW hS => ?_)
  refine lv_aload_n hx hb dX8_adds_58 rfl (lv_at hl 1 rfl) ?_
  refine x_get cx hW kc_49 fk_X8_7 (v := .ref (g_ad G 50)) rfl dX8_adds_59 ?_
  refine lv_iconst (v := (2 : Int32)) hx hb dX8_adds_62 (by decide) ?_
  refine lv_dup2_11 hx hb dX8_adds_63 rfl rfl ?_
  obtain ⟨j14, hj14, gj14, hF⟩ := ix_e hF
  refine x_iald cx hW kc_50 (by decide) hj14 gj14 dX8_adds_64 ?_
  refine lv_iconst (v := (1 : Int32)) hx hb dX8_adds_65 (by decide) ?_
  refine lv_iadd hx hb dX8_adds_66 ?_
  obtain ⟨j15, hj15, gj15, hF⟩ := ix_e hF
  obtain ⟨M16, eM16, hF⟩ := pin_e hF
  refine x_iast cx hW hS kc_50 (by decide) hj15 gj15 eM16 dX8_adds_67 (fun H locs hW hS => ?_)
  exact x_vret cx hr hW hS (Option.some.inj hF) dX8_adds_68
def F_X8_person (a1 : Int32) (M : Mem) : Option (Int32 × Mem) := (F_X8_isKind a1 M).bind (fun r2 => (if r2 = 0 then bn (F_X8_finds (-1000000001 : Int32) M) (fun r13 M14 => some (r13, M14)) else ix 51 (2 : Int32) (fun j4 => (if (m_I M 50 j4) = (8 : Int32) then bn (F_X8_finds (-1000000002 : Int32) M) (fun r10 M11 => some (r10, M11)) else (F_X8_adds a1 (5 : Int32) (10 : Int32) (50 : Int32) M).bind (fun M7 => ix 51 (2 : Int32) (fun j8 => some (((m_I M7 50 j8) - (1 : Int32)), M7)))))))
set_option maxHeartbeats 4000000 in
set_option maxRecDepth 100000 in
theorem c_X8_person {l : Launch} {G : GG} {a1 : Int32}  {M : Mem} {r : Int32} {M1 : Mem} (hF : F_X8_person a1 M = some (r, M1)) : Met l yX8_person (wz yX8_person cX8_person 2 (some .int)) (RM 2 48) (PreC G [.ref (g_ad G 49), .int a1] M) (QcI G r M1) 0 0 (g_A G) := by
  rw [F_X8_person] at hF
  refine x_start (by decide) (Nat.le_of_ble_eq_true rfl) (lv := [(0, .ref (g_ad G 49)), (1, .int a1)]) rfl ?_
  intro p e s m below meth c cx hr hW hS ls hl
  obtain ⟨hx, hb, hml, hown, hts, hKK, hSS, hlk⟩ := id cx
  refine lv_iload_n hx hb dX8_person_0 rfl (lv_at hl 1 rfl) ?_
  obtain ⟨r2, hc1, hF⟩ := bi_e hF
  refine x_goi (x_runS cx hW hS (c_X8_isKind (l := l) (G := G) hc1) cs_X8_80 (rest := []) ⟨Nat.le_of_ble_eq_true rfl, Nat.le_of_ble_eq_true rfl⟩ hl.1 rfl rfl (Nat.le_of_ble_eq_true rfl) ⟨Nat.zero_le _, Nat.zero_le _⟩ dX8_person_1) hS (fun H locs hW hS => ?_)
  refine lv_if_ne (tgt := 14) hx hb dX8_person_4 (by decide) (fun c3 => ?_) (fun c3 => ?_)
  · have hF := it_n c3 hF
    refine lv_aload_n hx hb dX8_person_14 rfl (lv_at hl 0 rfl) ?_
    refine x_get cx hW kc_49 fk_X8_7 (v := .ref (g_ad G 50)) rfl dX8_person_15 ?_
    refine lv_iconst (v := (2 : Int32)) hx hb dX8_person_18 (by decide) ?_
    obtain ⟨j4, hj4, gj4, hF⟩ := ix_e hF
    refine x_iald cx hW kc_50 (by decide) hj4 gj4 dX8_person_19 ?_
    refine lv_bipush (v := (8 : Int32)) hx hb dX8_person_20 (by decide) ?_
    refine lv_icmp_ne (tgt := 32) hx hb dX8_person_22 (by decide) (fun c5 => ?_) (fun c5 => ?_)
    · have hF := it_n c5 hF
      refine lv_aload_n hx hb dX8_person_32 rfl (lv_at hl 0 rfl) ?_
      refine lv_iload_n hx hb dX8_person_33 rfl (lv_at hl 1 rfl) ?_
      refine lv_iconst (v := (5 : Int32)) hx hb dX8_person_34 (by decide) ?_
      refine lv_bipush (v := (10 : Int32)) hx hb dX8_person_35 (by decide) ?_
      refine lv_bipush (v := (50 : Int32)) hx hb dX8_person_37 (by decide) ?_
      obtain ⟨M7, hc6, hF⟩ := bi_e hF
      refine x_gov (x_runV cx hW hS (c_X8_adds (l := l) (G := G) hc6) cv_X8_87 kc_49 rfl (rest := []) ⟨Nat.le_of_ble_eq_true rfl, Nat.le_of_ble_eq_true rfl⟩ hl.1 rfl rfl (Nat.le_of_ble_eq_true rfl) ⟨Nat.zero_le _, Nat.zero_le _⟩ dX8_person_39) hS (fun H locs hW hS => ?_)
      refine lv_aload_n hx hb dX8_person_42 rfl (lv_at hl 0 rfl) ?_
      refine x_get cx hW kc_49 fk_X8_7 (v := .ref (g_ad G 50)) rfl dX8_person_43 ?_
      refine lv_iconst (v := (2 : Int32)) hx hb dX8_person_46 (by decide) ?_
      obtain ⟨j8, hj8, gj8, hF⟩ := ix_e hF
      refine x_iald cx hW kc_50 (by decide) hj8 gj8 dX8_person_47 ?_
      refine lv_iconst (v := (1 : Int32)) hx hb dX8_person_48 (by decide) ?_
      refine lv_isub hx hb dX8_person_49 ?_
      exact x_iret cx hr hW hS (sp_1 hF) (sp_2 hF) dX8_person_50
    · have hF := it_p c5 hF
      refine lv_aload_n hx hb dX8_person_25 rfl (lv_at hl 0 rfl) ?_
      refine x_ldc cx q_k_X8_86 dX8_person_26 ?_
      obtain ⟨r10, M11, hc9, hF⟩ := bn_e hF
      refine x_goi (x_runV cx hW hS (c_X8_finds (l := l) (G := G) hc9) cv_X8_83 kc_49 rfl (rest := []) ⟨Nat.le_of_ble_eq_true rfl, Nat.le_of_ble_eq_true rfl⟩ hl.1 rfl rfl (Nat.le_of_ble_eq_true rfl) ⟨Nat.zero_le _, Nat.zero_le _⟩ dX8_person_28) hS (fun H locs hW hS => ?_)
      exact x_iret cx hr hW hS (sp_1 hF) (sp_2 hF) dX8_person_31
  · have hF := it_p c3 hF
    refine lv_aload_n hx hb dX8_person_7 rfl (lv_at hl 0 rfl) ?_
    refine x_ldc cx q_k_X8_56 dX8_person_8 ?_
    obtain ⟨r13, M14, hc12, hF⟩ := bn_e hF
    refine x_goi (x_runV cx hW hS (c_X8_finds (l := l) (G := G) hc12) cv_X8_83 kc_49 rfl (rest := []) ⟨Nat.le_of_ble_eq_true rfl, Nat.le_of_ble_eq_true rfl⟩ hl.1 rfl rfl (Nat.le_of_ble_eq_true rfl) ⟨Nat.zero_le _, Nat.zero_le _⟩ dX8_person_10) hS (fun H locs hW hS => ?_)
    exact x_iret cx hr hW hS (sp_1 hF) (sp_2 hF) dX8_person_13
def F_X8_of (a1 : Int32) (a2 : Int32) (M : Mem) : Option (Int32 × Mem) := (F_X8_isOne a1 M).bind (fun r2 => (if r2 = 0 then bn (F_X8_finds (-1000000001 : Int32) M) (fun r5 M6 => some (r5, M6)) else (F_X8_in a2 (0 : Int32) (6 : Int32) M).bind (fun r8 => (if r8 = 0 then bn (F_X8_finds (-1000000001 : Int32) M) (fun r16 M17 => some (r16, M17)) else (if (6 : Int32) ≤ a2 then (F_X8_earns a1 M).bind (fun r12 => some (r12, M)) else (F_X8_its a1 a2 M).bind (fun r14 => some (r14, M)))))))
set_option maxHeartbeats 4000000 in
set_option maxRecDepth 100000 in
theorem c_X8_of {l : Launch} {G : GG} {a1 : Int32} {a2 : Int32}  {M : Mem} {r : Int32} {M1 : Mem} (hF : F_X8_of a1 a2 M = some (r, M1)) : Met l yX8_of (wz yX8_of cX8_of 3 (some .int)) (RM 3 68) (PreC G [.ref (g_ad G 49), .int a1, .int a2] M) (QcI G r M1) 0 0 (g_A G) := by
  rw [F_X8_of] at hF
  refine x_start (by decide) (Nat.le_of_ble_eq_true rfl) (lv := [(0, .ref (g_ad G 49)), (1, .int a1), (2, .int a2)]) rfl ?_
  intro p e s m below meth c cx hr hW hS ls hl
  obtain ⟨hx, hb, hml, hown, hts, hKK, hSS, hlk⟩ := id cx
  refine lv_aload_n hx hb dX8_of_0 rfl (lv_at hl 0 rfl) ?_
  refine lv_iload_n hx hb dX8_of_1 rfl (lv_at hl 1 rfl) ?_
  obtain ⟨r2, hc1, hF⟩ := bi_e hF
  refine x_goi (x_runV cx hW hS (c_X8_isOne (l := l) (G := G) hc1) cv_X8_91 kc_49 rfl (rest := []) ⟨Nat.le_of_ble_eq_true rfl, Nat.le_of_ble_eq_true rfl⟩ hl.1 rfl rfl (Nat.le_of_ble_eq_true rfl) ⟨Nat.zero_le _, Nat.zero_le _⟩ dX8_of_2) hS (fun H locs hW hS => ?_)
  refine lv_if_eq (tgt := 18) hx hb dX8_of_5 (by decide) (fun c3 => ?_) (fun c3 => ?_)
  · have hF := it_p c3 hF
    refine lv_aload_n hx hb dX8_of_18 rfl (lv_at hl 0 rfl) ?_
    refine x_ldc cx q_k_X8_56 dX8_of_19 ?_
    obtain ⟨r5, M6, hc4, hF⟩ := bn_e hF
    refine x_goi (x_runV cx hW hS (c_X8_finds (l := l) (G := G) hc4) cv_X8_83 kc_49 rfl (rest := []) ⟨Nat.le_of_ble_eq_true rfl, Nat.le_of_ble_eq_true rfl⟩ hl.1 rfl rfl (Nat.le_of_ble_eq_true rfl) ⟨Nat.zero_le _, Nat.zero_le _⟩ dX8_of_21) hS (fun H locs hW hS => ?_)
    exact x_iret cx hr hW hS (sp_1 hF) (sp_2 hF) dX8_of_24
  · have hF := it_n c3 hF
    refine lv_iload_n hx hb dX8_of_8 rfl (lv_at hl 2 rfl) ?_
    refine lv_iconst (v := (0 : Int32)) hx hb dX8_of_9 (by decide) ?_
    refine lv_bipush (v := (6 : Int32)) hx hb dX8_of_10 (by decide) ?_
    obtain ⟨r8, hc7, hF⟩ := bi_e hF
    refine x_goi (x_runS cx hW hS (c_X8_in (l := l) (G := G) hc7) cs_X8_57 (rest := []) ⟨Nat.le_of_ble_eq_true rfl, Nat.le_of_ble_eq_true rfl⟩ hl.1 rfl rfl (Nat.le_of_ble_eq_true rfl) ⟨Nat.zero_le _, Nat.zero_le _⟩ dX8_of_12) hS (fun H locs hW hS => ?_)
    refine lv_if_ne (tgt := 25) hx hb dX8_of_15 (by decide) (fun c9 => ?_) (fun c9 => ?_)
    · have hF := it_n c9 hF
      refine lv_iload_n hx hb dX8_of_25 rfl (lv_at hl 2 rfl) ?_
      refine lv_bipush (v := (6 : Int32)) hx hb dX8_of_26 (by decide) ?_
      refine lv_icmp_ge (tgt := 40) hx hb dX8_of_28 (by decide) (fun c10 => ?_) (fun c10 => ?_)
      · have hF := it_p c10 hF
        refine lv_aload_n hx hb dX8_of_40 rfl (lv_at hl 0 rfl) ?_
        refine lv_iload_n hx hb dX8_of_41 rfl (lv_at hl 1 rfl) ?_
        obtain ⟨r12, hc11, hF⟩ := bi_e hF
        refine x_goi (x_runV cx hW hS (c_X8_earns (l := l) (G := G) hc11) cv_X8_72 kc_49 rfl (rest := []) ⟨Nat.le_of_ble_eq_true rfl, Nat.le_of_ble_eq_true rfl⟩ hl.1 rfl rfl (Nat.le_of_ble_eq_true rfl) ⟨Nat.zero_le _, Nat.zero_le _⟩ dX8_of_42) hS (fun H locs hW hS => ?_)
        exact x_iret cx hr hW hS (sp_1 hF) (sp_2 hF) dX8_of_45
      · have hF := it_n c10 hF
        refine lv_aload_n hx hb dX8_of_31 rfl (lv_at hl 0 rfl) ?_
        refine lv_iload_n hx hb dX8_of_32 rfl (lv_at hl 1 rfl) ?_
        refine lv_iload_n hx hb dX8_of_33 rfl (lv_at hl 2 rfl) ?_
        obtain ⟨r14, hc13, hF⟩ := bi_e hF
        refine x_goi (x_runV cx hW hS (c_X8_its (l := l) (G := G) hc13) cv_X8_61 kc_49 rfl (rest := []) ⟨Nat.le_of_ble_eq_true rfl, Nat.le_of_ble_eq_true rfl⟩ hl.1 rfl rfl (Nat.le_of_ble_eq_true rfl) ⟨Nat.zero_le _, Nat.zero_le _⟩ dX8_of_34) hS (fun H locs hW hS => ?_)
        refine lv_goto (tgt := 45) hx hb dX8_of_37 (by decide) ?_
        exact x_iret cx hr hW hS (sp_1 hF) (sp_2 hF) dX8_of_45
    · have hF := it_p c9 hF
      refine lv_aload_n hx hb dX8_of_18 rfl (lv_at hl 0 rfl) ?_
      refine x_ldc cx q_k_X8_56 dX8_of_19 ?_
      obtain ⟨r16, M17, hc15, hF⟩ := bn_e hF
      refine x_goi (x_runV cx hW hS (c_X8_finds (l := l) (G := G) hc15) cv_X8_83 kc_49 rfl (rest := []) ⟨Nat.le_of_ble_eq_true rfl, Nat.le_of_ble_eq_true rfl⟩ hl.1 rfl rfl (Nat.le_of_ble_eq_true rfl) ⟨Nat.zero_le _, Nat.zero_le _⟩ dX8_of_21) hS (fun H locs hW hS => ?_)
      exact x_iret cx hr hW hS (sp_1 hF) (sp_2 hF) dX8_of_24
def F_X8_says (a1 : Int32) (M : Mem) : Option (Int32 × Mem) := (F_X8_isOne a1 M).bind (fun r2 => (if r2 = 0 then bn (F_X8_finds (-1000000001 : Int32) M) (fun r5 M6 => some (r5, M6)) else (F_X8_its a1 (5 : Int32) M).bind (fun r8 => (F_X8_saysAs a1 r8 M).bind (fun r10 => some (((100 : Int32) + r10), M)))))
set_option maxHeartbeats 4000000 in
set_option maxRecDepth 100000 in
theorem c_X8_says {l : Launch} {G : GG} {a1 : Int32}  {M : Mem} {r : Int32} {M1 : Mem} (hF : F_X8_says a1 M = some (r, M1)) : Met l yX8_says (wz yX8_says cX8_says 2 (some .int)) (RM 2 45) (PreC G [.ref (g_ad G 49), .int a1] M) (QcI G r M1) 0 0 (g_A G) := by
  rw [F_X8_says] at hF
  refine x_start (by decide) (Nat.le_of_ble_eq_true rfl) (lv := [(0, .ref (g_ad G 49)), (1, .int a1)]) rfl ?_
  intro p e s m below meth c cx hr hW hS ls hl
  obtain ⟨hx, hb, hml, hown, hts, hKK, hSS, hlk⟩ := id cx
  refine lv_aload_n hx hb dX8_says_0 rfl (lv_at hl 0 rfl) ?_
  refine lv_iload_n hx hb dX8_says_1 rfl (lv_at hl 1 rfl) ?_
  obtain ⟨r2, hc1, hF⟩ := bi_e hF
  refine x_goi (x_runV cx hW hS (c_X8_isOne (l := l) (G := G) hc1) cv_X8_91 kc_49 rfl (rest := []) ⟨Nat.le_of_ble_eq_true rfl, Nat.le_of_ble_eq_true rfl⟩ hl.1 rfl rfl (Nat.le_of_ble_eq_true rfl) ⟨Nat.zero_le _, Nat.zero_le _⟩ dX8_says_2) hS (fun H locs hW hS => ?_)
  refine lv_if_eq (tgt := 25) hx hb dX8_says_5 (by decide) (fun c3 => ?_) (fun c3 => ?_)
  · have hF := it_p c3 hF
    refine lv_aload_n hx hb dX8_says_25 rfl (lv_at hl 0 rfl) ?_
    refine x_ldc cx q_k_X8_56 dX8_says_26 ?_
    obtain ⟨r5, M6, hc4, hF⟩ := bn_e hF
    refine x_goi (x_runV cx hW hS (c_X8_finds (l := l) (G := G) hc4) cv_X8_83 kc_49 rfl (rest := []) ⟨Nat.le_of_ble_eq_true rfl, Nat.le_of_ble_eq_true rfl⟩ hl.1 rfl rfl (Nat.le_of_ble_eq_true rfl) ⟨Nat.zero_le _, Nat.zero_le _⟩ dX8_says_28) hS (fun H locs hW hS => ?_)
    exact x_iret cx hr hW hS (sp_1 hF) (sp_2 hF) dX8_says_31
  · have hF := it_n c3 hF
    refine lv_bipush (v := (100 : Int32)) hx hb dX8_says_8 (by decide) ?_
    refine lv_aload_n hx hb dX8_says_10 rfl (lv_at hl 0 rfl) ?_
    refine lv_iload_n hx hb dX8_says_11 rfl (lv_at hl 1 rfl) ?_
    refine lv_aload_n hx hb dX8_says_12 rfl (lv_at hl 0 rfl) ?_
    refine lv_iload_n hx hb dX8_says_13 rfl (lv_at hl 1 rfl) ?_
    refine lv_iconst (v := (5 : Int32)) hx hb dX8_says_14 (by decide) ?_
    obtain ⟨r8, hc7, hF⟩ := bi_e hF
    refine x_goi (x_runV cx hW hS (c_X8_its (l := l) (G := G) hc7) cv_X8_61 kc_49 rfl (rest := [.int a1, .ref (g_ad G 49), .int (100 : Int32)]) ⟨Nat.le_of_ble_eq_true rfl, Nat.le_of_ble_eq_true rfl⟩ hl.1 rfl rfl (Nat.le_of_ble_eq_true rfl) ⟨Nat.zero_le _, Nat.zero_le _⟩ dX8_says_15) hS (fun H locs hW hS => ?_)
    obtain ⟨r10, hc9, hF⟩ := bi_e hF
    refine x_goi (x_runV cx hW hS (c_X8_saysAs (l := l) (G := G) hc9) cv_X8_94 kc_49 rfl (rest := [.int (100 : Int32)]) ⟨Nat.le_of_ble_eq_true rfl, Nat.le_of_ble_eq_true rfl⟩ hl.1 rfl rfl (Nat.le_of_ble_eq_true rfl) ⟨Nat.zero_le _, Nat.zero_le _⟩ dX8_says_18) hS (fun H locs hW hS => ?_)
    refine lv_iadd hx hb dX8_says_21 ?_
    refine lv_goto (tgt := 31) hx hb dX8_says_22 (by decide) ?_
    exact x_iret cx hr hW hS (sp_1 hF) (sp_2 hF) dX8_says_31
def F_X8_set_55 (a1 : Int32) (a2 : Int32) (a3 : Int32) (t0 : Int32) (M : Mem) : Option (Int32 × Mem) := (F_X8_isOne a1 M).bind (fun r8 => (if r8 = 0 then bn (F_X8_finds (-1000000001 : Int32) M) (fun r11 M12 => some (r11, M12)) else (if t0 = 0 then bn (F_X8_finds (-1000000001 : Int32) M) (fun r15 M16 => some (r15, M16)) else bn (F_X8_becomes (((3 : Int32) + ((6 : Int32) * a1)) + a2) a3 M) (fun r18 M19 => some (r18, M19)))))
set_option maxHeartbeats 4000000 in
set_option maxRecDepth 100000 in
theorem t_X8_set_55 {p : Program} {l : Launch} {e : Env} {s : State} {m : MethodId} {args : Array Value} {below : List Frame} {meth : Method} {c : Code} {G : GG} {a1 : Int32} {a2 : Int32} {a3 : Int32} (cx : Cx G cX8_set RX8 5 p s m args meth c) (hr : meth.sig.returnType = (some .int))   {r : Int32} {M1 : Mem} : ∀ (t0 : Int32) (M : Mem), F_X8_set_55 a1 a2 a3 t0 M = some (r, M1) → ∀ (H : Heap) (locs : List Loc) (ls : Array Slot), WH G M H → va_S (g_A G) s.heap H locs → lv_has ls 5 [(0, .ref (g_ad G 49)), (1, .int a1), (2, .int a2), (3, .int a3)] → W p l e (RM 2 43) s m args below meth c H locs 0 0 (MQ below (QcI G r M1) args s 0 0 (g_A G)) (F0 m 55 ls [.int t0]) := by
  obtain ⟨hx, hb, hml, hown, hts, hKK, hSS, hlk⟩ := id cx
  intro t0 M hF H locs ls hW hS hl
  rw [F_X8_set_55] at hF
  refine lv_istore (lv' := [(4, .int t0), (0, .ref (g_ad G 49)), (1, .int a1), (2, .int a2), (3, .int a3)]) hx hb dX8_set_55 hl (by decide) rfl (fun ls hl => ?_)
  refine lv_aload_n hx hb dX8_set_57 rfl (lv_at hl 1 rfl) ?_
  refine lv_iload_n hx hb dX8_set_58 rfl (lv_at hl 2 rfl) ?_
  obtain ⟨r8, hc7, hF⟩ := bi_e hF
  refine x_goi (x_runV cx hW hS (c_X8_isOne (l := l) (G := G) hc7) cv_X8_91 kc_49 rfl (rest := []) ⟨Nat.le_of_ble_eq_true rfl, Nat.le_of_ble_eq_true rfl⟩ hl.1 rfl rfl (Nat.le_of_ble_eq_true rfl) ⟨Nat.zero_le _, Nat.zero_le _⟩ dX8_set_59) hS (fun H locs hW hS => ?_)
  refine lv_if_eq (tgt := 86) hx hb dX8_set_62 (by decide) (fun c9 => ?_) (fun c9 => ?_)
  · have hF := it_p c9 hF
    refine lv_aload_n hx hb dX8_set_86 rfl (lv_at hl 1 rfl) ?_
    refine x_ldc cx q_k_X8_56 dX8_set_87 ?_
    obtain ⟨r11, M12, hc10, hF⟩ := bn_e hF
    refine x_goi (x_runV cx hW hS (c_X8_finds (l := l) (G := G) hc10) cv_X8_83 kc_49 rfl (rest := []) ⟨Nat.le_of_ble_eq_true rfl, Nat.le_of_ble_eq_true rfl⟩ hl.1 rfl rfl (Nat.le_of_ble_eq_true rfl) ⟨Nat.zero_le _, Nat.zero_le _⟩ dX8_set_89) hS (fun H locs hW hS => ?_)
    exact x_iret cx hr hW hS (sp_1 hF) (sp_2 hF) dX8_set_92
  · have hF := it_n c9 hF
    refine lv_iload hx hb dX8_set_65 (lv_at hl 0 rfl) ?_
    refine lv_if_eq (tgt := 86) hx hb dX8_set_67 (by decide) (fun c13 => ?_) (fun c13 => ?_)
    · have hF := it_p c13 hF
      refine lv_aload_n hx hb dX8_set_86 rfl (lv_at hl 1 rfl) ?_
      refine x_ldc cx q_k_X8_56 dX8_set_87 ?_
      obtain ⟨r15, M16, hc14, hF⟩ := bn_e hF
      refine x_goi (x_runV cx hW hS (c_X8_finds (l := l) (G := G) hc14) cv_X8_83 kc_49 rfl (rest := []) ⟨Nat.le_of_ble_eq_true rfl, Nat.le_of_ble_eq_true rfl⟩ hl.1 rfl rfl (Nat.le_of_ble_eq_true rfl) ⟨Nat.zero_le _, Nat.zero_le _⟩ dX8_set_89) hS (fun H locs hW hS => ?_)
      exact x_iret cx hr hW hS (sp_1 hF) (sp_2 hF) dX8_set_92
    · have hF := it_n c13 hF
      refine lv_aload_n hx hb dX8_set_70 rfl (lv_at hl 1 rfl) ?_
      refine lv_iconst (v := (3 : Int32)) hx hb dX8_set_71 (by decide) ?_
      refine lv_bipush (v := (6 : Int32)) hx hb dX8_set_72 (by decide) ?_
      refine lv_iload_n hx hb dX8_set_74 rfl (lv_at hl 2 rfl) ?_
      refine lv_imul hx hb dX8_set_75 ?_
      refine lv_iadd hx hb dX8_set_76 ?_
      refine lv_iload_n hx hb dX8_set_77 rfl (lv_at hl 3 rfl) ?_
      refine lv_iadd hx hb dX8_set_78 ?_
      refine lv_iload_n hx hb dX8_set_79 rfl (lv_at hl 4 rfl) ?_
      obtain ⟨r18, M19, hc17, hF⟩ := bn_e hF
      refine x_goi (x_runV cx hW hS (c_X8_becomes (l := l) (G := G) hc17) cv_X8_98 kc_49 rfl (rest := []) ⟨Nat.le_of_ble_eq_true rfl, Nat.le_of_ble_eq_true rfl⟩ hl.1 rfl rfl (Nat.le_of_ble_eq_true rfl) ⟨Nat.zero_le _, Nat.zero_le _⟩ dX8_set_80) hS (fun H locs hW hS => ?_)
      refine lv_goto (tgt := 92) hx hb dX8_set_83 (by decide) ?_
      exact x_iret cx hr hW hS (sp_1 hF) (sp_2 hF) dX8_set_92
def F_X8_set (a1 : Int32) (a2 : Int32) (a3 : Int32) (M : Mem) : Option (Int32 × Mem) := (if a2 = (1 : Int32) then (F_X8_in a3 (0 : Int32) (20 : Int32) M).bind (fun r27 => F_X8_set_55 a1 a2 a3 r27 M) else (if a2 = (2 : Int32) then (F_X8_in a3 (0 : Int32) (99999 : Int32) M).bind (fun r25 => F_X8_set_55 a1 a2 a3 r25 M) else (if a2 = (3 : Int32) then (F_X8_in a3 (0 : Int32) (99 : Int32) M).bind (fun r5 => (if r5 = 0 then F_X8_set_55 a1 a2 a3 (0 : Int32) M else F_X8_set_55 a1 a2 a3 (1 : Int32) M)) else (if a2 = (4 : Int32) then (F_X8_in a3 (0 : Int32) (99 : Int32) M).bind (fun r22 => (if r22 = 0 then F_X8_set_55 a1 a2 a3 (0 : Int32) M else F_X8_set_55 a1 a2 a3 (1 : Int32) M)) else F_X8_set_55 a1 a2 a3 (0 : Int32) M))))
set_option maxHeartbeats 4000000 in
set_option maxRecDepth 100000 in
theorem c_X8_set {l : Launch} {G : GG} {a1 : Int32} {a2 : Int32} {a3 : Int32}  {M : Mem} {r : Int32} {M1 : Mem} (hF : F_X8_set a1 a2 a3 M = some (r, M1)) : Met l yX8_set (wz yX8_set cX8_set 5 (some .int)) (RM 2 43) (PreC G [.ref (g_ad G 49), .int a1, .int a2, .int a3] M) (QcI G r M1) 0 0 (g_A G) := by
  rw [F_X8_set] at hF
  refine x_start (by decide) (Nat.le_of_ble_eq_true rfl) (lv := [(0, .ref (g_ad G 49)), (1, .int a1), (2, .int a2), (3, .int a3)]) rfl ?_
  intro p e s m below meth c cx hr hW hS ls hl
  obtain ⟨hx, hb, hml, hown, hts, hKK, hSS, hlk⟩ := id cx
  refine lv_iload_n hx hb dX8_set_0 rfl (lv_at hl 2 rfl) ?_
  refine lv_iconst (v := (1 : Int32)) hx hb dX8_set_1 (by decide) ?_
  refine lv_icmp_ne (tgt := 15) hx hb dX8_set_2 (by decide) (fun c1 => ?_) (fun c1 => ?_)
  · have hF := it_n c1 hF
    refine lv_iload_n hx hb dX8_set_15 rfl (lv_at hl 2 rfl) ?_
    refine lv_iconst (v := (2 : Int32)) hx hb dX8_set_16 (by decide) ?_
    refine lv_icmp_ne (tgt := 30) hx hb dX8_set_17 (by decide) (fun c2 => ?_) (fun c2 => ?_)
    · have hF := it_n c2 hF
      refine lv_iload_n hx hb dX8_set_30 rfl (lv_at hl 2 rfl) ?_
      refine lv_iconst (v := (3 : Int32)) hx hb dX8_set_31 (by decide) ?_
      refine lv_icmp_eq (tgt := 40) hx hb dX8_set_32 (by decide) (fun c3 => ?_) (fun c3 => ?_)
      · have hF := it_p c3 hF
        refine lv_iload_n hx hb dX8_set_40 rfl (lv_at hl 3 rfl) ?_
        refine lv_iconst (v := (0 : Int32)) hx hb dX8_set_41 (by decide) ?_
        refine lv_bipush (v := (99 : Int32)) hx hb dX8_set_42 (by decide) ?_
        obtain ⟨r5, hc4, hF⟩ := bi_e hF
        refine x_goi (x_runS cx hW hS (c_X8_in (l := l) (G := G) hc4) cs_X8_57 (rest := []) ⟨Nat.le_of_ble_eq_true rfl, Nat.le_of_ble_eq_true rfl⟩ hl.1 rfl rfl (Nat.le_of_ble_eq_true rfl) ⟨Nat.zero_le _, Nat.zero_le _⟩ dX8_set_44) hS (fun H locs hW hS => ?_)
        refine lv_if_eq (tgt := 54) hx hb dX8_set_47 (by decide) (fun c6 => ?_) (fun c6 => ?_)
        · have hF := it_p c6 hF
          refine lv_iconst (v := (0 : Int32)) hx hb dX8_set_54 (by decide) ?_
          exact t_X8_set_55 cx hr (0 : Int32) M hF _ _ _ hW hS (lv_sub hl [0, 1, 2, 3] rfl)
        · have hF := it_n c6 hF
          refine lv_iconst (v := (1 : Int32)) hx hb dX8_set_50 (by decide) ?_
          refine lv_goto (tgt := 55) hx hb dX8_set_51 (by decide) ?_
          exact t_X8_set_55 cx hr (1 : Int32) M hF _ _ _ hW hS (lv_sub hl [0, 1, 2, 3] rfl)
      · have hF := it_n c3 hF
        refine lv_iload_n hx hb dX8_set_35 rfl (lv_at hl 2 rfl) ?_
        refine lv_iconst (v := (4 : Int32)) hx hb dX8_set_36 (by decide) ?_
        refine lv_icmp_ne (tgt := 54) hx hb dX8_set_37 (by decide) (fun c20 => ?_) (fun c20 => ?_)
        · have hF := it_n c20 hF
          refine lv_iconst (v := (0 : Int32)) hx hb dX8_set_54 (by decide) ?_
          exact t_X8_set_55 cx hr (0 : Int32) M hF _ _ _ hW hS (lv_sub hl [0, 1, 2, 3] rfl)
        · have hF := it_p c20 hF
          refine lv_iload_n hx hb dX8_set_40 rfl (lv_at hl 3 rfl) ?_
          refine lv_iconst (v := (0 : Int32)) hx hb dX8_set_41 (by decide) ?_
          refine lv_bipush (v := (99 : Int32)) hx hb dX8_set_42 (by decide) ?_
          obtain ⟨r22, hc21, hF⟩ := bi_e hF
          refine x_goi (x_runS cx hW hS (c_X8_in (l := l) (G := G) hc21) cs_X8_57 (rest := []) ⟨Nat.le_of_ble_eq_true rfl, Nat.le_of_ble_eq_true rfl⟩ hl.1 rfl rfl (Nat.le_of_ble_eq_true rfl) ⟨Nat.zero_le _, Nat.zero_le _⟩ dX8_set_44) hS (fun H locs hW hS => ?_)
          refine lv_if_eq (tgt := 54) hx hb dX8_set_47 (by decide) (fun c23 => ?_) (fun c23 => ?_)
          · have hF := it_p c23 hF
            refine lv_iconst (v := (0 : Int32)) hx hb dX8_set_54 (by decide) ?_
            exact t_X8_set_55 cx hr (0 : Int32) M hF _ _ _ hW hS (lv_sub hl [0, 1, 2, 3] rfl)
          · have hF := it_n c23 hF
            refine lv_iconst (v := (1 : Int32)) hx hb dX8_set_50 (by decide) ?_
            refine lv_goto (tgt := 55) hx hb dX8_set_51 (by decide) ?_
            exact t_X8_set_55 cx hr (1 : Int32) M hF _ _ _ hW hS (lv_sub hl [0, 1, 2, 3] rfl)
    · have hF := it_p c2 hF
      refine lv_iload_n hx hb dX8_set_20 rfl (lv_at hl 3 rfl) ?_
      refine lv_iconst (v := (0 : Int32)) hx hb dX8_set_21 (by decide) ?_
      refine x_ldc cx q_k_X8_97 dX8_set_22 ?_
      obtain ⟨r25, hc24, hF⟩ := bi_e hF
      refine x_goi (x_runS cx hW hS (c_X8_in (l := l) (G := G) hc24) cs_X8_57 (rest := []) ⟨Nat.le_of_ble_eq_true rfl, Nat.le_of_ble_eq_true rfl⟩ hl.1 rfl rfl (Nat.le_of_ble_eq_true rfl) ⟨Nat.zero_le _, Nat.zero_le _⟩ dX8_set_24) hS (fun H locs hW hS => ?_)
      refine lv_goto (tgt := 55) hx hb dX8_set_27 (by decide) ?_
      exact t_X8_set_55 cx hr r25 M hF _ _ _ hW hS (lv_sub hl [0, 1, 2, 3] rfl)
  · have hF := it_p c1 hF
    refine lv_iload_n hx hb dX8_set_5 rfl (lv_at hl 3 rfl) ?_
    refine lv_iconst (v := (0 : Int32)) hx hb dX8_set_6 (by decide) ?_
    refine lv_bipush (v := (20 : Int32)) hx hb dX8_set_7 (by decide) ?_
    obtain ⟨r27, hc26, hF⟩ := bi_e hF
    refine x_goi (x_runS cx hW hS (c_X8_in (l := l) (G := G) hc26) cs_X8_57 (rest := []) ⟨Nat.le_of_ble_eq_true rfl, Nat.le_of_ble_eq_true rfl⟩ hl.1 rfl rfl (Nat.le_of_ble_eq_true rfl) ⟨Nat.zero_le _, Nat.zero_le _⟩ dX8_set_9) hS (fun H locs hW hS => ?_)
    refine lv_goto (tgt := 55) hx hb dX8_set_12 (by decide) ?_
    exact t_X8_set_55 cx hr r27 M hF _ _ _ hW hS (lv_sub hl [0, 1, 2, 3] rfl)
def F_X8_turn (a1 : Int32) (a2 : Int32) (M : Mem) : Option (Int32 × Mem) := (F_X8_isOne a1 M).bind (fun r2 => (if r2 = 0 then bn (F_X8_finds (-1000000001 : Int32) M) (fun r5 M6 => some (r5, M6)) else (F_X8_isKind a2 M).bind (fun r8 => (if r8 = 0 then bn (F_X8_finds (-1000000001 : Int32) M) (fun r11 M12 => some (r11, M12)) else bn (F_X8_becomes ((3 : Int32) + ((6 : Int32) * a1)) a2 M) (fun r14 M15 => some (r14, M15))))))
set_option maxHeartbeats 4000000 in
set_option maxRecDepth 100000 in
theorem c_X8_turn {l : Launch} {G : GG} {a1 : Int32} {a2 : Int32}  {M : Mem} {r : Int32} {M1 : Mem} (hF : F_X8_turn a1 a2 M = some (r, M1)) : Met l yX8_turn (wz yX8_turn cX8_turn 3 (some .int)) (RM 2 43) (PreC G [.ref (g_ad G 49), .int a1, .int a2] M) (QcI G r M1) 0 0 (g_A G) := by
  rw [F_X8_turn] at hF
  refine x_start (by decide) (Nat.le_of_ble_eq_true rfl) (lv := [(0, .ref (g_ad G 49)), (1, .int a1), (2, .int a2)]) rfl ?_
  intro p e s m below meth c cx hr hW hS ls hl
  obtain ⟨hx, hb, hml, hown, hts, hKK, hSS, hlk⟩ := id cx
  refine lv_aload_n hx hb dX8_turn_0 rfl (lv_at hl 0 rfl) ?_
  refine lv_iload_n hx hb dX8_turn_1 rfl (lv_at hl 1 rfl) ?_
  obtain ⟨r2, hc1, hF⟩ := bi_e hF
  refine x_goi (x_runV cx hW hS (c_X8_isOne (l := l) (G := G) hc1) cv_X8_91 kc_49 rfl (rest := []) ⟨Nat.le_of_ble_eq_true rfl, Nat.le_of_ble_eq_true rfl⟩ hl.1 rfl rfl (Nat.le_of_ble_eq_true rfl) ⟨Nat.zero_le _, Nat.zero_le _⟩ dX8_turn_2) hS (fun H locs hW hS => ?_)
  refine lv_if_eq (tgt := 29) hx hb dX8_turn_5 (by decide) (fun c3 => ?_) (fun c3 => ?_)
  · have hF := it_p c3 hF
    refine lv_aload_n hx hb dX8_turn_29 rfl (lv_at hl 0 rfl) ?_
    refine x_ldc cx q_k_X8_56 dX8_turn_30 ?_
    obtain ⟨r5, M6, hc4, hF⟩ := bn_e hF
    refine x_goi (x_runV cx hW hS (c_X8_finds (l := l) (G := G) hc4) cv_X8_83 kc_49 rfl (rest := []) ⟨Nat.le_of_ble_eq_true rfl, Nat.le_of_ble_eq_true rfl⟩ hl.1 rfl rfl (Nat.le_of_ble_eq_true rfl) ⟨Nat.zero_le _, Nat.zero_le _⟩ dX8_turn_32) hS (fun H locs hW hS => ?_)
    exact x_iret cx hr hW hS (sp_1 hF) (sp_2 hF) dX8_turn_35
  · have hF := it_n c3 hF
    refine lv_iload_n hx hb dX8_turn_8 rfl (lv_at hl 2 rfl) ?_
    obtain ⟨r8, hc7, hF⟩ := bi_e hF
    refine x_goi (x_runS cx hW hS (c_X8_isKind (l := l) (G := G) hc7) cs_X8_80 (rest := []) ⟨Nat.le_of_ble_eq_true rfl, Nat.le_of_ble_eq_true rfl⟩ hl.1 rfl rfl (Nat.le_of_ble_eq_true rfl) ⟨Nat.zero_le _, Nat.zero_le _⟩ dX8_turn_9) hS (fun H locs hW hS => ?_)
    refine lv_if_eq (tgt := 29) hx hb dX8_turn_12 (by decide) (fun c9 => ?_) (fun c9 => ?_)
    · have hF := it_p c9 hF
      refine lv_aload_n hx hb dX8_turn_29 rfl (lv_at hl 0 rfl) ?_
      refine x_ldc cx q_k_X8_56 dX8_turn_30 ?_
      obtain ⟨r11, M12, hc10, hF⟩ := bn_e hF
      refine x_goi (x_runV cx hW hS (c_X8_finds (l := l) (G := G) hc10) cv_X8_83 kc_49 rfl (rest := []) ⟨Nat.le_of_ble_eq_true rfl, Nat.le_of_ble_eq_true rfl⟩ hl.1 rfl rfl (Nat.le_of_ble_eq_true rfl) ⟨Nat.zero_le _, Nat.zero_le _⟩ dX8_turn_32) hS (fun H locs hW hS => ?_)
      exact x_iret cx hr hW hS (sp_1 hF) (sp_2 hF) dX8_turn_35
    · have hF := it_n c9 hF
      refine lv_aload_n hx hb dX8_turn_15 rfl (lv_at hl 0 rfl) ?_
      refine lv_iconst (v := (3 : Int32)) hx hb dX8_turn_16 (by decide) ?_
      refine lv_bipush (v := (6 : Int32)) hx hb dX8_turn_17 (by decide) ?_
      refine lv_iload_n hx hb dX8_turn_19 rfl (lv_at hl 1 rfl) ?_
      refine lv_imul hx hb dX8_turn_20 ?_
      refine lv_iadd hx hb dX8_turn_21 ?_
      refine lv_iload_n hx hb dX8_turn_22 rfl (lv_at hl 2 rfl) ?_
      obtain ⟨r14, M15, hc13, hF⟩ := bn_e hF
      refine x_goi (x_runV cx hW hS (c_X8_becomes (l := l) (G := G) hc13) cv_X8_98 kc_49 rfl (rest := []) ⟨Nat.le_of_ble_eq_true rfl, Nat.le_of_ble_eq_true rfl⟩ hl.1 rfl rfl (Nat.le_of_ble_eq_true rfl) ⟨Nat.zero_le _, Nat.zero_le _⟩ dX8_turn_23) hS (fun H locs hW hS => ?_)
      refine lv_goto (tgt := 35) hx hb dX8_turn_26 (by decide) ?_
      exact x_iret cx hr hW hS (sp_1 hF) (sp_2 hF) dX8_turn_35
def F_X8_as_58 (a1 : Int32) (a2 : Int32) (M : Mem) : Option (Int32 × Mem) := (if (1 : Int32) = 0 then bn (F_X8_finds (-1000000003 : Int32) M) (fun r15 M16 => some (r15, M16)) else (F_X8_its a1 (3 : Int32) M).bind (fun r18 => some (r18, M)))
set_option maxHeartbeats 4000000 in
set_option maxRecDepth 100000 in
theorem t_X8_as_58 {p : Program} {l : Launch} {e : Env} {s : State} {m : MethodId} {args : Array Value} {below : List Frame} {meth : Method} {c : Code} {G : GG} {a1 : Int32} {a2 : Int32} (cx : Cx G cX8_as RX8 5 p s m args meth c) (hr : meth.sig.returnType = (some .int))   {r : Int32} {M1 : Mem} : ∀ (M : Mem), F_X8_as_58 a1 a2 M = some (r, M1) → ∀ (H : Heap) (locs : List Loc) (ls : Array Slot), WH G M H → va_S (g_A G) s.heap H locs → lv_has ls 5 [(0, .ref (g_ad G 49)), (1, .int a1)] → W p l e (RM 2 43) s m args below meth c H locs 0 0 (MQ below (QcI G r M1) args s 0 0 (g_A G)) (F0 m 58 ls []) := by
  obtain ⟨hx, hb, hml, hown, hts, hKK, hSS, hlk⟩ := id cx
  intro M hF H locs ls hW hS hl
  rw [F_X8_as_58] at hF
  refine lv_iconst (v := (1 : Int32)) hx hb dX8_as_58 (by decide) ?_
  refine lv_goto (tgt := 63) hx hb dX8_as_59 (by decide) ?_
  refine lv_istore (lv' := [(4, .int (1 : Int32)), (0, .ref (g_ad G 49)), (1, .int a1)]) hx hb dX8_as_63 hl (by decide) rfl (fun ls hl => ?_)
  refine lv_iload hx hb dX8_as_65 (lv_at hl 0 rfl) ?_
  refine lv_if_eq (tgt := 79) hx hb dX8_as_67 (by decide) (fun c13 => ?_) (fun c13 => ?_)
  · have hF := it_p c13 hF
    refine lv_aload_n hx hb dX8_as_79 rfl (lv_at hl 1 rfl) ?_
    refine x_ldc cx q_k_X8_101 dX8_as_80 ?_
    obtain ⟨r15, M16, hc14, hF⟩ := bn_e hF
    refine x_goi (x_runV cx hW hS (c_X8_finds (l := l) (G := G) hc14) cv_X8_83 kc_49 rfl (rest := []) ⟨Nat.le_of_ble_eq_true rfl, Nat.le_of_ble_eq_true rfl⟩ hl.1 rfl rfl (Nat.le_of_ble_eq_true rfl) ⟨Nat.zero_le _, Nat.zero_le _⟩ dX8_as_82) hS (fun H locs hW hS => ?_)
    exact x_iret cx hr hW hS (sp_1 hF) (sp_2 hF) dX8_as_85
  · have hF := it_n c13 hF
    refine lv_aload_n hx hb dX8_as_70 rfl (lv_at hl 1 rfl) ?_
    refine lv_iload_n hx hb dX8_as_71 rfl (lv_at hl 2 rfl) ?_
    refine lv_iconst (v := (3 : Int32)) hx hb dX8_as_72 (by decide) ?_
    obtain ⟨r18, hc17, hF⟩ := bi_e hF
    refine x_goi (x_runV cx hW hS (c_X8_its (l := l) (G := G) hc17) cv_X8_61 kc_49 rfl (rest := []) ⟨Nat.le_of_ble_eq_true rfl, Nat.le_of_ble_eq_true rfl⟩ hl.1 rfl rfl (Nat.le_of_ble_eq_true rfl) ⟨Nat.zero_le _, Nat.zero_le _⟩ dX8_as_73) hS (fun H locs hW hS => ?_)
    refine lv_goto (tgt := 85) hx hb dX8_as_76 (by decide) ?_
    exact x_iret cx hr hW hS (sp_1 hF) (sp_2 hF) dX8_as_85
def F_X8_as_62 (a1 : Int32) (a2 : Int32) (M : Mem) : Option (Int32 × Mem) := (if (0 : Int32) = 0 then bn (F_X8_finds (-1000000003 : Int32) M) (fun r24 M25 => some (r24, M25)) else (F_X8_its a1 (3 : Int32) M).bind (fun r27 => some (r27, M)))
set_option maxHeartbeats 4000000 in
set_option maxRecDepth 100000 in
theorem t_X8_as_62 {p : Program} {l : Launch} {e : Env} {s : State} {m : MethodId} {args : Array Value} {below : List Frame} {meth : Method} {c : Code} {G : GG} {a1 : Int32} {a2 : Int32} (cx : Cx G cX8_as RX8 5 p s m args meth c) (hr : meth.sig.returnType = (some .int))   {r : Int32} {M1 : Mem} : ∀ (M : Mem), F_X8_as_62 a1 a2 M = some (r, M1) → ∀ (H : Heap) (locs : List Loc) (ls : Array Slot), WH G M H → va_S (g_A G) s.heap H locs → lv_has ls 5 [(0, .ref (g_ad G 49)), (1, .int a1)] → W p l e (RM 2 43) s m args below meth c H locs 0 0 (MQ below (QcI G r M1) args s 0 0 (g_A G)) (F0 m 62 ls []) := by
  obtain ⟨hx, hb, hml, hown, hts, hKK, hSS, hlk⟩ := id cx
  intro M hF H locs ls hW hS hl
  rw [F_X8_as_62] at hF
  refine lv_iconst (v := (0 : Int32)) hx hb dX8_as_62 (by decide) ?_
  refine lv_istore (lv' := [(4, .int (0 : Int32)), (0, .ref (g_ad G 49)), (1, .int a1)]) hx hb dX8_as_63 hl (by decide) rfl (fun ls hl => ?_)
  refine lv_iload hx hb dX8_as_65 (lv_at hl 0 rfl) ?_
  refine lv_if_eq (tgt := 79) hx hb dX8_as_67 (by decide) (fun c22 => ?_) (fun c22 => ?_)
  · have hF := it_p c22 hF
    refine lv_aload_n hx hb dX8_as_79 rfl (lv_at hl 1 rfl) ?_
    refine x_ldc cx q_k_X8_101 dX8_as_80 ?_
    obtain ⟨r24, M25, hc23, hF⟩ := bn_e hF
    refine x_goi (x_runV cx hW hS (c_X8_finds (l := l) (G := G) hc23) cv_X8_83 kc_49 rfl (rest := []) ⟨Nat.le_of_ble_eq_true rfl, Nat.le_of_ble_eq_true rfl⟩ hl.1 rfl rfl (Nat.le_of_ble_eq_true rfl) ⟨Nat.zero_le _, Nat.zero_le _⟩ dX8_as_82) hS (fun H locs hW hS => ?_)
    exact x_iret cx hr hW hS (sp_1 hF) (sp_2 hF) dX8_as_85
  · have hF := it_n c22 hF
    refine lv_aload_n hx hb dX8_as_70 rfl (lv_at hl 1 rfl) ?_
    refine lv_iload_n hx hb dX8_as_71 rfl (lv_at hl 2 rfl) ?_
    refine lv_iconst (v := (3 : Int32)) hx hb dX8_as_72 (by decide) ?_
    obtain ⟨r27, hc26, hF⟩ := bi_e hF
    refine x_goi (x_runV cx hW hS (c_X8_its (l := l) (G := G) hc26) cv_X8_61 kc_49 rfl (rest := []) ⟨Nat.le_of_ble_eq_true rfl, Nat.le_of_ble_eq_true rfl⟩ hl.1 rfl rfl (Nat.le_of_ble_eq_true rfl) ⟨Nat.zero_le _, Nat.zero_le _⟩ dX8_as_73) hS (fun H locs hW hS => ?_)
    refine lv_goto (tgt := 85) hx hb dX8_as_76 (by decide) ?_
    exact x_iret cx hr hW hS (sp_1 hF) (sp_2 hF) dX8_as_85
def F_X8_as (a1 : Int32) (a2 : Int32) (M : Mem) : Option (Int32 × Mem) := (F_X8_isOne a1 M).bind (fun r2 => (if r2 = 0 then bn (F_X8_finds (-1000000001 : Int32) M) (fun r5 M6 => some (r5, M6)) else (F_X8_isKind a2 M).bind (fun r8 => (if r8 = 0 then bn (F_X8_finds (-1000000001 : Int32) M) (fun r33 M34 => some (r33, M34)) else (F_X8_its a1 (0 : Int32) M).bind (fun r11 => (if a2 = 0 then F_X8_as_58 a1 a2 M else (if a2 = r11 then F_X8_as_58 a1 a2 M else (if a2 = (1 : Int32) then (if r11 = (4 : Int32) then F_X8_as_58 a1 a2 M else (if a2 = (2 : Int32) then (if r11 = (5 : Int32) then F_X8_as_58 a1 a2 M else F_X8_as_62 a1 a2 M) else F_X8_as_62 a1 a2 M)) else (if a2 = (2 : Int32) then (if r11 = (5 : Int32) then F_X8_as_58 a1 a2 M else F_X8_as_62 a1 a2 M) else F_X8_as_62 a1 a2 M)))))))))
set_option maxHeartbeats 4000000 in
set_option maxRecDepth 100000 in
theorem c_X8_as {l : Launch} {G : GG} {a1 : Int32} {a2 : Int32}  {M : Mem} {r : Int32} {M1 : Mem} (hF : F_X8_as a1 a2 M = some (r, M1)) : Met l yX8_as (wz yX8_as cX8_as 5 (some .int)) (RM 2 43) (PreC G [.ref (g_ad G 49), .int a1, .int a2] M) (QcI G r M1) 0 0 (g_A G) := by
  rw [F_X8_as] at hF
  refine x_start (by decide) (Nat.le_of_ble_eq_true rfl) (lv := [(0, .ref (g_ad G 49)), (1, .int a1), (2, .int a2)]) rfl ?_
  intro p e s m below meth c cx hr hW hS ls hl
  obtain ⟨hx, hb, hml, hown, hts, hKK, hSS, hlk⟩ := id cx
  refine lv_aload_n hx hb dX8_as_0 rfl (lv_at hl 0 rfl) ?_
  refine lv_iload_n hx hb dX8_as_1 rfl (lv_at hl 1 rfl) ?_
  obtain ⟨r2, hc1, hF⟩ := bi_e hF
  refine x_goi (x_runV cx hW hS (c_X8_isOne (l := l) (G := G) hc1) cv_X8_91 kc_49 rfl (rest := []) ⟨Nat.le_of_ble_eq_true rfl, Nat.le_of_ble_eq_true rfl⟩ hl.1 rfl rfl (Nat.le_of_ble_eq_true rfl) ⟨Nat.zero_le _, Nat.zero_le _⟩ dX8_as_2) hS (fun H locs hW hS => ?_)
  refine lv_if_eq (tgt := 15) hx hb dX8_as_5 (by decide) (fun c3 => ?_) (fun c3 => ?_)
  · have hF := it_p c3 hF
    refine lv_aload_n hx hb dX8_as_15 rfl (lv_at hl 0 rfl) ?_
    refine x_ldc cx q_k_X8_56 dX8_as_16 ?_
    obtain ⟨r5, M6, hc4, hF⟩ := bn_e hF
    refine x_goi (x_runV cx hW hS (c_X8_finds (l := l) (G := G) hc4) cv_X8_83 kc_49 rfl (rest := []) ⟨Nat.le_of_ble_eq_true rfl, Nat.le_of_ble_eq_true rfl⟩ hl.1 rfl rfl (Nat.le_of_ble_eq_true rfl) ⟨Nat.zero_le _, Nat.zero_le _⟩ dX8_as_18) hS (fun H locs hW hS => ?_)
    exact x_iret cx hr hW hS (sp_1 hF) (sp_2 hF) dX8_as_21
  · have hF := it_n c3 hF
    refine lv_iload_n hx hb dX8_as_8 rfl (lv_at hl 2 rfl) ?_
    obtain ⟨r8, hc7, hF⟩ := bi_e hF
    refine x_goi (x_runS cx hW hS (c_X8_isKind (l := l) (G := G) hc7) cs_X8_80 (rest := []) ⟨Nat.le_of_ble_eq_true rfl, Nat.le_of_ble_eq_true rfl⟩ hl.1 rfl rfl (Nat.le_of_ble_eq_true rfl) ⟨Nat.zero_le _, Nat.zero_le _⟩ dX8_as_9) hS (fun H locs hW hS => ?_)
    refine lv_if_ne (tgt := 22) hx hb dX8_as_12 (by decide) (fun c9 => ?_) (fun c9 => ?_)
    · have hF := it_n c9 hF
      refine lv_aload_n hx hb dX8_as_22 rfl (lv_at hl 0 rfl) ?_
      refine lv_iload_n hx hb dX8_as_23 rfl (lv_at hl 1 rfl) ?_
      refine lv_iconst (v := (0 : Int32)) hx hb dX8_as_24 (by decide) ?_
      obtain ⟨r11, hc10, hF⟩ := bi_e hF
      refine x_goi (x_runV cx hW hS (c_X8_its (l := l) (G := G) hc10) cv_X8_61 kc_49 rfl (rest := []) ⟨Nat.le_of_ble_eq_true rfl, Nat.le_of_ble_eq_true rfl⟩ hl.1 rfl rfl (Nat.le_of_ble_eq_true rfl) ⟨Nat.zero_le _, Nat.zero_le _⟩ dX8_as_25) hS (fun H locs hW hS => ?_)
      refine lv_istore_n (lv' := [(3, .int r11), (0, .ref (g_ad G 49)), (1, .int a1), (2, .int a2)]) hx hb dX8_as_28 rfl hl (by decide) rfl (fun ls hl => ?_)
      refine lv_iload_n hx hb dX8_as_29 rfl (lv_at hl 3 rfl) ?_
      refine lv_if_eq (tgt := 58) hx hb dX8_as_30 (by decide) (fun c12 => ?_) (fun c12 => ?_)
      · have hF := it_p c12 hF
        exact t_X8_as_58 cx hr M hF _ _ _ hW hS (lv_sub hl [1, 2] rfl)
      · have hF := it_n c12 hF
        refine lv_iload_n hx hb dX8_as_33 rfl (lv_at hl 3 rfl) ?_
        refine lv_iload_n hx hb dX8_as_34 rfl (lv_at hl 0 rfl) ?_
        refine lv_icmp_eq (tgt := 58) hx hb dX8_as_35 (by decide) (fun c19 => ?_) (fun c19 => ?_)
        · have hF := it_p c19 hF
          exact t_X8_as_58 cx hr M hF _ _ _ hW hS (lv_sub hl [1, 2] rfl)
        · have hF := it_n c19 hF
          refine lv_iload_n hx hb dX8_as_38 rfl (lv_at hl 3 rfl) ?_
          refine lv_iconst (v := (1 : Int32)) hx hb dX8_as_39 (by decide) ?_
          refine lv_icmp_ne (tgt := 48) hx hb dX8_as_40 (by decide) (fun c20 => ?_) (fun c20 => ?_)
          · have hF := it_n c20 hF
            refine lv_iload_n hx hb dX8_as_48 rfl (lv_at hl 3 rfl) ?_
            refine lv_iconst (v := (2 : Int32)) hx hb dX8_as_49 (by decide) ?_
            refine lv_icmp_ne (tgt := 62) hx hb dX8_as_50 (by decide) (fun c21 => ?_) (fun c21 => ?_)
            · have hF := it_n c21 hF
              exact t_X8_as_62 cx hr M hF _ _ _ hW hS (lv_sub hl [1, 2] rfl)
            · have hF := it_p c21 hF
              refine lv_iload_n hx hb dX8_as_53 rfl (lv_at hl 0 rfl) ?_
              refine lv_iconst (v := (5 : Int32)) hx hb dX8_as_54 (by decide) ?_
              refine lv_icmp_ne (tgt := 62) hx hb dX8_as_55 (by decide) (fun c28 => ?_) (fun c28 => ?_)
              · have hF := it_n c28 hF
                exact t_X8_as_62 cx hr M hF _ _ _ hW hS (lv_sub hl [1, 2] rfl)
              · have hF := it_p c28 hF
                exact t_X8_as_58 cx hr M hF _ _ _ hW hS (lv_sub hl [1, 2] rfl)
          · have hF := it_p c20 hF
            refine lv_iload_n hx hb dX8_as_43 rfl (lv_at hl 0 rfl) ?_
            refine lv_iconst (v := (4 : Int32)) hx hb dX8_as_44 (by decide) ?_
            refine lv_icmp_eq (tgt := 58) hx hb dX8_as_45 (by decide) (fun c29 => ?_) (fun c29 => ?_)
            · have hF := it_p c29 hF
              exact t_X8_as_58 cx hr M hF _ _ _ hW hS (lv_sub hl [1, 2] rfl)
            · have hF := it_n c29 hF
              refine lv_iload_n hx hb dX8_as_48 rfl (lv_at hl 3 rfl) ?_
              refine lv_iconst (v := (2 : Int32)) hx hb dX8_as_49 (by decide) ?_
              refine lv_icmp_ne (tgt := 62) hx hb dX8_as_50 (by decide) (fun c30 => ?_) (fun c30 => ?_)
              · have hF := it_n c30 hF
                exact t_X8_as_62 cx hr M hF _ _ _ hW hS (lv_sub hl [1, 2] rfl)
              · have hF := it_p c30 hF
                refine lv_iload_n hx hb dX8_as_53 rfl (lv_at hl 0 rfl) ?_
                refine lv_iconst (v := (5 : Int32)) hx hb dX8_as_54 (by decide) ?_
                refine lv_icmp_ne (tgt := 62) hx hb dX8_as_55 (by decide) (fun c31 => ?_) (fun c31 => ?_)
                · have hF := it_n c31 hF
                  exact t_X8_as_62 cx hr M hF _ _ _ hW hS (lv_sub hl [1, 2] rfl)
                · have hF := it_p c31 hF
                  exact t_X8_as_58 cx hr M hF _ _ _ hW hS (lv_sub hl [1, 2] rfl)
    · have hF := it_p c9 hF
      refine lv_aload_n hx hb dX8_as_15 rfl (lv_at hl 0 rfl) ?_
      refine x_ldc cx q_k_X8_56 dX8_as_16 ?_
      obtain ⟨r33, M34, hc32, hF⟩ := bn_e hF
      refine x_goi (x_runV cx hW hS (c_X8_finds (l := l) (G := G) hc32) cv_X8_83 kc_49 rfl (rest := []) ⟨Nat.le_of_ble_eq_true rfl, Nat.le_of_ble_eq_true rfl⟩ hl.1 rfl rfl (Nat.le_of_ble_eq_true rfl) ⟨Nat.zero_le _, Nat.zero_le _⟩ dX8_as_18) hS (fun H locs hW hS => ?_)
      exact x_iret cx hr hW hS (sp_1 hF) (sp_2 hF) dX8_as_21
def F_X8_swaps (a1 : Int32) (a2 : Int32) (M : Mem) : Option Mem := (F_X8_its a1 (5 : Int32) M).bind (fun r2 => (F_X8_its a2 (5 : Int32) M).bind (fun r4 => (F_X8_puts a1 (5 : Int32) r4 M).bind (fun M6 => (F_X8_puts a2 (5 : Int32) r2 M6).bind (fun M8 => some M8))))
set_option maxHeartbeats 4000000 in
set_option maxRecDepth 100000 in
theorem c_X8_swaps {l : Launch} {G : GG} {a1 : Int32} {a2 : Int32}  {M : Mem} {M1 : Mem} (hF : F_X8_swaps a1 a2 M = some M1) : Met l yX8_swaps (wz yX8_swaps cX8_swaps 4 none) (RM 1 23) (PreC G [.ref (g_ad G 49), .int a1, .int a2] M) (QcV G M1) 0 0 (g_A G) := by
  rw [F_X8_swaps] at hF
  refine x_start (by decide) (Nat.le_of_ble_eq_true rfl) (lv := [(0, .ref (g_ad G 49)), (1, .int a1), (2, .int a2)]) rfl ?_
  intro p e s m below meth c cx hr hW hS ls hl
  obtain ⟨hx, hb, hml, hown, hts, hKK, hSS, hlk⟩ := id cx
  refine lv_aload_n hx hb dX8_swaps_0 rfl (lv_at hl 0 rfl) ?_
  refine lv_iload_n hx hb dX8_swaps_1 rfl (lv_at hl 1 rfl) ?_
  refine lv_iconst (v := (5 : Int32)) hx hb dX8_swaps_2 (by decide) ?_
  obtain ⟨r2, hc1, hF⟩ := bi_e hF
  refine x_goi (x_runV cx hW hS (c_X8_its (l := l) (G := G) hc1) cv_X8_61 kc_49 rfl (rest := []) ⟨Nat.le_of_ble_eq_true rfl, Nat.le_of_ble_eq_true rfl⟩ hl.1 rfl rfl (Nat.le_of_ble_eq_true rfl) ⟨Nat.zero_le _, Nat.zero_le _⟩ dX8_swaps_3) hS (fun H locs hW hS => ?_)
  refine lv_istore_n (lv' := [(3, .int r2), (0, .ref (g_ad G 49)), (1, .int a1), (2, .int a2)]) hx hb dX8_swaps_6 rfl hl (by decide) rfl (fun ls hl => ?_)
  refine lv_aload_n hx hb dX8_swaps_7 rfl (lv_at hl 1 rfl) ?_
  refine lv_iload_n hx hb dX8_swaps_8 rfl (lv_at hl 2 rfl) ?_
  refine lv_iconst (v := (5 : Int32)) hx hb dX8_swaps_9 (by decide) ?_
  refine lv_aload_n hx hb dX8_swaps_10 rfl (lv_at hl 1 rfl) ?_
  refine lv_iload_n hx hb dX8_swaps_11 rfl (lv_at hl 3 rfl) ?_
  refine lv_iconst (v := (5 : Int32)) hx hb dX8_swaps_12 (by decide) ?_
  obtain ⟨r4, hc3, hF⟩ := bi_e hF
  refine x_goi (x_runV cx hW hS (c_X8_its (l := l) (G := G) hc3) cv_X8_61 kc_49 rfl (rest := [.int (5 : Int32), .int a1, .ref (g_ad G 49)]) ⟨Nat.le_of_ble_eq_true rfl, Nat.le_of_ble_eq_true rfl⟩ hl.1 rfl rfl (Nat.le_of_ble_eq_true rfl) ⟨Nat.zero_le _, Nat.zero_le _⟩ dX8_swaps_13) hS (fun H locs hW hS => ?_)
  obtain ⟨M6, hc5, hF⟩ := bi_e hF
  refine x_gov (x_runV cx hW hS (c_X8_puts (l := l) (G := G) hc5) cv_X8_76 kc_49 rfl (rest := []) ⟨Nat.le_of_ble_eq_true rfl, Nat.le_of_ble_eq_true rfl⟩ hl.1 rfl rfl (Nat.le_of_ble_eq_true rfl) ⟨Nat.zero_le _, Nat.zero_le _⟩ dX8_swaps_16) hS (fun H locs hW hS => ?_)
  refine lv_aload_n hx hb dX8_swaps_19 rfl (lv_at hl 1 rfl) ?_
  refine lv_iload_n hx hb dX8_swaps_20 rfl (lv_at hl 3 rfl) ?_
  refine lv_iconst (v := (5 : Int32)) hx hb dX8_swaps_21 (by decide) ?_
  refine lv_iload_n hx hb dX8_swaps_22 rfl (lv_at hl 0 rfl) ?_
  obtain ⟨M8, hc7, hF⟩ := bi_e hF
  refine x_gov (x_runV cx hW hS (c_X8_puts (l := l) (G := G) hc7) cv_X8_76 kc_49 rfl (rest := []) ⟨Nat.le_of_ble_eq_true rfl, Nat.le_of_ble_eq_true rfl⟩ hl.1 rfl rfl (Nat.le_of_ble_eq_true rfl) ⟨Nat.zero_le _, Nat.zero_le _⟩ dX8_swaps_23) hS (fun H locs hW hS => ?_)
  exact x_vret cx hr hW hS (Option.some.inj hF) dX8_swaps_26
def F_X8_ownSet_4  (M : Mem) : Nat → Int32 → Int32 → Option Int32
  | 0, _, _ => none
  | n + 1, x1, x2 => ix 51 (2 : Int32) (fun j1 => (if (m_I M 50 j1) ≤ x2 then some x1 else (F_X8_its x2 (5 : Int32) M).bind (fun r4 => (if r4 = x2 then F_X8_ownSet_4 M n (x1 ||| ((1 : Int32) <<< (x2 &&& 31))) (x2 + 1) else F_X8_ownSet_4 M n (x1 ||| (0 : Int32)) (x2 + 1)))))
set_option maxHeartbeats 4000000 in
set_option maxRecDepth 100000 in
theorem t_X8_ownSet_4 {p : Program} {l : Launch} {e : Env} {s : State} {m : MethodId} {args : Array Value} {below : List Frame} {meth : Method} {c : Code} {G : GG}  (cx : Cx G cX8_ownSet RX8 3 p s m args meth c) (hr : meth.sig.returnType = (some .int))   {M : Mem} {r : Int32} : ∀ (n : Nat) (x1 : Int32) (x2 : Int32), F_X8_ownSet_4  M n x1 x2 = some r → ∀ (H : Heap) (locs : List Loc) (ls : Array Slot), WH G M H → va_S (g_A G) s.heap H locs → lv_has ls 3 [(0, .ref (g_ad G 49)), (1, .int x1), (2, .int x2)] → W p l e (RM 1 22) s m args below meth c H locs 0 0 (MQ below (QcI G r M) args s 0 0 (g_A G)) (F0 m 4 ls []) := by
  obtain ⟨hx, hb, hml, hown, hts, hKK, hSS, hlk⟩ := id cx
  intro n
  induction n with
  | zero =>
    intro x1 x2 hF H locs ls hW hS hl
    rw [F_X8_ownSet_4] at hF
    cases hF
  | succ n ih =>
    intro x1 x2 hF H locs ls hW hS hl
    rw [F_X8_ownSet_4] at hF
    refine lv_iload_n hx hb dX8_ownSet_4 rfl (lv_at hl 2 rfl) ?_
    refine lv_aload_n hx hb dX8_ownSet_5 rfl (lv_at hl 0 rfl) ?_
    refine x_get cx hW kc_49 fk_X8_7 (v := .ref (g_ad G 50)) rfl dX8_ownSet_6 ?_
    refine lv_iconst (v := (2 : Int32)) hx hb dX8_ownSet_9 (by decide) ?_
    obtain ⟨j1, hj1, gj1, hF⟩ := ix_e hF
    refine x_iald cx hW kc_50 (by decide) hj1 gj1 dX8_ownSet_10 ?_
    refine lv_icmp_ge (tgt := 40) hx hb dX8_ownSet_11 (by decide) (fun c2 => ?_) (fun c2 => ?_)
    · have hF := it_p c2 hF
      refine lv_iload_n hx hb dX8_ownSet_40 rfl (lv_at hl 1 rfl) ?_
      exact x_iret cx hr hW hS (Option.some.inj hF) rfl dX8_ownSet_41
    · have hF := it_n c2 hF
      refine lv_iload_n hx hb dX8_ownSet_14 rfl (lv_at hl 1 rfl) ?_
      refine lv_aload_n hx hb dX8_ownSet_15 rfl (lv_at hl 0 rfl) ?_
      refine lv_iload_n hx hb dX8_ownSet_16 rfl (lv_at hl 2 rfl) ?_
      refine lv_iconst (v := (5 : Int32)) hx hb dX8_ownSet_17 (by decide) ?_
      obtain ⟨r4, hc3, hF⟩ := bi_e hF
      refine x_goi (x_runV cx hW hS (c_X8_its (l := l) (G := G) hc3) cv_X8_61 kc_49 rfl (rest := [.int x1]) ⟨Nat.le_of_ble_eq_true rfl, Nat.le_of_ble_eq_true rfl⟩ hl.1 rfl rfl (Nat.le_of_ble_eq_true rfl) ⟨Nat.zero_le _, Nat.zero_le _⟩ dX8_ownSet_18) hS (fun H locs hW hS => ?_)
      refine lv_iload_n hx hb dX8_ownSet_21 rfl (lv_at hl 2 rfl) ?_
      refine lv_icmp_ne (tgt := 31) hx hb dX8_ownSet_22 (by decide) (fun c5 => ?_) (fun c5 => ?_)
      · have hF := it_n c5 hF
        refine lv_iconst (v := (0 : Int32)) hx hb dX8_ownSet_31 (by decide) ?_
        refine lv_ior hx hb dX8_ownSet_32 ?_
        refine lv_istore_n (lv' := [(1, .int (x1 ||| (0 : Int32))), (0, .ref (g_ad G 49)), (2, .int x2)]) hx hb dX8_ownSet_33 rfl hl (by decide) rfl (fun ls hl => ?_)
        refine lv_iinc (v := (x2 + 1)) (lv' := [(2, .int (x2 + 1)), (1, .int (x1 ||| (0 : Int32))), (0, .ref (g_ad G 49))]) hx hb dX8_ownSet_34 hl (k := 2) rfl rfl (by decide) rfl (fun ls hl => ?_)
        refine lv_goto (tgt := 4) hx hb dX8_ownSet_37 (by decide) ?_
        exact ih (x1 ||| (0 : Int32)) (x2 + 1) hF _ _ _ hW hS (lv_sub hl [2, 1, 0] rfl)
      · have hF := it_p c5 hF
        refine lv_iconst (v := (1 : Int32)) hx hb dX8_ownSet_25 (by decide) ?_
        refine lv_iload_n hx hb dX8_ownSet_26 rfl (lv_at hl 2 rfl) ?_
        refine lv_ishl hx hb dX8_ownSet_27 ?_
        refine lv_goto (tgt := 32) hx hb dX8_ownSet_28 (by decide) ?_
        refine lv_ior hx hb dX8_ownSet_32 ?_
        refine lv_istore_n (lv' := [(1, .int (x1 ||| ((1 : Int32) <<< (x2 &&& 31)))), (0, .ref (g_ad G 49)), (2, .int x2)]) hx hb dX8_ownSet_33 rfl hl (by decide) rfl (fun ls hl => ?_)
        refine lv_iinc (v := (x2 + 1)) (lv' := [(2, .int (x2 + 1)), (1, .int (x1 ||| ((1 : Int32) <<< (x2 &&& 31)))), (0, .ref (g_ad G 49))]) hx hb dX8_ownSet_34 hl (k := 2) rfl rfl (by decide) rfl (fun ls hl => ?_)
        refine lv_goto (tgt := 4) hx hb dX8_ownSet_37 (by decide) ?_
        exact ih (x1 ||| ((1 : Int32) <<< (x2 &&& 31))) (x2 + 1) hF _ _ _ hW hS (lv_sub hl [2, 1, 0] rfl)
def F_X8_ownSet (M : Mem) : Option Int32 := F_X8_ownSet_4 M FU (0 : Int32) (0 : Int32)
set_option maxHeartbeats 4000000 in
set_option maxRecDepth 100000 in
theorem c_X8_ownSet {l : Launch} {G : GG}   {M : Mem} {r : Int32} (hF : F_X8_ownSet M = some r) : Met l yX8_ownSet (wz yX8_ownSet cX8_ownSet 3 (some .int)) (RM 1 22) (PreC G [.ref (g_ad G 49)] M) (QcI G r M) 0 0 (g_A G) := by
  rw [F_X8_ownSet] at hF
  refine x_start (by decide) (Nat.le_of_ble_eq_true rfl) (lv := [(0, .ref (g_ad G 49))]) rfl ?_
  intro p e s m below meth c cx hr hW hS ls hl
  obtain ⟨hx, hb, hml, hown, hts, hKK, hSS, hlk⟩ := id cx
  refine lv_iconst (v := (0 : Int32)) hx hb dX8_ownSet_0 (by decide) ?_
  refine lv_istore_n (lv' := [(1, .int (0 : Int32)), (0, .ref (g_ad G 49))]) hx hb dX8_ownSet_1 rfl hl (by decide) rfl (fun ls hl => ?_)
  refine lv_iconst (v := (0 : Int32)) hx hb dX8_ownSet_2 (by decide) ?_
  refine lv_istore_n (lv' := [(2, .int (0 : Int32)), (1, .int (0 : Int32)), (0, .ref (g_ad G 49))]) hx hb dX8_ownSet_3 rfl hl (by decide) rfl (fun ls hl => ?_)
  exact t_X8_ownSet_4 cx hr FU (0 : Int32) (0 : Int32) hF _ _ _ hW hS (lv_sub hl [2, 1, 0] rfl)
def F_X8_bits_4 (a0 : Int32) (M : Mem) : Nat → Int32 → Int32 → Option Int32
  | 0, _, _ => none
  | n + 1, x1, x2 => (if x2 = 0 then some x1 else F_X8_bits_4 a0 M n (x1 + 1) (x2 &&& (x2 - (1 : Int32))))
set_option maxHeartbeats 4000000 in
set_option maxRecDepth 100000 in
theorem t_X8_bits_4 {p : Program} {l : Launch} {e : Env} {s : State} {m : MethodId} {args : Array Value} {below : List Frame} {meth : Method} {c : Code} {G : GG} {a0 : Int32} (cx : Cx G cX8_bits RX8 3 p s m args meth c) (hr : meth.sig.returnType = (some .int))   {M : Mem} {r : Int32} : ∀ (n : Nat) (x1 : Int32) (x2 : Int32), F_X8_bits_4 a0 M n x1 x2 = some r → ∀ (H : Heap) (locs : List Loc) (ls : Array Slot), WH G M H → va_S (g_A G) s.heap H locs → lv_has ls 3 [(1, .int x1), (2, .int x2)] → W p l e (RM 0 0) s m args below meth c H locs 0 0 (MQ below (QcI G r M) args s 0 0 (g_A G)) (F0 m 4 ls []) := by
  obtain ⟨hx, hb, hml, hown, hts, hKK, hSS, hlk⟩ := id cx
  intro n
  induction n with
  | zero =>
    intro x1 x2 hF H locs ls hW hS hl
    rw [F_X8_bits_4] at hF
    cases hF
  | succ n ih =>
    intro x1 x2 hF H locs ls hW hS hl
    rw [F_X8_bits_4] at hF
    refine lv_iload_n hx hb dX8_bits_4 rfl (lv_at hl 1 rfl) ?_
    refine lv_if_eq (tgt := 20) hx hb dX8_bits_5 (by decide) (fun c1 => ?_) (fun c1 => ?_)
    · have hF := it_p c1 hF
      refine lv_iload_n hx hb dX8_bits_20 rfl (lv_at hl 0 rfl) ?_
      exact x_iret cx hr hW hS (Option.some.inj hF) rfl dX8_bits_21
    · have hF := it_n c1 hF
      refine lv_iinc (v := (x1 + 1)) (lv' := [(1, .int (x1 + 1)), (2, .int x2)]) hx hb dX8_bits_8 hl (k := 0) rfl rfl (by decide) rfl (fun ls hl => ?_)
      refine lv_iload_n hx hb dX8_bits_11 rfl (lv_at hl 1 rfl) ?_
      refine lv_iload_n hx hb dX8_bits_12 rfl (lv_at hl 1 rfl) ?_
      refine lv_iconst (v := (1 : Int32)) hx hb dX8_bits_13 (by decide) ?_
      refine lv_isub hx hb dX8_bits_14 ?_
      refine lv_iand hx hb dX8_bits_15 ?_
      refine lv_istore_n (lv' := [(2, .int (x2 &&& (x2 - (1 : Int32)))), (1, .int (x1 + 1))]) hx hb dX8_bits_16 rfl hl (by decide) rfl (fun ls hl => ?_)
      refine lv_goto (tgt := 4) hx hb dX8_bits_17 (by decide) ?_
      exact ih (x1 + 1) (x2 &&& (x2 - (1 : Int32))) hF _ _ _ hW hS (lv_sub hl [1, 0] rfl)
def F_X8_bits (a0 : Int32) (M : Mem) : Option Int32 := F_X8_bits_4 a0 M FU (0 : Int32) a0
set_option maxHeartbeats 4000000 in
set_option maxRecDepth 100000 in
theorem c_X8_bits {l : Launch} {G : GG} {a0 : Int32}  {M : Mem} {r : Int32} (hF : F_X8_bits a0 M = some r) : Met l yX8_bits (wz yX8_bits cX8_bits 3 (some .int)) (RM 0 0) (PreC G [.int a0] M) (QcI G r M) 0 0 (g_A G) := by
  rw [F_X8_bits] at hF
  refine x_start (by decide) (Nat.le_of_ble_eq_true rfl) (lv := [(0, .int a0)]) rfl ?_
  intro p e s m below meth c cx hr hW hS ls hl
  obtain ⟨hx, hb, hml, hown, hts, hKK, hSS, hlk⟩ := id cx
  refine lv_iconst (v := (0 : Int32)) hx hb dX8_bits_0 (by decide) ?_
  refine lv_istore_n (lv' := [(1, .int (0 : Int32)), (0, .int a0)]) hx hb dX8_bits_1 rfl hl (by decide) rfl (fun ls hl => ?_)
  refine lv_iload_n hx hb dX8_bits_2 rfl (lv_at hl 1 rfl) ?_
  refine lv_istore_n (lv' := [(2, .int a0), (1, .int (0 : Int32)), (0, .int a0)]) hx hb dX8_bits_3 rfl hl (by decide) rfl (fun ls hl => ?_)
  exact t_X8_bits_4 cx hr FU (0 : Int32) a0 hF _ _ _ hW hS (lv_sub hl [1, 0] rfl)
def F_X8_swap (a1 : Int32) (a2 : Int32) (M : Mem) : Option (Int32 × Mem) := (F_X8_isOne a1 M).bind (fun r2 => (if r2 = 0 then bn (F_X8_finds (-1000000001 : Int32) M) (fun r5 M6 => some (r5, M6)) else (F_X8_isOne a2 M).bind (fun r8 => (if r8 = 0 then bn (F_X8_finds (-1000000001 : Int32) M) (fun r11 M12 => some (r11, M12)) else (if a1 = a2 then bn (F_X8_finds (-1000000001 : Int32) M) (fun r27 M28 => some (r27, M28)) else (F_X8_areAlike a1 a2 M).bind (fun r15 => (if r15 = 0 then bn (F_X8_finds (-1000000005 : Int32) M) (fun r24 M25 => some (r24, M25)) else (F_X8_swaps a1 a2 M).bind (fun M18 => (F_X8_ownSet M18).bind (fun r20 => (F_X8_bits r20 M18).bind (fun r22 => some (r22, M18)))))))))))
set_option maxHeartbeats 4000000 in
set_option maxRecDepth 100000 in
theorem c_X8_swap {l : Launch} {G : GG} {a1 : Int32} {a2 : Int32}  {M : Mem} {r : Int32} {M1 : Mem} (hF : F_X8_swap a1 a2 M = some (r, M1)) : Met l yX8_swap (wz yX8_swap cX8_swap 3 (some .int)) (RM 3 65) (PreC G [.ref (g_ad G 49), .int a1, .int a2] M) (QcI G r M1) 0 0 (g_A G) := by
  rw [F_X8_swap] at hF
  refine x_start (by decide) (Nat.le_of_ble_eq_true rfl) (lv := [(0, .ref (g_ad G 49)), (1, .int a1), (2, .int a2)]) rfl ?_
  intro p e s m below meth c cx hr hW hS ls hl
  obtain ⟨hx, hb, hml, hown, hts, hKK, hSS, hlk⟩ := id cx
  refine lv_aload_n hx hb dX8_swap_0 rfl (lv_at hl 0 rfl) ?_
  refine lv_iload_n hx hb dX8_swap_1 rfl (lv_at hl 1 rfl) ?_
  obtain ⟨r2, hc1, hF⟩ := bi_e hF
  refine x_goi (x_runV cx hW hS (c_X8_isOne (l := l) (G := G) hc1) cv_X8_91 kc_49 rfl (rest := []) ⟨Nat.le_of_ble_eq_true rfl, Nat.le_of_ble_eq_true rfl⟩ hl.1 rfl rfl (Nat.le_of_ble_eq_true rfl) ⟨Nat.zero_le _, Nat.zero_le _⟩ dX8_swap_2) hS (fun H locs hW hS => ?_)
  refine lv_if_eq (tgt := 21) hx hb dX8_swap_5 (by decide) (fun c3 => ?_) (fun c3 => ?_)
  · have hF := it_p c3 hF
    refine lv_aload_n hx hb dX8_swap_21 rfl (lv_at hl 0 rfl) ?_
    refine x_ldc cx q_k_X8_56 dX8_swap_22 ?_
    obtain ⟨r5, M6, hc4, hF⟩ := bn_e hF
    refine x_goi (x_runV cx hW hS (c_X8_finds (l := l) (G := G) hc4) cv_X8_83 kc_49 rfl (rest := []) ⟨Nat.le_of_ble_eq_true rfl, Nat.le_of_ble_eq_true rfl⟩ hl.1 rfl rfl (Nat.le_of_ble_eq_true rfl) ⟨Nat.zero_le _, Nat.zero_le _⟩ dX8_swap_24) hS (fun H locs hW hS => ?_)
    exact x_iret cx hr hW hS (sp_1 hF) (sp_2 hF) dX8_swap_27
  · have hF := it_n c3 hF
    refine lv_aload_n hx hb dX8_swap_8 rfl (lv_at hl 0 rfl) ?_
    refine lv_iload_n hx hb dX8_swap_9 rfl (lv_at hl 2 rfl) ?_
    obtain ⟨r8, hc7, hF⟩ := bi_e hF
    refine x_goi (x_runV cx hW hS (c_X8_isOne (l := l) (G := G) hc7) cv_X8_91 kc_49 rfl (rest := []) ⟨Nat.le_of_ble_eq_true rfl, Nat.le_of_ble_eq_true rfl⟩ hl.1 rfl rfl (Nat.le_of_ble_eq_true rfl) ⟨Nat.zero_le _, Nat.zero_le _⟩ dX8_swap_10) hS (fun H locs hW hS => ?_)
    refine lv_if_eq (tgt := 21) hx hb dX8_swap_13 (by decide) (fun c9 => ?_) (fun c9 => ?_)
    · have hF := it_p c9 hF
      refine lv_aload_n hx hb dX8_swap_21 rfl (lv_at hl 0 rfl) ?_
      refine x_ldc cx q_k_X8_56 dX8_swap_22 ?_
      obtain ⟨r11, M12, hc10, hF⟩ := bn_e hF
      refine x_goi (x_runV cx hW hS (c_X8_finds (l := l) (G := G) hc10) cv_X8_83 kc_49 rfl (rest := []) ⟨Nat.le_of_ble_eq_true rfl, Nat.le_of_ble_eq_true rfl⟩ hl.1 rfl rfl (Nat.le_of_ble_eq_true rfl) ⟨Nat.zero_le _, Nat.zero_le _⟩ dX8_swap_24) hS (fun H locs hW hS => ?_)
      exact x_iret cx hr hW hS (sp_1 hF) (sp_2 hF) dX8_swap_27
    · have hF := it_n c9 hF
      refine lv_iload_n hx hb dX8_swap_16 rfl (lv_at hl 1 rfl) ?_
      refine lv_iload_n hx hb dX8_swap_17 rfl (lv_at hl 2 rfl) ?_
      refine lv_icmp_ne (tgt := 28) hx hb dX8_swap_18 (by decide) (fun c13 => ?_) (fun c13 => ?_)
      · have hF := it_n c13 hF
        refine lv_aload_n hx hb dX8_swap_28 rfl (lv_at hl 0 rfl) ?_
        refine lv_iload_n hx hb dX8_swap_29 rfl (lv_at hl 1 rfl) ?_
        refine lv_iload_n hx hb dX8_swap_30 rfl (lv_at hl 2 rfl) ?_
        obtain ⟨r15, hc14, hF⟩ := bi_e hF
        refine x_goi (x_runV cx hW hS (c_X8_areAlike (l := l) (G := G) hc14) cv_X8_102 kc_49 rfl (rest := []) ⟨Nat.le_of_ble_eq_true rfl, Nat.le_of_ble_eq_true rfl⟩ hl.1 rfl rfl (Nat.le_of_ble_eq_true rfl) ⟨Nat.zero_le _, Nat.zero_le _⟩ dX8_swap_31) hS (fun H locs hW hS => ?_)
        refine lv_if_ne (tgt := 44) hx hb dX8_swap_34 (by decide) (fun c16 => ?_) (fun c16 => ?_)
        · have hF := it_n c16 hF
          refine lv_aload_n hx hb dX8_swap_44 rfl (lv_at hl 0 rfl) ?_
          refine lv_iload_n hx hb dX8_swap_45 rfl (lv_at hl 1 rfl) ?_
          refine lv_iload_n hx hb dX8_swap_46 rfl (lv_at hl 2 rfl) ?_
          obtain ⟨M18, hc17, hF⟩ := bi_e hF
          refine x_gov (x_runV cx hW hS (c_X8_swaps (l := l) (G := G) hc17) cv_X8_107 kc_49 rfl (rest := []) ⟨Nat.le_of_ble_eq_true rfl, Nat.le_of_ble_eq_true rfl⟩ hl.1 rfl rfl (Nat.le_of_ble_eq_true rfl) ⟨Nat.zero_le _, Nat.zero_le _⟩ dX8_swap_47) hS (fun H locs hW hS => ?_)
          refine lv_aload_n hx hb dX8_swap_50 rfl (lv_at hl 0 rfl) ?_
          obtain ⟨r20, hc19, hF⟩ := bi_e hF
          refine x_goi (x_runV cx hW hS (c_X8_ownSet (l := l) (G := G) hc19) cv_X8_111 kc_49 rfl (rest := []) ⟨Nat.le_of_ble_eq_true rfl, Nat.le_of_ble_eq_true rfl⟩ hl.1 rfl rfl (Nat.le_of_ble_eq_true rfl) ⟨Nat.zero_le _, Nat.zero_le _⟩ dX8_swap_51) hS (fun H locs hW hS => ?_)
          obtain ⟨r22, hc21, hF⟩ := bi_e hF
          refine x_goi (x_runS cx hW hS (c_X8_bits (l := l) (G := G) hc21) cs_X8_115 (rest := []) ⟨Nat.le_of_ble_eq_true rfl, Nat.le_of_ble_eq_true rfl⟩ hl.1 rfl rfl (Nat.le_of_ble_eq_true rfl) ⟨Nat.zero_le _, Nat.zero_le _⟩ dX8_swap_54) hS (fun H locs hW hS => ?_)
          exact x_iret cx hr hW hS (sp_1 hF) (sp_2 hF) dX8_swap_57
        · have hF := it_p c16 hF
          refine lv_aload_n hx hb dX8_swap_37 rfl (lv_at hl 0 rfl) ?_
          refine x_ldc cx q_k_X8_106 dX8_swap_38 ?_
          obtain ⟨r24, M25, hc23, hF⟩ := bn_e hF
          refine x_goi (x_runV cx hW hS (c_X8_finds (l := l) (G := G) hc23) cv_X8_83 kc_49 rfl (rest := []) ⟨Nat.le_of_ble_eq_true rfl, Nat.le_of_ble_eq_true rfl⟩ hl.1 rfl rfl (Nat.le_of_ble_eq_true rfl) ⟨Nat.zero_le _, Nat.zero_le _⟩ dX8_swap_40) hS (fun H locs hW hS => ?_)
          exact x_iret cx hr hW hS (sp_1 hF) (sp_2 hF) dX8_swap_43
      · have hF := it_p c13 hF
        refine lv_aload_n hx hb dX8_swap_21 rfl (lv_at hl 0 rfl) ?_
        refine x_ldc cx q_k_X8_56 dX8_swap_22 ?_
        obtain ⟨r27, M28, hc26, hF⟩ := bn_e hF
        refine x_goi (x_runV cx hW hS (c_X8_finds (l := l) (G := G) hc26) cv_X8_83 kc_49 rfl (rest := []) ⟨Nat.le_of_ble_eq_true rfl, Nat.le_of_ble_eq_true rfl⟩ hl.1 rfl rfl (Nat.le_of_ble_eq_true rfl) ⟨Nat.zero_le _, Nat.zero_le _⟩ dX8_swap_24) hS (fun H locs hW hS => ?_)
        exact x_iret cx hr hW hS (sp_1 hF) (sp_2 hF) dX8_swap_27
def F_X8_allOwn_2  : Nat → Int32 → Mem → Option Mem
  | 0, _, _ => none
  | n + 1, x1, M => ix 51 (2 : Int32) (fun j1 => (if (m_I M 50 j1) ≤ x1 then some M else (F_X8_puts x1 (5 : Int32) x1 M).bind (fun M4 => F_X8_allOwn_2 n (x1 + 1) M4)))
set_option maxHeartbeats 4000000 in
set_option maxRecDepth 100000 in
theorem t_X8_allOwn_2 {p : Program} {l : Launch} {e : Env} {s : State} {m : MethodId} {args : Array Value} {below : List Frame} {meth : Method} {c : Code} {G : GG}  (cx : Cx G cX8_allOwn RX8 2 p s m args meth c) (hr : meth.sig.returnType = none)   {M1 : Mem} : ∀ (n : Nat) (x1 : Int32) (M : Mem), F_X8_allOwn_2  n x1 M = some M1 → ∀ (H : Heap) (locs : List Loc) (ls : Array Slot), WH G M H → va_S (g_A G) s.heap H locs → lv_has ls 2 [(0, .ref (g_ad G 49)), (1, .int x1)] → W p l e (RM 1 23) s m args below meth c H locs 0 0 (MQ below (QcV G M1) args s 0 0 (g_A G)) (F0 m 2 ls []) := by
  obtain ⟨hx, hb, hml, hown, hts, hKK, hSS, hlk⟩ := id cx
  intro n
  induction n with
  | zero =>
    intro x1 M hF H locs ls hW hS hl
    rw [F_X8_allOwn_2] at hF
    cases hF
  | succ n ih =>
    intro x1 M hF H locs ls hW hS hl
    rw [F_X8_allOwn_2] at hF
    refine lv_iload_n hx hb dX8_allOwn_2 rfl (lv_at hl 1 rfl) ?_
    refine lv_aload_n hx hb dX8_allOwn_3 rfl (lv_at hl 0 rfl) ?_
    refine x_get cx hW kc_49 fk_X8_7 (v := .ref (g_ad G 50)) rfl dX8_allOwn_4 ?_
    refine lv_iconst (v := (2 : Int32)) hx hb dX8_allOwn_7 (by decide) ?_
    obtain ⟨j1, hj1, gj1, hF⟩ := ix_e hF
    refine x_iald cx hW kc_50 (by decide) hj1 gj1 dX8_allOwn_8 ?_
    refine lv_icmp_ge (tgt := 25) hx hb dX8_allOwn_9 (by decide) (fun c2 => ?_) (fun c2 => ?_)
    · have hF := it_p c2 hF
      exact x_vret cx hr hW hS (Option.some.inj hF) dX8_allOwn_25
    · have hF := it_n c2 hF
      refine lv_aload_n hx hb dX8_allOwn_12 rfl (lv_at hl 0 rfl) ?_
      refine lv_iload_n hx hb dX8_allOwn_13 rfl (lv_at hl 1 rfl) ?_
      refine lv_iconst (v := (5 : Int32)) hx hb dX8_allOwn_14 (by decide) ?_
      refine lv_iload_n hx hb dX8_allOwn_15 rfl (lv_at hl 1 rfl) ?_
      obtain ⟨M4, hc3, hF⟩ := bi_e hF
      refine x_gov (x_runV cx hW hS (c_X8_puts (l := l) (G := G) hc3) cv_X8_76 kc_49 rfl (rest := []) ⟨Nat.le_of_ble_eq_true rfl, Nat.le_of_ble_eq_true rfl⟩ hl.1 rfl rfl (Nat.le_of_ble_eq_true rfl) ⟨Nat.zero_le _, Nat.zero_le _⟩ dX8_allOwn_16) hS (fun H locs hW hS => ?_)
      refine lv_iinc (v := (x1 + 1)) (lv' := [(1, .int (x1 + 1)), (0, .ref (g_ad G 49))]) hx hb dX8_allOwn_19 hl (k := 1) rfl rfl (by decide) rfl (fun ls hl => ?_)
      refine lv_goto (tgt := 2) hx hb dX8_allOwn_22 (by decide) ?_
      exact ih (x1 + 1) M4 hF _ _ _ hW hS (lv_sub hl [1, 0] rfl)
def F_X8_allOwn (M : Mem) : Option Mem := F_X8_allOwn_2 FU (0 : Int32) M
set_option maxHeartbeats 4000000 in
set_option maxRecDepth 100000 in
theorem c_X8_allOwn {l : Launch} {G : GG}   {M : Mem} {M1 : Mem} (hF : F_X8_allOwn M = some M1) : Met l yX8_allOwn (wz yX8_allOwn cX8_allOwn 2 none) (RM 1 23) (PreC G [.ref (g_ad G 49)] M) (QcV G M1) 0 0 (g_A G) := by
  rw [F_X8_allOwn] at hF
  refine x_start (by decide) (Nat.le_of_ble_eq_true rfl) (lv := [(0, .ref (g_ad G 49))]) rfl ?_
  intro p e s m below meth c cx hr hW hS ls hl
  obtain ⟨hx, hb, hml, hown, hts, hKK, hSS, hlk⟩ := id cx
  refine lv_iconst (v := (0 : Int32)) hx hb dX8_allOwn_0 (by decide) ?_
  refine lv_istore_n (lv' := [(1, .int (0 : Int32)), (0, .ref (g_ad G 49))]) hx hb dX8_allOwn_1 rfl hl (by decide) rfl (fun ls hl => ?_)
  exact t_X8_allOwn_2 cx hr FU (0 : Int32) M hF _ _ _ hW hS (lv_sub hl [1, 0] rfl)
def F_X8_home (M : Mem) : Option (Int32 × Mem) := ix 51 (2 : Int32) (fun j1 => (F_X8_ownSet M).bind (fun r3 => (F_X8_bits r3 M).bind (fun r5 => (F_X8_allOwn M).bind (fun M7 => some (((m_I M 50 j1) - r5), M7)))))
set_option maxHeartbeats 4000000 in
set_option maxRecDepth 100000 in
theorem c_X8_home {l : Launch} {G : GG}   {M : Mem} {r : Int32} {M1 : Mem} (hF : F_X8_home M = some (r, M1)) : Met l yX8_home (wz yX8_home cX8_home 2 (some .int)) (RM 2 44) (PreC G [.ref (g_ad G 49)] M) (QcI G r M1) 0 0 (g_A G) := by
  rw [F_X8_home] at hF
  refine x_start (by decide) (Nat.le_of_ble_eq_true rfl) (lv := [(0, .ref (g_ad G 49))]) rfl ?_
  intro p e s m below meth c cx hr hW hS ls hl
  obtain ⟨hx, hb, hml, hown, hts, hKK, hSS, hlk⟩ := id cx
  refine lv_aload_n hx hb dX8_home_0 rfl (lv_at hl 0 rfl) ?_
  refine x_get cx hW kc_49 fk_X8_7 (v := .ref (g_ad G 50)) rfl dX8_home_1 ?_
  refine lv_iconst (v := (2 : Int32)) hx hb dX8_home_4 (by decide) ?_
  obtain ⟨j1, hj1, gj1, hF⟩ := ix_e hF
  refine x_iald cx hW kc_50 (by decide) hj1 gj1 dX8_home_5 ?_
  refine lv_aload_n hx hb dX8_home_6 rfl (lv_at hl 0 rfl) ?_
  obtain ⟨r3, hc2, hF⟩ := bi_e hF
  refine x_goi (x_runV cx hW hS (c_X8_ownSet (l := l) (G := G) hc2) cv_X8_111 kc_49 rfl (rest := [.int (m_I M 50 j1)]) ⟨Nat.le_of_ble_eq_true rfl, Nat.le_of_ble_eq_true rfl⟩ hl.1 rfl rfl (Nat.le_of_ble_eq_true rfl) ⟨Nat.zero_le _, Nat.zero_le _⟩ dX8_home_7) hS (fun H locs hW hS => ?_)
  obtain ⟨r5, hc4, hF⟩ := bi_e hF
  refine x_goi (x_runS cx hW hS (c_X8_bits (l := l) (G := G) hc4) cs_X8_115 (rest := [.int (m_I M 50 j1)]) ⟨Nat.le_of_ble_eq_true rfl, Nat.le_of_ble_eq_true rfl⟩ hl.1 rfl rfl (Nat.le_of_ble_eq_true rfl) ⟨Nat.zero_le _, Nat.zero_le _⟩ dX8_home_10) hS (fun H locs hW hS => ?_)
  refine lv_isub hx hb dX8_home_13 ?_
  refine lv_istore_n (lv' := [(1, .int ((m_I M 50 j1) - r5)), (0, .ref (g_ad G 49))]) hx hb dX8_home_14 rfl hl (by decide) rfl (fun ls hl => ?_)
  refine lv_aload_n hx hb dX8_home_15 rfl (lv_at hl 1 rfl) ?_
  obtain ⟨M7, hc6, hF⟩ := bi_e hF
  refine x_gov (x_runV cx hW hS (c_X8_allOwn (l := l) (G := G) hc6) cv_X8_118 kc_49 rfl (rest := []) ⟨Nat.le_of_ble_eq_true rfl, Nat.le_of_ble_eq_true rfl⟩ hl.1 rfl rfl (Nat.le_of_ble_eq_true rfl) ⟨Nat.zero_le _, Nat.zero_le _⟩ dX8_home_16) hS (fun H locs hW hS => ?_)
  refine lv_iload_n hx hb dX8_home_19 rfl (lv_at hl 0 rfl) ?_
  exact x_iret cx hr hW hS (sp_1 hF) (sp_2 hF) dX8_home_20
def F_X8_drawn (a1 : Int32) (M : Mem) : Option (Int32 × Mem) := ix 51 (1 : Int32) (fun j1 => ix 51 (1 : Int32) (fun j2 => pin (w_I M 50 j2 (((m_I M 50 j1) * (1103515245 : Int32)) + (12345 : Int32))) (fun M3 => ix 51 (1 : Int32) (fun j4 => dv a1 (some (((((m_I M3 50 j4).toUInt32 >>> ((16 : Int32).toUInt32 &&& Int32.toUInt32 31)).toInt32) - (((m_I M3 50 j4).toUInt32 >>> ((16 : Int32).toUInt32 &&& Int32.toUInt32 31)).toInt32) / a1 * a1), M3))))))
set_option maxHeartbeats 4000000 in
set_option maxRecDepth 100000 in
theorem c_X8_drawn {l : Launch} {G : GG} {a1 : Int32}  {M : Mem} {r : Int32} {M1 : Mem} (hF : F_X8_drawn a1 M = some (r, M1)) : Met l yX8_drawn (wz yX8_drawn cX8_drawn 2 (some .int)) (RM 0 0) (PreC G [.ref (g_ad G 49), .int a1] M) (QcI G r M1) 0 0 (g_A G) := by
  rw [F_X8_drawn] at hF
  refine x_start (by decide) (Nat.le_of_ble_eq_true rfl) (lv := [(0, .ref (g_ad G 49)), (1, .int a1)]) rfl ?_
  intro p e s m below meth c cx hr hW hS ls hl
  obtain ⟨hx, hb, hml, hown, hts, hKK, hSS, hlk⟩ := id cx
  refine lv_aload_n hx hb dX8_drawn_0 rfl (lv_at hl 0 rfl) ?_
  refine x_get cx hW kc_49 fk_X8_7 (v := .ref (g_ad G 50)) rfl dX8_drawn_1 ?_
  refine lv_iconst (v := (1 : Int32)) hx hb dX8_drawn_4 (by decide) ?_
  refine lv_aload_n hx hb dX8_drawn_5 rfl (lv_at hl 0 rfl) ?_
  refine x_get cx hW kc_49 fk_X8_7 (v := .ref (g_ad G 50)) rfl dX8_drawn_6 ?_
  refine lv_iconst (v := (1 : Int32)) hx hb dX8_drawn_9 (by decide) ?_
  obtain ⟨j1, hj1, gj1, hF⟩ := ix_e hF
  refine x_iald cx hW kc_50 (by decide) hj1 gj1 dX8_drawn_10 ?_
  refine x_ldc cx q_k_X8_121 dX8_drawn_11 ?_
  refine lv_imul hx hb dX8_drawn_13 ?_
  refine lv_sipush (v := (12345 : Int32)) hx hb dX8_drawn_14 (by decide) ?_
  refine lv_iadd hx hb dX8_drawn_17 ?_
  obtain ⟨j2, hj2, gj2, hF⟩ := ix_e hF
  obtain ⟨M3, eM3, hF⟩ := pin_e hF
  refine x_iast cx hW hS kc_50 (by decide) hj2 gj2 eM3 dX8_drawn_18 (fun H locs hW hS => ?_)
  refine lv_aload_n hx hb dX8_drawn_19 rfl (lv_at hl 0 rfl) ?_
  refine x_get cx hW kc_49 fk_X8_7 (v := .ref (g_ad G 50)) rfl dX8_drawn_20 ?_
  refine lv_iconst (v := (1 : Int32)) hx hb dX8_drawn_23 (by decide) ?_
  obtain ⟨j4, hj4, gj4, hF⟩ := ix_e hF
  refine x_iald cx hW kc_50 (by decide) hj4 gj4 dX8_drawn_24 ?_
  refine lv_bipush (v := (16 : Int32)) hx hb dX8_drawn_25 (by decide) ?_
  refine lv_iushr hx hb dX8_drawn_27 rfl ?_
  refine lv_iload_n hx hb dX8_drawn_28 rfl (lv_at hl 1 rfl) ?_
  obtain ⟨d5, hF⟩ := dv_e hF
  refine lv_irem hx hb dX8_drawn_29 d5 ?_
  exact x_iret cx hr hW hS (sp_1 hF) (sp_2 hF) dX8_drawn_30
def F_X8_drawsOf_43 (a1 : Int32) : Nat → Int32 → Mem → Option Mem
  | 0, _, _ => none
  | n + 1, x3, M => (if x3 ≤ 0 then some M else ix 8 x3 (fun j4 => bn (F_X8_drawn (x3 + (1 : Int32)) M) (fun r6 M7 => ix 8 r6 (fun j8 => (F_X8_swaps (m_I M 52 j4) (m_I M7 52 j8) M7).bind (fun M10 => F_X8_drawsOf_43 a1 n (x3 + (-1 : Int32)) M10)))))
set_option maxHeartbeats 4000000 in
set_option maxRecDepth 100000 in
theorem t_X8_drawsOf_43 {p : Program} {l : Launch} {e : Env} {s : State} {m : MethodId} {args : Array Value} {below : List Frame} {meth : Method} {c : Code} {G : GG} {a1 : Int32} (cx : Cx G cX8_drawsOf RX8 4 p s m args meth c) (hr : meth.sig.returnType = none)   {M1 : Mem} : ∀ (n : Nat) (x3 : Int32) (M : Mem), F_X8_drawsOf_43 a1 n x3 M = some M1 → ∀ (H : Heap) (locs : List Loc) (ls : Array Slot), WH G M H → va_S (g_A G) s.heap H locs → lv_has ls 4 [(0, .ref (g_ad G 49)), (3, .int x3)] → W p l e (RM 2 46) s m args below meth c H locs 0 0 (MQ below (QcV G M1) args s 0 0 (g_A G)) (F0 m 43 ls []) := by
  obtain ⟨hx, hb, hml, hown, hts, hKK, hSS, hlk⟩ := id cx
  intro n
  induction n with
  | zero =>
    intro x3 M hF H locs ls hW hS hl
    rw [F_X8_drawsOf_43] at hF
    cases hF
  | succ n ih =>
    intro x3 M hF H locs ls hW hS hl
    rw [F_X8_drawsOf_43] at hF
    refine lv_iload_n hx hb dX8_drawsOf_43 rfl (lv_at hl 1 rfl) ?_
    refine lv_if_le (tgt := 75) hx hb dX8_drawsOf_44 (by decide) (fun c3 => ?_) (fun c3 => ?_)
    · have hF := it_p c3 hF
      exact x_vret cx hr hW hS (Option.some.inj hF) dX8_drawsOf_75
    · have hF := it_n c3 hF
      refine lv_aload_n hx hb dX8_drawsOf_47 rfl (lv_at hl 0 rfl) ?_
      refine lv_aload_n hx hb dX8_drawsOf_48 rfl (lv_at hl 0 rfl) ?_
      refine x_get cx hW kc_49 fk_X8_16 (v := .ref (g_ad G 52)) rfl dX8_drawsOf_49 ?_
      refine lv_iload_n hx hb dX8_drawsOf_52 rfl (lv_at hl 1 rfl) ?_
      obtain ⟨j4, hj4, gj4, hF⟩ := ix_e hF
      refine x_iald cx hW kc_52 (by decide) hj4 gj4 dX8_drawsOf_53 ?_
      refine lv_aload_n hx hb dX8_drawsOf_54 rfl (lv_at hl 0 rfl) ?_
      refine x_get cx hW kc_49 fk_X8_16 (v := .ref (g_ad G 52)) rfl dX8_drawsOf_55 ?_
      refine lv_aload_n hx hb dX8_drawsOf_58 rfl (lv_at hl 0 rfl) ?_
      refine lv_iload_n hx hb dX8_drawsOf_59 rfl (lv_at hl 1 rfl) ?_
      refine lv_iconst (v := (1 : Int32)) hx hb dX8_drawsOf_60 (by decide) ?_
      refine lv_iadd hx hb dX8_drawsOf_61 ?_
      obtain ⟨r6, M7, hc5, hF⟩ := bn_e hF
      refine x_goi (x_runV cx hW hS (c_X8_drawn (l := l) (G := G) hc5) cv_X8_122 kc_49 rfl (rest := [.ref (g_ad G 52), .int (m_I M 52 j4), .ref (g_ad G 49)]) ⟨Nat.le_of_ble_eq_true rfl, Nat.le_of_ble_eq_true rfl⟩ hl.1 rfl rfl (Nat.le_of_ble_eq_true rfl) ⟨Nat.zero_le _, Nat.zero_le _⟩ dX8_drawsOf_62) hS (fun H locs hW hS => ?_)
      obtain ⟨j8, hj8, gj8, hF⟩ := ix_e hF
      refine x_iald cx hW kc_52 (by decide) hj8 gj8 dX8_drawsOf_65 ?_
      obtain ⟨M10, hc9, hF⟩ := bi_e hF
      refine x_gov (x_runV cx hW hS (c_X8_swaps (l := l) (G := G) hc9) cv_X8_107 kc_49 rfl (rest := []) ⟨Nat.le_of_ble_eq_true rfl, Nat.le_of_ble_eq_true rfl⟩ hl.1 rfl rfl (Nat.le_of_ble_eq_true rfl) ⟨Nat.zero_le _, Nat.zero_le _⟩ dX8_drawsOf_66) hS (fun H locs hW hS => ?_)
      refine lv_iinc (v := (x3 + (-1 : Int32))) (lv' := [(3, .int (x3 + (-1 : Int32))), (0, .ref (g_ad G 49))]) hx hb dX8_drawsOf_69 hl (k := 1) rfl rfl (by decide) rfl (fun ls hl => ?_)
      refine lv_goto (tgt := 43) hx hb dX8_drawsOf_72 (by decide) ?_
      exact ih (x3 + (-1 : Int32)) M10 hF _ _ _ hW hS (lv_sub hl [1, 0] rfl)
def F_X8_drawsOf_4 (a1 : Int32) : Nat → Int32 → Int32 → Mem → Option Mem
  | 0, _, _, _ => none
  | n + 1, x2, x3, M => ix 51 (2 : Int32) (fun j1 => (if (m_I M 50 j1) ≤ x3 then F_X8_drawsOf_43 a1 FU (x2 - (1 : Int32)) M else (F_X8_isChild x3 M).bind (fun r12 => (if r12 = a1 then ix 8 x2 (fun j14 => pin (w_I M 52 j14 x3) (fun M15 => F_X8_drawsOf_4 a1 n (x2 + 1) (x3 + 1) M15)) else F_X8_drawsOf_4 a1 n x2 (x3 + 1) M))))
set_option maxHeartbeats 4000000 in
set_option maxRecDepth 100000 in
theorem t_X8_drawsOf_4 {p : Program} {l : Launch} {e : Env} {s : State} {m : MethodId} {args : Array Value} {below : List Frame} {meth : Method} {c : Code} {G : GG} {a1 : Int32} (cx : Cx G cX8_drawsOf RX8 4 p s m args meth c) (hr : meth.sig.returnType = none)   {M1 : Mem} : ∀ (n : Nat) (x2 : Int32) (x3 : Int32) (M : Mem), F_X8_drawsOf_4 a1 n x2 x3 M = some M1 → ∀ (H : Heap) (locs : List Loc) (ls : Array Slot), WH G M H → va_S (g_A G) s.heap H locs → lv_has ls 4 [(0, .ref (g_ad G 49)), (1, .int a1), (2, .int x2), (3, .int x3)] → W p l e (RM 2 46) s m args below meth c H locs 0 0 (MQ below (QcV G M1) args s 0 0 (g_A G)) (F0 m 4 ls []) := by
  obtain ⟨hx, hb, hml, hown, hts, hKK, hSS, hlk⟩ := id cx
  intro n
  induction n with
  | zero =>
    intro x2 x3 M hF H locs ls hW hS hl
    rw [F_X8_drawsOf_4] at hF
    cases hF
  | succ n ih =>
    intro x2 x3 M hF H locs ls hW hS hl
    rw [F_X8_drawsOf_4] at hF
    refine lv_iload_n hx hb dX8_drawsOf_4 rfl (lv_at hl 3 rfl) ?_
    refine lv_aload_n hx hb dX8_drawsOf_5 rfl (lv_at hl 0 rfl) ?_
    refine x_get cx hW kc_49 fk_X8_7 (v := .ref (g_ad G 50)) rfl dX8_drawsOf_6 ?_
    refine lv_iconst (v := (2 : Int32)) hx hb dX8_drawsOf_9 (by decide) ?_
    obtain ⟨j1, hj1, gj1, hF⟩ := ix_e hF
    refine x_iald cx hW kc_50 (by decide) hj1 gj1 dX8_drawsOf_10 ?_
    refine lv_icmp_ge (tgt := 39) hx hb dX8_drawsOf_11 (by decide) (fun c2 => ?_) (fun c2 => ?_)
    · have hF := it_p c2 hF
      refine lv_iload_n hx hb dX8_drawsOf_39 rfl (lv_at hl 2 rfl) ?_
      refine lv_iconst (v := (1 : Int32)) hx hb dX8_drawsOf_40 (by decide) ?_
      refine lv_isub hx hb dX8_drawsOf_41 ?_
      refine lv_istore_n (lv' := [(3, .int (x2 - (1 : Int32))), (0, .ref (g_ad G 49)), (1, .int a1), (2, .int x2)]) hx hb dX8_drawsOf_42 rfl hl (by decide) rfl (fun ls hl => ?_)
      exact t_X8_drawsOf_43 cx hr FU (x2 - (1 : Int32)) M hF _ _ _ hW hS (lv_sub hl [1, 0] rfl)
    · have hF := it_n c2 hF
      refine lv_aload_n hx hb dX8_drawsOf_14 rfl (lv_at hl 0 rfl) ?_
      refine lv_iload_n hx hb dX8_drawsOf_15 rfl (lv_at hl 3 rfl) ?_
      obtain ⟨r12, hc11, hF⟩ := bi_e hF
      refine x_goi (x_runV cx hW hS (c_X8_isChild (l := l) (G := G) hc11) cv_X8_65 kc_49 rfl (rest := []) ⟨Nat.le_of_ble_eq_true rfl, Nat.le_of_ble_eq_true rfl⟩ hl.1 rfl rfl (Nat.le_of_ble_eq_true rfl) ⟨Nat.zero_le _, Nat.zero_le _⟩ dX8_drawsOf_16) hS (fun H locs hW hS => ?_)
      refine lv_iload_n hx hb dX8_drawsOf_19 rfl (lv_at hl 1 rfl) ?_
      refine lv_icmp_ne (tgt := 33) hx hb dX8_drawsOf_20 (by decide) (fun c13 => ?_) (fun c13 => ?_)
      · have hF := it_n c13 hF
        refine lv_iinc (v := (x3 + 1)) (lv' := [(3, .int (x3 + 1)), (0, .ref (g_ad G 49)), (1, .int a1), (2, .int x2)]) hx hb dX8_drawsOf_33 hl (k := 3) rfl rfl (by decide) rfl (fun ls hl => ?_)
        refine lv_goto (tgt := 4) hx hb dX8_drawsOf_36 (by decide) ?_
        exact ih x2 (x3 + 1) M hF _ _ _ hW hS (lv_sub hl [1, 2, 3, 0] rfl)
      · have hF := it_p c13 hF
        refine lv_aload_n hx hb dX8_drawsOf_23 rfl (lv_at hl 0 rfl) ?_
        refine x_get cx hW kc_49 fk_X8_16 (v := .ref (g_ad G 52)) rfl dX8_drawsOf_24 ?_
        refine lv_iload_n hx hb dX8_drawsOf_27 rfl (lv_at hl 2 rfl) ?_
        refine lv_iload_n hx hb dX8_drawsOf_28 rfl (lv_at hl 3 rfl) ?_
        obtain ⟨j14, hj14, gj14, hF⟩ := ix_e hF
        obtain ⟨M15, eM15, hF⟩ := pin_e hF
        refine x_iast cx hW hS kc_52 (by decide) hj14 gj14 eM15 dX8_drawsOf_29 (fun H locs hW hS => ?_)
        refine lv_iinc (v := (x2 + 1)) (lv' := [(2, .int (x2 + 1)), (0, .ref (g_ad G 49)), (1, .int a1), (3, .int x3)]) hx hb dX8_drawsOf_30 hl (k := 2) rfl rfl (by decide) rfl (fun ls hl => ?_)
        refine lv_iinc (v := (x3 + 1)) (lv' := [(3, .int (x3 + 1)), (2, .int (x2 + 1)), (0, .ref (g_ad G 49)), (1, .int a1)]) hx hb dX8_drawsOf_33 hl (k := 3) rfl rfl (by decide) rfl (fun ls hl => ?_)
        refine lv_goto (tgt := 4) hx hb dX8_drawsOf_36 (by decide) ?_
        exact ih (x2 + 1) (x3 + 1) M15 hF _ _ _ hW hS (lv_sub hl [2, 3, 1, 0] rfl)
def F_X8_drawsOf (a1 : Int32) (M : Mem) : Option Mem := F_X8_drawsOf_4 a1 FU (0 : Int32) (0 : Int32) M
set_option maxHeartbeats 4000000 in
set_option maxRecDepth 100000 in
theorem c_X8_drawsOf {l : Launch} {G : GG} {a1 : Int32}  {M : Mem} {M1 : Mem} (hF : F_X8_drawsOf a1 M = some M1) : Met l yX8_drawsOf (wz yX8_drawsOf cX8_drawsOf 4 none) (RM 2 46) (PreC G [.ref (g_ad G 49), .int a1] M) (QcV G M1) 0 0 (g_A G) := by
  rw [F_X8_drawsOf] at hF
  refine x_start (by decide) (Nat.le_of_ble_eq_true rfl) (lv := [(0, .ref (g_ad G 49)), (1, .int a1)]) rfl ?_
  intro p e s m below meth c cx hr hW hS ls hl
  obtain ⟨hx, hb, hml, hown, hts, hKK, hSS, hlk⟩ := id cx
  refine lv_iconst (v := (0 : Int32)) hx hb dX8_drawsOf_0 (by decide) ?_
  refine lv_istore_n (lv' := [(2, .int (0 : Int32)), (0, .ref (g_ad G 49)), (1, .int a1)]) hx hb dX8_drawsOf_1 rfl hl (by decide) rfl (fun ls hl => ?_)
  refine lv_iconst (v := (0 : Int32)) hx hb dX8_drawsOf_2 (by decide) ?_
  refine lv_istore_n (lv' := [(3, .int (0 : Int32)), (2, .int (0 : Int32)), (0, .ref (g_ad G 49)), (1, .int a1)]) hx hb dX8_drawsOf_3 rfl hl (by decide) rfl (fun ls hl => ?_)
  exact t_X8_drawsOf_4 cx hr FU (0 : Int32) (0 : Int32) M hF _ _ _ hW hS (lv_sub hl [2, 3, 1, 0] rfl)
def F_X8_draws (M : Mem) : Option Mem := (F_X8_allOwn M).bind (fun M2 => (F_X8_drawsOf (0 : Int32) M2).bind (fun M4 => (F_X8_drawsOf (1 : Int32) M4).bind (fun M6 => some M6)))
set_option maxHeartbeats 4000000 in
set_option maxRecDepth 100000 in
theorem c_X8_draws {l : Launch} {G : GG}   {M : Mem} {M1 : Mem} (hF : F_X8_draws M = some M1) : Met l yX8_draws (wz yX8_draws cX8_draws 1 none) (RM 3 69) (PreC G [.ref (g_ad G 49)] M) (QcV G M1) 0 0 (g_A G) := by
  rw [F_X8_draws] at hF
  refine x_start (by decide) (Nat.le_of_ble_eq_true rfl) (lv := [(0, .ref (g_ad G 49))]) rfl ?_
  intro p e s m below meth c cx hr hW hS ls hl
  obtain ⟨hx, hb, hml, hown, hts, hKK, hSS, hlk⟩ := id cx
  refine lv_aload_n hx hb dX8_draws_0 rfl (lv_at hl 0 rfl) ?_
  obtain ⟨M2, hc1, hF⟩ := bi_e hF
  refine x_gov (x_runV cx hW hS (c_X8_allOwn (l := l) (G := G) hc1) cv_X8_118 kc_49 rfl (rest := []) ⟨Nat.le_of_ble_eq_true rfl, Nat.le_of_ble_eq_true rfl⟩ hl.1 rfl rfl (Nat.le_of_ble_eq_true rfl) ⟨Nat.zero_le _, Nat.zero_le _⟩ dX8_draws_1) hS (fun H locs hW hS => ?_)
  refine lv_aload_n hx hb dX8_draws_4 rfl (lv_at hl 0 rfl) ?_
  refine lv_iconst (v := (0 : Int32)) hx hb dX8_draws_5 (by decide) ?_
  obtain ⟨M4, hc3, hF⟩ := bi_e hF
  refine x_gov (x_runV cx hW hS (c_X8_drawsOf (l := l) (G := G) hc3) cv_X8_125 kc_49 rfl (rest := []) ⟨Nat.le_of_ble_eq_true rfl, Nat.le_of_ble_eq_true rfl⟩ hl.1 rfl rfl (Nat.le_of_ble_eq_true rfl) ⟨Nat.zero_le _, Nat.zero_le _⟩ dX8_draws_6) hS (fun H locs hW hS => ?_)
  refine lv_aload_n hx hb dX8_draws_9 rfl (lv_at hl 0 rfl) ?_
  refine lv_iconst (v := (1 : Int32)) hx hb dX8_draws_10 (by decide) ?_
  obtain ⟨M6, hc5, hF⟩ := bi_e hF
  refine x_gov (x_runV cx hW hS (c_X8_drawsOf (l := l) (G := G) hc5) cv_X8_125 kc_49 rfl (rest := []) ⟨Nat.le_of_ble_eq_true rfl, Nat.le_of_ble_eq_true rfl⟩ hl.1 rfl rfl (Nat.le_of_ble_eq_true rfl) ⟨Nat.zero_le _, Nat.zero_le _⟩ dX8_draws_11) hS (fun H locs hW hS => ?_)
  exact x_vret cx hr hW hS (Option.some.inj hF) dX8_draws_14
def F_X8_draw (M : Mem) : Option (Int32 × Mem) := (F_X8_draws M).bind (fun M2 => (F_X8_ownSet M2).bind (fun r4 => (F_X8_bits r4 M2).bind (fun r6 => some (r6, M2))))
set_option maxHeartbeats 4000000 in
set_option maxRecDepth 100000 in
theorem c_X8_draw {l : Launch} {G : GG}   {M : Mem} {r : Int32} {M1 : Mem} (hF : F_X8_draw M = some (r, M1)) : Met l yX8_draw (wz yX8_draw cX8_draw 1 (some .int)) (RM 4 89) (PreC G [.ref (g_ad G 49)] M) (QcI G r M1) 0 0 (g_A G) := by
  rw [F_X8_draw] at hF
  refine x_start (by decide) (Nat.le_of_ble_eq_true rfl) (lv := [(0, .ref (g_ad G 49))]) rfl ?_
  intro p e s m below meth c cx hr hW hS ls hl
  obtain ⟨hx, hb, hml, hown, hts, hKK, hSS, hlk⟩ := id cx
  refine lv_aload_n hx hb dX8_draw_0 rfl (lv_at hl 0 rfl) ?_
  obtain ⟨M2, hc1, hF⟩ := bi_e hF
  refine x_gov (x_runV cx hW hS (c_X8_draws (l := l) (G := G) hc1) cv_X8_129 kc_49 rfl (rest := []) ⟨Nat.le_of_ble_eq_true rfl, Nat.le_of_ble_eq_true rfl⟩ hl.1 rfl rfl (Nat.le_of_ble_eq_true rfl) ⟨Nat.zero_le _, Nat.zero_le _⟩ dX8_draw_1) hS (fun H locs hW hS => ?_)
  refine lv_aload_n hx hb dX8_draw_4 rfl (lv_at hl 0 rfl) ?_
  obtain ⟨r4, hc3, hF⟩ := bi_e hF
  refine x_goi (x_runV cx hW hS (c_X8_ownSet (l := l) (G := G) hc3) cv_X8_111 kc_49 rfl (rest := []) ⟨Nat.le_of_ble_eq_true rfl, Nat.le_of_ble_eq_true rfl⟩ hl.1 rfl rfl (Nat.le_of_ble_eq_true rfl) ⟨Nat.zero_le _, Nat.zero_le _⟩ dX8_draw_5) hS (fun H locs hW hS => ?_)
  obtain ⟨r6, hc5, hF⟩ := bi_e hF
  refine x_goi (x_runS cx hW hS (c_X8_bits (l := l) (G := G) hc5) cs_X8_115 (rest := []) ⟨Nat.le_of_ble_eq_true rfl, Nat.le_of_ble_eq_true rfl⟩ hl.1 rfl rfl (Nat.le_of_ble_eq_true rfl) ⟨Nat.zero_le _, Nat.zero_le _⟩ dX8_draw_8) hS (fun H locs hW hS => ?_)
  exact x_iret cx hr hW hS (sp_1 hF) (sp_2 hF) dX8_draw_11
def F_X8_seed (a1 : Int32) (M : Mem) : Option (Int32 × Mem) := bn (F_X8_becomes (1 : Int32) a1 M) (fun r2 M3 => some (r2, M3))
set_option maxHeartbeats 4000000 in
set_option maxRecDepth 100000 in
theorem c_X8_seed {l : Launch} {G : GG} {a1 : Int32}  {M : Mem} {r : Int32} {M1 : Mem} (hF : F_X8_seed a1 M = some (r, M1)) : Met l yX8_seed (wz yX8_seed cX8_seed 2 (some .int)) (RM 1 23) (PreC G [.ref (g_ad G 49), .int a1] M) (QcI G r M1) 0 0 (g_A G) := by
  rw [F_X8_seed] at hF
  refine x_start (by decide) (Nat.le_of_ble_eq_true rfl) (lv := [(0, .ref (g_ad G 49)), (1, .int a1)]) rfl ?_
  intro p e s m below meth c cx hr hW hS ls hl
  obtain ⟨hx, hb, hml, hown, hts, hKK, hSS, hlk⟩ := id cx
  refine lv_aload_n hx hb dX8_seed_0 rfl (lv_at hl 0 rfl) ?_
  refine lv_iconst (v := (1 : Int32)) hx hb dX8_seed_1 (by decide) ?_
  refine lv_iload_n hx hb dX8_seed_2 rfl (lv_at hl 1 rfl) ?_
  obtain ⟨r2, M3, hc1, hF⟩ := bn_e hF
  refine x_goi (x_runV cx hW hS (c_X8_becomes (l := l) (G := G) hc1) cv_X8_98 kc_49 rfl (rest := []) ⟨Nat.le_of_ble_eq_true rfl, Nat.le_of_ble_eq_true rfl⟩ hl.1 rfl rfl (Nat.le_of_ble_eq_true rfl) ⟨Nat.zero_le _, Nat.zero_le _⟩ dX8_seed_3) hS (fun H locs hW hS => ?_)
  exact x_iret cx hr hW hS (sp_1 hF) (sp_2 hF) dX8_seed_6
def F_X8_oneFriday_63  : Nat → Int32 → Mem → Option Mem
  | 0, _, _ => none
  | n + 1, x1, M => ix 51 (2 : Int32) (fun j3 => (if (m_I M 50 j3) ≤ x1 then ix 51 (0 : Int32) (fun j5 => ix 51 (0 : Int32) (fun j6 => pin (w_I M 50 j6 ((m_I M 50 j5) + (1 : Int32))) (fun M7 => some M7))) else (F_X8_its x1 (2 : Int32) M).bind (fun r9 => ix 8 x1 (fun j10 => (F_X8_held (r9 + (m_I M 53 j10)) (0 : Int32) (99999 : Int32) M).bind (fun r12 => (F_X8_puts x1 (2 : Int32) r12 M).bind (fun M14 => (F_X8_its x1 (3 : Int32) M14).bind (fun r16 => ix 8 x1 (fun j17 => (F_X8_held (r16 + (m_I M14 54 j17)) (0 : Int32) (99 : Int32) M14).bind (fun r19 => (F_X8_puts x1 (3 : Int32) r19 M14).bind (fun M21 => (F_X8_its x1 (4 : Int32) M21).bind (fun r23 => ix 8 x1 (fun j24 => (F_X8_held (r23 + (m_I M21 55 j24)) (0 : Int32) (99 : Int32) M21).bind (fun r26 => (F_X8_puts x1 (4 : Int32) r26 M21).bind (fun M28 => F_X8_oneFriday_63 n (x1 + 1) M28))))))))))))))
set_option maxHeartbeats 4000000 in
set_option maxRecDepth 100000 in
theorem t_X8_oneFriday_63 {p : Program} {l : Launch} {e : Env} {s : State} {m : MethodId} {args : Array Value} {below : List Frame} {meth : Method} {c : Code} {G : GG}  (cx : Cx G cX8_oneFriday RX8 3 p s m args meth c) (hr : meth.sig.returnType = none)   {M1 : Mem} : ∀ (n : Nat) (x1 : Int32) (M : Mem), F_X8_oneFriday_63  n x1 M = some M1 → ∀ (H : Heap) (locs : List Loc) (ls : Array Slot), WH G M H → va_S (g_A G) s.heap H locs → lv_has ls 3 [(0, .ref (g_ad G 49)), (1, .int x1)] → W p l e (RM 2 47) s m args below meth c H locs 0 0 (MQ below (QcV G M1) args s 0 0 (g_A G)) (F0 m 63 ls []) := by
  obtain ⟨hx, hb, hml, hown, hts, hKK, hSS, hlk⟩ := id cx
  intro n
  induction n with
  | zero =>
    intro x1 M hF H locs ls hW hS hl
    rw [F_X8_oneFriday_63] at hF
    cases hF
  | succ n ih =>
    intro x1 M hF H locs ls hW hS hl
    rw [F_X8_oneFriday_63] at hF
    refine lv_iload_n hx hb dX8_oneFriday_63 rfl (lv_at hl 1 rfl) ?_
    refine lv_aload_n hx hb dX8_oneFriday_64 rfl (lv_at hl 0 rfl) ?_
    refine x_get cx hW kc_49 fk_X8_7 (v := .ref (g_ad G 50)) rfl dX8_oneFriday_65 ?_
    refine lv_iconst (v := (2 : Int32)) hx hb dX8_oneFriday_68 (by decide) ?_
    obtain ⟨j3, hj3, gj3, hF⟩ := ix_e hF
    refine x_iald cx hW kc_50 (by decide) hj3 gj3 dX8_oneFriday_69 ?_
    refine lv_icmp_ge (tgt := 154) hx hb dX8_oneFriday_70 (by decide) (fun c4 => ?_) (fun c4 => ?_)
    · have hF := it_p c4 hF
      refine lv_aload_n hx hb dX8_oneFriday_154 rfl (lv_at hl 0 rfl) ?_
      refine x_get cx hW kc_49 fk_X8_7 (v := .ref (g_ad G 50)) rfl dX8_oneFriday_155 ?_
      refine lv_iconst (v := (0 : Int32)) hx hb dX8_oneFriday_158 (by decide) ?_
      refine lv_dup2_11 hx hb dX8_oneFriday_159 rfl rfl ?_
      obtain ⟨j5, hj5, gj5, hF⟩ := ix_e hF
      refine x_iald cx hW kc_50 (by decide) hj5 gj5 dX8_oneFriday_160 ?_
      refine lv_iconst (v := (1 : Int32)) hx hb dX8_oneFriday_161 (by decide) ?_
      refine lv_iadd hx hb dX8_oneFriday_162 ?_
      obtain ⟨j6, hj6, gj6, hF⟩ := ix_e hF
      obtain ⟨M7, eM7, hF⟩ := pin_e hF
      refine x_iast cx hW hS kc_50 (by decide) hj6 gj6 eM7 dX8_oneFriday_163 (fun H locs hW hS => ?_)
      exact x_vret cx hr hW hS (Option.some.inj hF) dX8_oneFriday_164
    · have hF := it_n c4 hF
      refine lv_aload_n hx hb dX8_oneFriday_73 rfl (lv_at hl 0 rfl) ?_
      refine lv_iload_n hx hb dX8_oneFriday_74 rfl (lv_at hl 1 rfl) ?_
      refine lv_iconst (v := (2 : Int32)) hx hb dX8_oneFriday_75 (by decide) ?_
      refine lv_aload_n hx hb dX8_oneFriday_76 rfl (lv_at hl 0 rfl) ?_
      refine lv_iload_n hx hb dX8_oneFriday_77 rfl (lv_at hl 1 rfl) ?_
      refine lv_iconst (v := (2 : Int32)) hx hb dX8_oneFriday_78 (by decide) ?_
      obtain ⟨r9, hc8, hF⟩ := bi_e hF
      refine x_goi (x_runV cx hW hS (c_X8_its (l := l) (G := G) hc8) cv_X8_61 kc_49 rfl (rest := [.int (2 : Int32), .int x1, .ref (g_ad G 49)]) ⟨Nat.le_of_ble_eq_true rfl, Nat.le_of_ble_eq_true rfl⟩ hl.1 rfl rfl (Nat.le_of_ble_eq_true rfl) ⟨Nat.zero_le _, Nat.zero_le _⟩ dX8_oneFriday_79) hS (fun H locs hW hS => ?_)
      refine lv_aload_n hx hb dX8_oneFriday_82 rfl (lv_at hl 0 rfl) ?_
      refine x_get cx hW kc_49 fk_X8_19 (v := .ref (g_ad G 53)) rfl dX8_oneFriday_83 ?_
      refine lv_iload_n hx hb dX8_oneFriday_86 rfl (lv_at hl 1 rfl) ?_
      obtain ⟨j10, hj10, gj10, hF⟩ := ix_e hF
      refine x_iald cx hW kc_53 (by decide) hj10 gj10 dX8_oneFriday_87 ?_
      refine lv_iadd hx hb dX8_oneFriday_88 ?_
      refine lv_iconst (v := (0 : Int32)) hx hb dX8_oneFriday_89 (by decide) ?_
      refine x_ldc cx q_k_X8_97 dX8_oneFriday_90 ?_
      obtain ⟨r12, hc11, hF⟩ := bi_e hF
      refine x_goi (x_runS cx hW hS (c_X8_held (l := l) (G := G) hc11) cs_X8_135 (rest := [.int (2 : Int32), .int x1, .ref (g_ad G 49)]) ⟨Nat.le_of_ble_eq_true rfl, Nat.le_of_ble_eq_true rfl⟩ hl.1 rfl rfl (Nat.le_of_ble_eq_true rfl) ⟨Nat.zero_le _, Nat.zero_le _⟩ dX8_oneFriday_92) hS (fun H locs hW hS => ?_)
      obtain ⟨M14, hc13, hF⟩ := bi_e hF
      refine x_gov (x_runV cx hW hS (c_X8_puts (l := l) (G := G) hc13) cv_X8_76 kc_49 rfl (rest := []) ⟨Nat.le_of_ble_eq_true rfl, Nat.le_of_ble_eq_true rfl⟩ hl.1 rfl rfl (Nat.le_of_ble_eq_true rfl) ⟨Nat.zero_le _, Nat.zero_le _⟩ dX8_oneFriday_95) hS (fun H locs hW hS => ?_)
      refine lv_aload_n hx hb dX8_oneFriday_98 rfl (lv_at hl 0 rfl) ?_
      refine lv_iload_n hx hb dX8_oneFriday_99 rfl (lv_at hl 1 rfl) ?_
      refine lv_iconst (v := (3 : Int32)) hx hb dX8_oneFriday_100 (by decide) ?_
      refine lv_aload_n hx hb dX8_oneFriday_101 rfl (lv_at hl 0 rfl) ?_
      refine lv_iload_n hx hb dX8_oneFriday_102 rfl (lv_at hl 1 rfl) ?_
      refine lv_iconst (v := (3 : Int32)) hx hb dX8_oneFriday_103 (by decide) ?_
      obtain ⟨r16, hc15, hF⟩ := bi_e hF
      refine x_goi (x_runV cx hW hS (c_X8_its (l := l) (G := G) hc15) cv_X8_61 kc_49 rfl (rest := [.int (3 : Int32), .int x1, .ref (g_ad G 49)]) ⟨Nat.le_of_ble_eq_true rfl, Nat.le_of_ble_eq_true rfl⟩ hl.1 rfl rfl (Nat.le_of_ble_eq_true rfl) ⟨Nat.zero_le _, Nat.zero_le _⟩ dX8_oneFriday_104) hS (fun H locs hW hS => ?_)
      refine lv_aload_n hx hb dX8_oneFriday_107 rfl (lv_at hl 0 rfl) ?_
      refine x_get cx hW kc_49 fk_X8_22 (v := .ref (g_ad G 54)) rfl dX8_oneFriday_108 ?_
      refine lv_iload_n hx hb dX8_oneFriday_111 rfl (lv_at hl 1 rfl) ?_
      obtain ⟨j17, hj17, gj17, hF⟩ := ix_e hF
      refine x_iald cx hW kc_54 (by decide) hj17 gj17 dX8_oneFriday_112 ?_
      refine lv_iadd hx hb dX8_oneFriday_113 ?_
      refine lv_iconst (v := (0 : Int32)) hx hb dX8_oneFriday_114 (by decide) ?_
      refine lv_bipush (v := (99 : Int32)) hx hb dX8_oneFriday_115 (by decide) ?_
      obtain ⟨r19, hc18, hF⟩ := bi_e hF
      refine x_goi (x_runS cx hW hS (c_X8_held (l := l) (G := G) hc18) cs_X8_135 (rest := [.int (3 : Int32), .int x1, .ref (g_ad G 49)]) ⟨Nat.le_of_ble_eq_true rfl, Nat.le_of_ble_eq_true rfl⟩ hl.1 rfl rfl (Nat.le_of_ble_eq_true rfl) ⟨Nat.zero_le _, Nat.zero_le _⟩ dX8_oneFriday_117) hS (fun H locs hW hS => ?_)
      obtain ⟨M21, hc20, hF⟩ := bi_e hF
      refine x_gov (x_runV cx hW hS (c_X8_puts (l := l) (G := G) hc20) cv_X8_76 kc_49 rfl (rest := []) ⟨Nat.le_of_ble_eq_true rfl, Nat.le_of_ble_eq_true rfl⟩ hl.1 rfl rfl (Nat.le_of_ble_eq_true rfl) ⟨Nat.zero_le _, Nat.zero_le _⟩ dX8_oneFriday_120) hS (fun H locs hW hS => ?_)
      refine lv_aload_n hx hb dX8_oneFriday_123 rfl (lv_at hl 0 rfl) ?_
      refine lv_iload_n hx hb dX8_oneFriday_124 rfl (lv_at hl 1 rfl) ?_
      refine lv_iconst (v := (4 : Int32)) hx hb dX8_oneFriday_125 (by decide) ?_
      refine lv_aload_n hx hb dX8_oneFriday_126 rfl (lv_at hl 0 rfl) ?_
      refine lv_iload_n hx hb dX8_oneFriday_127 rfl (lv_at hl 1 rfl) ?_
      refine lv_iconst (v := (4 : Int32)) hx hb dX8_oneFriday_128 (by decide) ?_
      obtain ⟨r23, hc22, hF⟩ := bi_e hF
      refine x_goi (x_runV cx hW hS (c_X8_its (l := l) (G := G) hc22) cv_X8_61 kc_49 rfl (rest := [.int (4 : Int32), .int x1, .ref (g_ad G 49)]) ⟨Nat.le_of_ble_eq_true rfl, Nat.le_of_ble_eq_true rfl⟩ hl.1 rfl rfl (Nat.le_of_ble_eq_true rfl) ⟨Nat.zero_le _, Nat.zero_le _⟩ dX8_oneFriday_129) hS (fun H locs hW hS => ?_)
      refine lv_aload_n hx hb dX8_oneFriday_132 rfl (lv_at hl 0 rfl) ?_
      refine x_get cx hW kc_49 fk_X8_25 (v := .ref (g_ad G 55)) rfl dX8_oneFriday_133 ?_
      refine lv_iload_n hx hb dX8_oneFriday_136 rfl (lv_at hl 1 rfl) ?_
      obtain ⟨j24, hj24, gj24, hF⟩ := ix_e hF
      refine x_iald cx hW kc_55 (by decide) hj24 gj24 dX8_oneFriday_137 ?_
      refine lv_iadd hx hb dX8_oneFriday_138 ?_
      refine lv_iconst (v := (0 : Int32)) hx hb dX8_oneFriday_139 (by decide) ?_
      refine lv_bipush (v := (99 : Int32)) hx hb dX8_oneFriday_140 (by decide) ?_
      obtain ⟨r26, hc25, hF⟩ := bi_e hF
      refine x_goi (x_runS cx hW hS (c_X8_held (l := l) (G := G) hc25) cs_X8_135 (rest := [.int (4 : Int32), .int x1, .ref (g_ad G 49)]) ⟨Nat.le_of_ble_eq_true rfl, Nat.le_of_ble_eq_true rfl⟩ hl.1 rfl rfl (Nat.le_of_ble_eq_true rfl) ⟨Nat.zero_le _, Nat.zero_le _⟩ dX8_oneFriday_142) hS (fun H locs hW hS => ?_)
      obtain ⟨M28, hc27, hF⟩ := bi_e hF
      refine x_gov (x_runV cx hW hS (c_X8_puts (l := l) (G := G) hc27) cv_X8_76 kc_49 rfl (rest := []) ⟨Nat.le_of_ble_eq_true rfl, Nat.le_of_ble_eq_true rfl⟩ hl.1 rfl rfl (Nat.le_of_ble_eq_true rfl) ⟨Nat.zero_le _, Nat.zero_le _⟩ dX8_oneFriday_145) hS (fun H locs hW hS => ?_)
      refine lv_iinc (v := (x1 + 1)) (lv' := [(1, .int (x1 + 1)), (0, .ref (g_ad G 49))]) hx hb dX8_oneFriday_148 hl (k := 1) rfl rfl (by decide) rfl (fun ls hl => ?_)
      refine lv_goto (tgt := 63) hx hb dX8_oneFriday_151 (by decide) ?_
      exact ih (x1 + 1) M28 hF _ _ _ hW hS (lv_sub hl [1, 0] rfl)
def F_X8_oneFriday_2  : Nat → Int32 → Mem → Option Mem
  | 0, _, _ => none
  | n + 1, x1, M => ix 51 (2 : Int32) (fun j1 => (if (m_I M 50 j1) ≤ x1 then F_X8_oneFriday_63 FU (0 : Int32) M else (F_X8_its x1 (5 : Int32) M).bind (fun r30 => (F_X8_earnsAs x1 r30 M).bind (fun r32 => ix 8 r30 (fun j33 => pin (w_I M 53 j33 r32) (fun M34 => (F_X8_saysAs x1 r30 M34).bind (fun r36 => ix 8 r30 (fun j37 => pin (w_I M34 54 j37 r36) (fun M38 => (F_X8_hearsAs x1 r30 M38).bind (fun r40 => ix 8 x1 (fun j41 => pin (w_I M38 55 j41 r40) (fun M42 => F_X8_oneFriday_2 n (x1 + 1) M42))))))))))))
set_option maxHeartbeats 4000000 in
set_option maxRecDepth 100000 in
theorem t_X8_oneFriday_2 {p : Program} {l : Launch} {e : Env} {s : State} {m : MethodId} {args : Array Value} {below : List Frame} {meth : Method} {c : Code} {G : GG}  (cx : Cx G cX8_oneFriday RX8 3 p s m args meth c) (hr : meth.sig.returnType = none)   {M1 : Mem} : ∀ (n : Nat) (x1 : Int32) (M : Mem), F_X8_oneFriday_2  n x1 M = some M1 → ∀ (H : Heap) (locs : List Loc) (ls : Array Slot), WH G M H → va_S (g_A G) s.heap H locs → lv_has ls 3 [(0, .ref (g_ad G 49)), (1, .int x1)] → W p l e (RM 2 47) s m args below meth c H locs 0 0 (MQ below (QcV G M1) args s 0 0 (g_A G)) (F0 m 2 ls []) := by
  obtain ⟨hx, hb, hml, hown, hts, hKK, hSS, hlk⟩ := id cx
  intro n
  induction n with
  | zero =>
    intro x1 M hF H locs ls hW hS hl
    rw [F_X8_oneFriday_2] at hF
    cases hF
  | succ n ih =>
    intro x1 M hF H locs ls hW hS hl
    rw [F_X8_oneFriday_2] at hF
    refine lv_iload_n hx hb dX8_oneFriday_2 rfl (lv_at hl 1 rfl) ?_
    refine lv_aload_n hx hb dX8_oneFriday_3 rfl (lv_at hl 0 rfl) ?_
    refine x_get cx hW kc_49 fk_X8_7 (v := .ref (g_ad G 50)) rfl dX8_oneFriday_4 ?_
    refine lv_iconst (v := (2 : Int32)) hx hb dX8_oneFriday_7 (by decide) ?_
    obtain ⟨j1, hj1, gj1, hF⟩ := ix_e hF
    refine x_iald cx hW kc_50 (by decide) hj1 gj1 dX8_oneFriday_8 ?_
    refine lv_icmp_ge (tgt := 61) hx hb dX8_oneFriday_9 (by decide) (fun c2 => ?_) (fun c2 => ?_)
    · have hF := it_p c2 hF
      refine lv_iconst (v := (0 : Int32)) hx hb dX8_oneFriday_61 (by decide) ?_
      refine lv_istore_n (lv' := [(1, .int (0 : Int32)), (0, .ref (g_ad G 49))]) hx hb dX8_oneFriday_62 rfl hl (by decide) rfl (fun ls hl => ?_)
      exact t_X8_oneFriday_63 cx hr FU (0 : Int32) M hF _ _ _ hW hS (lv_sub hl [1, 0] rfl)
    · have hF := it_n c2 hF
      refine lv_aload_n hx hb dX8_oneFriday_12 rfl (lv_at hl 0 rfl) ?_
      refine lv_iload_n hx hb dX8_oneFriday_13 rfl (lv_at hl 1 rfl) ?_
      refine lv_iconst (v := (5 : Int32)) hx hb dX8_oneFriday_14 (by decide) ?_
      obtain ⟨r30, hc29, hF⟩ := bi_e hF
      refine x_goi (x_runV cx hW hS (c_X8_its (l := l) (G := G) hc29) cv_X8_61 kc_49 rfl (rest := []) ⟨Nat.le_of_ble_eq_true rfl, Nat.le_of_ble_eq_true rfl⟩ hl.1 rfl rfl (Nat.le_of_ble_eq_true rfl) ⟨Nat.zero_le _, Nat.zero_le _⟩ dX8_oneFriday_15) hS (fun H locs hW hS => ?_)
      refine lv_istore_n (lv' := [(2, .int r30), (0, .ref (g_ad G 49)), (1, .int x1)]) hx hb dX8_oneFriday_18 rfl hl (by decide) rfl (fun ls hl => ?_)
      refine lv_aload_n hx hb dX8_oneFriday_19 rfl (lv_at hl 1 rfl) ?_
      refine x_get cx hW kc_49 fk_X8_19 (v := .ref (g_ad G 53)) rfl dX8_oneFriday_20 ?_
      refine lv_iload_n hx hb dX8_oneFriday_23 rfl (lv_at hl 0 rfl) ?_
      refine lv_aload_n hx hb dX8_oneFriday_24 rfl (lv_at hl 1 rfl) ?_
      refine lv_iload_n hx hb dX8_oneFriday_25 rfl (lv_at hl 2 rfl) ?_
      refine lv_iload_n hx hb dX8_oneFriday_26 rfl (lv_at hl 0 rfl) ?_
      obtain ⟨r32, hc31, hF⟩ := bi_e hF
      refine x_goi (x_runV cx hW hS (c_X8_earnsAs (l := l) (G := G) hc31) cv_X8_69 kc_49 rfl (rest := [.int r30, .ref (g_ad G 53)]) ⟨Nat.le_of_ble_eq_true rfl, Nat.le_of_ble_eq_true rfl⟩ hl.1 rfl rfl (Nat.le_of_ble_eq_true rfl) ⟨Nat.zero_le _, Nat.zero_le _⟩ dX8_oneFriday_27) hS (fun H locs hW hS => ?_)
      obtain ⟨j33, hj33, gj33, hF⟩ := ix_e hF
      obtain ⟨M34, eM34, hF⟩ := pin_e hF
      refine x_iast cx hW hS kc_53 (by decide) hj33 gj33 eM34 dX8_oneFriday_30 (fun H locs hW hS => ?_)
      refine lv_aload_n hx hb dX8_oneFriday_31 rfl (lv_at hl 1 rfl) ?_
      refine x_get cx hW kc_49 fk_X8_22 (v := .ref (g_ad G 54)) rfl dX8_oneFriday_32 ?_
      refine lv_iload_n hx hb dX8_oneFriday_35 rfl (lv_at hl 0 rfl) ?_
      refine lv_aload_n hx hb dX8_oneFriday_36 rfl (lv_at hl 1 rfl) ?_
      refine lv_iload_n hx hb dX8_oneFriday_37 rfl (lv_at hl 2 rfl) ?_
      refine lv_iload_n hx hb dX8_oneFriday_38 rfl (lv_at hl 0 rfl) ?_
      obtain ⟨r36, hc35, hF⟩ := bi_e hF
      refine x_goi (x_runV cx hW hS (c_X8_saysAs (l := l) (G := G) hc35) cv_X8_94 kc_49 rfl (rest := [.int r30, .ref (g_ad G 54)]) ⟨Nat.le_of_ble_eq_true rfl, Nat.le_of_ble_eq_true rfl⟩ hl.1 rfl rfl (Nat.le_of_ble_eq_true rfl) ⟨Nat.zero_le _, Nat.zero_le _⟩ dX8_oneFriday_39) hS (fun H locs hW hS => ?_)
      obtain ⟨j37, hj37, gj37, hF⟩ := ix_e hF
      obtain ⟨M38, eM38, hF⟩ := pin_e hF
      refine x_iast cx hW hS kc_54 (by decide) hj37 gj37 eM38 dX8_oneFriday_42 (fun H locs hW hS => ?_)
      refine lv_aload_n hx hb dX8_oneFriday_43 rfl (lv_at hl 1 rfl) ?_
      refine x_get cx hW kc_49 fk_X8_25 (v := .ref (g_ad G 55)) rfl dX8_oneFriday_44 ?_
      refine lv_iload_n hx hb dX8_oneFriday_47 rfl (lv_at hl 2 rfl) ?_
      refine lv_aload_n hx hb dX8_oneFriday_48 rfl (lv_at hl 1 rfl) ?_
      refine lv_iload_n hx hb dX8_oneFriday_49 rfl (lv_at hl 2 rfl) ?_
      refine lv_iload_n hx hb dX8_oneFriday_50 rfl (lv_at hl 0 rfl) ?_
      obtain ⟨r40, hc39, hF⟩ := bi_e hF
      refine x_goi (x_runV cx hW hS (c_X8_hearsAs (l := l) (G := G) hc39) cv_X8_132 kc_49 rfl (rest := [.int x1, .ref (g_ad G 55)]) ⟨Nat.le_of_ble_eq_true rfl, Nat.le_of_ble_eq_true rfl⟩ hl.1 rfl rfl (Nat.le_of_ble_eq_true rfl) ⟨Nat.zero_le _, Nat.zero_le _⟩ dX8_oneFriday_51) hS (fun H locs hW hS => ?_)
      obtain ⟨j41, hj41, gj41, hF⟩ := ix_e hF
      obtain ⟨M42, eM42, hF⟩ := pin_e hF
      refine x_iast cx hW hS kc_55 (by decide) hj41 gj41 eM42 dX8_oneFriday_54 (fun H locs hW hS => ?_)
      refine lv_iinc (v := (x1 + 1)) (lv' := [(1, .int (x1 + 1)), (2, .int r30), (0, .ref (g_ad G 49))]) hx hb dX8_oneFriday_55 hl (k := 2) rfl rfl (by decide) rfl (fun ls hl => ?_)
      refine lv_goto (tgt := 2) hx hb dX8_oneFriday_58 (by decide) ?_
      exact ih (x1 + 1) M42 hF _ _ _ hW hS (lv_sub hl [2, 0] rfl)
def F_X8_oneFriday (M : Mem) : Option Mem := F_X8_oneFriday_2 FU (0 : Int32) M
set_option maxHeartbeats 4000000 in
set_option maxRecDepth 100000 in
theorem c_X8_oneFriday {l : Launch} {G : GG}   {M : Mem} {M1 : Mem} (hF : F_X8_oneFriday M = some M1) : Met l yX8_oneFriday (wz yX8_oneFriday cX8_oneFriday 3 none) (RM 2 47) (PreC G [.ref (g_ad G 49)] M) (QcV G M1) 0 0 (g_A G) := by
  rw [F_X8_oneFriday] at hF
  refine x_start (by decide) (Nat.le_of_ble_eq_true rfl) (lv := [(0, .ref (g_ad G 49))]) rfl ?_
  intro p e s m below meth c cx hr hW hS ls hl
  obtain ⟨hx, hb, hml, hown, hts, hKK, hSS, hlk⟩ := id cx
  refine lv_iconst (v := (0 : Int32)) hx hb dX8_oneFriday_0 (by decide) ?_
  refine lv_istore_n (lv' := [(1, .int (0 : Int32)), (0, .ref (g_ad G 49))]) hx hb dX8_oneFriday_1 rfl hl (by decide) rfl (fun ls hl => ?_)
  exact t_X8_oneFriday_2 cx hr FU (0 : Int32) M hF _ _ _ hW hS (lv_sub hl [1, 0] rfl)
def F_X8_fridays_40 (a1 : Int32) : Nat → Int32 → Mem → Option (Int32 × Mem)
  | 0, _, _ => none
  | n + 1, x2, M => (if a1 ≤ x2 then (F_X8_sumOf (2 : Int32) M).bind (fun r8 => some (r8, M)) else (F_X8_oneFriday M).bind (fun M10 => F_X8_fridays_40 a1 n (x2 + 1) M10))
set_option maxHeartbeats 4000000 in
set_option maxRecDepth 100000 in
theorem t_X8_fridays_40 {p : Program} {l : Launch} {e : Env} {s : State} {m : MethodId} {args : Array Value} {below : List Frame} {meth : Method} {c : Code} {G : GG} {a1 : Int32} (cx : Cx G cX8_fridays RX8 3 p s m args meth c) (hr : meth.sig.returnType = (some .int))   {r : Int32} {M1 : Mem} : ∀ (n : Nat) (x2 : Int32) (M : Mem), F_X8_fridays_40 a1 n x2 M = some (r, M1) → ∀ (H : Heap) (locs : List Loc) (ls : Array Slot), WH G M H → va_S (g_A G) s.heap H locs → lv_has ls 3 [(0, .ref (g_ad G 49)), (1, .int a1), (2, .int x2)] → W p l e (RM 3 69) s m args below meth c H locs 0 0 (MQ below (QcI G r M1) args s 0 0 (g_A G)) (F0 m 40 ls []) := by
  obtain ⟨hx, hb, hml, hown, hts, hKK, hSS, hlk⟩ := id cx
  intro n
  induction n with
  | zero =>
    intro x2 M hF H locs ls hW hS hl
    rw [F_X8_fridays_40] at hF
    cases hF
  | succ n ih =>
    intro x2 M hF H locs ls hW hS hl
    rw [F_X8_fridays_40] at hF
    refine lv_iload_n hx hb dX8_fridays_40 rfl (lv_at hl 2 rfl) ?_
    refine lv_iload_n hx hb dX8_fridays_41 rfl (lv_at hl 1 rfl) ?_
    refine lv_icmp_ge (tgt := 55) hx hb dX8_fridays_42 (by decide) (fun c6 => ?_) (fun c6 => ?_)
    · have hF := it_p c6 hF
      refine lv_aload_n hx hb dX8_fridays_55 rfl (lv_at hl 0 rfl) ?_
      refine lv_iconst (v := (2 : Int32)) hx hb dX8_fridays_56 (by decide) ?_
      obtain ⟨r8, hc7, hF⟩ := bi_e hF
      refine x_goi (x_runV cx hW hS (c_X8_sumOf (l := l) (G := G) hc7) cv_X8_142 kc_49 rfl (rest := []) ⟨Nat.le_of_ble_eq_true rfl, Nat.le_of_ble_eq_true rfl⟩ hl.1 rfl rfl (Nat.le_of_ble_eq_true rfl) ⟨Nat.zero_le _, Nat.zero_le _⟩ dX8_fridays_57) hS (fun H locs hW hS => ?_)
      exact x_iret cx hr hW hS (sp_1 hF) (sp_2 hF) dX8_fridays_60
    · have hF := it_n c6 hF
      refine lv_aload_n hx hb dX8_fridays_45 rfl (lv_at hl 0 rfl) ?_
      obtain ⟨M10, hc9, hF⟩ := bi_e hF
      refine x_gov (x_runV cx hW hS (c_X8_oneFriday (l := l) (G := G) hc9) cv_X8_139 kc_49 rfl (rest := []) ⟨Nat.le_of_ble_eq_true rfl, Nat.le_of_ble_eq_true rfl⟩ hl.1 rfl rfl (Nat.le_of_ble_eq_true rfl) ⟨Nat.zero_le _, Nat.zero_le _⟩ dX8_fridays_46) hS (fun H locs hW hS => ?_)
      refine lv_iinc (v := (x2 + 1)) (lv' := [(2, .int (x2 + 1)), (0, .ref (g_ad G 49)), (1, .int a1)]) hx hb dX8_fridays_49 hl (k := 2) rfl rfl (by decide) rfl (fun ls hl => ?_)
      refine lv_goto (tgt := 40) hx hb dX8_fridays_52 (by decide) ?_
      exact ih (x2 + 1) M10 hF _ _ _ hW hS (lv_sub hl [1, 2, 0] rfl)
def F_X8_fridays (a1 : Int32) (M : Mem) : Option (Int32 × Mem) := (F_X8_in a1 (1 : Int32) (60 : Int32) M).bind (fun r2 => (if r2 = 0 then bn (F_X8_finds (-1000000001 : Int32) M) (fun r15 M16 => some (r15, M16)) else ix 51 (0 : Int32) (fun j4 => (if ((m_I M 50 j4) + a1) ≤ (9999 : Int32) then F_X8_fridays_40 a1 FU (0 : Int32) M else bn (F_X8_finds (-1000000005 : Int32) M) (fun r12 M13 => some (r12, M13))))))
set_option maxHeartbeats 4000000 in
set_option maxRecDepth 100000 in
theorem c_X8_fridays {l : Launch} {G : GG} {a1 : Int32}  {M : Mem} {r : Int32} {M1 : Mem} (hF : F_X8_fridays a1 M = some (r, M1)) : Met l yX8_fridays (wz yX8_fridays cX8_fridays 3 (some .int)) (RM 3 69) (PreC G [.ref (g_ad G 49), .int a1] M) (QcI G r M1) 0 0 (g_A G) := by
  rw [F_X8_fridays] at hF
  refine x_start (by decide) (Nat.le_of_ble_eq_true rfl) (lv := [(0, .ref (g_ad G 49)), (1, .int a1)]) rfl ?_
  intro p e s m below meth c cx hr hW hS ls hl
  obtain ⟨hx, hb, hml, hown, hts, hKK, hSS, hlk⟩ := id cx
  refine lv_iload_n hx hb dX8_fridays_0 rfl (lv_at hl 1 rfl) ?_
  refine lv_iconst (v := (1 : Int32)) hx hb dX8_fridays_1 (by decide) ?_
  refine lv_bipush (v := (60 : Int32)) hx hb dX8_fridays_2 (by decide) ?_
  obtain ⟨r2, hc1, hF⟩ := bi_e hF
  refine x_goi (x_runS cx hW hS (c_X8_in (l := l) (G := G) hc1) cs_X8_57 (rest := []) ⟨Nat.le_of_ble_eq_true rfl, Nat.le_of_ble_eq_true rfl⟩ hl.1 rfl rfl (Nat.le_of_ble_eq_true rfl) ⟨Nat.zero_le _, Nat.zero_le _⟩ dX8_fridays_4) hS (fun H locs hW hS => ?_)
  refine lv_if_ne (tgt := 17) hx hb dX8_fridays_7 (by decide) (fun c3 => ?_) (fun c3 => ?_)
  · have hF := it_n c3 hF
    refine lv_aload_n hx hb dX8_fridays_17 rfl (lv_at hl 0 rfl) ?_
    refine x_get cx hW kc_49 fk_X8_7 (v := .ref (g_ad G 50)) rfl dX8_fridays_18 ?_
    refine lv_iconst (v := (0 : Int32)) hx hb dX8_fridays_21 (by decide) ?_
    obtain ⟨j4, hj4, gj4, hF⟩ := ix_e hF
    refine x_iald cx hW kc_50 (by decide) hj4 gj4 dX8_fridays_22 ?_
    refine lv_iload_n hx hb dX8_fridays_23 rfl (lv_at hl 1 rfl) ?_
    refine lv_iadd hx hb dX8_fridays_24 ?_
    refine lv_sipush (v := (9999 : Int32)) hx hb dX8_fridays_25 (by decide) ?_
    refine lv_icmp_le (tgt := 38) hx hb dX8_fridays_28 (by decide) (fun c5 => ?_) (fun c5 => ?_)
    · have hF := it_p c5 hF
      refine lv_iconst (v := (0 : Int32)) hx hb dX8_fridays_38 (by decide) ?_
      refine lv_istore_n (lv' := [(2, .int (0 : Int32)), (0, .ref (g_ad G 49)), (1, .int a1)]) hx hb dX8_fridays_39 rfl hl (by decide) rfl (fun ls hl => ?_)
      exact t_X8_fridays_40 cx hr FU (0 : Int32) M hF _ _ _ hW hS (lv_sub hl [1, 2, 0] rfl)
    · have hF := it_n c5 hF
      refine lv_aload_n hx hb dX8_fridays_31 rfl (lv_at hl 0 rfl) ?_
      refine x_ldc cx q_k_X8_106 dX8_fridays_32 ?_
      obtain ⟨r12, M13, hc11, hF⟩ := bn_e hF
      refine x_goi (x_runV cx hW hS (c_X8_finds (l := l) (G := G) hc11) cv_X8_83 kc_49 rfl (rest := []) ⟨Nat.le_of_ble_eq_true rfl, Nat.le_of_ble_eq_true rfl⟩ hl.1 rfl rfl (Nat.le_of_ble_eq_true rfl) ⟨Nat.zero_le _, Nat.zero_le _⟩ dX8_fridays_34) hS (fun H locs hW hS => ?_)
      exact x_iret cx hr hW hS (sp_1 hF) (sp_2 hF) dX8_fridays_37
  · have hF := it_p c3 hF
    refine lv_aload_n hx hb dX8_fridays_10 rfl (lv_at hl 0 rfl) ?_
    refine x_ldc cx q_k_X8_56 dX8_fridays_11 ?_
    obtain ⟨r15, M16, hc14, hF⟩ := bn_e hF
    refine x_goi (x_runV cx hW hS (c_X8_finds (l := l) (G := G) hc14) cv_X8_83 kc_49 rfl (rest := []) ⟨Nat.le_of_ble_eq_true rfl, Nat.le_of_ble_eq_true rfl⟩ hl.1 rfl rfl (Nat.le_of_ble_eq_true rfl) ⟨Nat.zero_le _, Nat.zero_le _⟩ dX8_fridays_13) hS (fun H locs hW hS => ?_)
    exact x_iret cx hr hW hS (sp_1 hF) (sp_2 hF) dX8_fridays_16
def F_X8_season_40 (a1 : Int32) : Nat → Int32 → Mem → Option (Int32 × Mem)
  | 0, _, _ => none
  | n + 1, x2, M => (if a1 ≤ x2 then (F_X8_sumOf (2 : Int32) M).bind (fun r8 => some (r8, M)) else (F_X8_draws M).bind (fun M10 => (F_X8_oneFriday M10).bind (fun M12 => F_X8_season_40 a1 n (x2 + 1) M12)))
set_option maxHeartbeats 4000000 in
set_option maxRecDepth 100000 in
theorem t_X8_season_40 {p : Program} {l : Launch} {e : Env} {s : State} {m : MethodId} {args : Array Value} {below : List Frame} {meth : Method} {c : Code} {G : GG} {a1 : Int32} (cx : Cx G cX8_season RX8 3 p s m args meth c) (hr : meth.sig.returnType = (some .int))   {r : Int32} {M1 : Mem} : ∀ (n : Nat) (x2 : Int32) (M : Mem), F_X8_season_40 a1 n x2 M = some (r, M1) → ∀ (H : Heap) (locs : List Loc) (ls : Array Slot), WH G M H → va_S (g_A G) s.heap H locs → lv_has ls 3 [(0, .ref (g_ad G 49)), (1, .int a1), (2, .int x2)] → W p l e (RM 4 89) s m args below meth c H locs 0 0 (MQ below (QcI G r M1) args s 0 0 (g_A G)) (F0 m 40 ls []) := by
  obtain ⟨hx, hb, hml, hown, hts, hKK, hSS, hlk⟩ := id cx
  intro n
  induction n with
  | zero =>
    intro x2 M hF H locs ls hW hS hl
    rw [F_X8_season_40] at hF
    cases hF
  | succ n ih =>
    intro x2 M hF H locs ls hW hS hl
    rw [F_X8_season_40] at hF
    refine lv_iload_n hx hb dX8_season_40 rfl (lv_at hl 2 rfl) ?_
    refine lv_iload_n hx hb dX8_season_41 rfl (lv_at hl 1 rfl) ?_
    refine lv_icmp_ge (tgt := 59) hx hb dX8_season_42 (by decide) (fun c6 => ?_) (fun c6 => ?_)
    · have hF := it_p c6 hF
      refine lv_aload_n hx hb dX8_season_59 rfl (lv_at hl 0 rfl) ?_
      refine lv_iconst (v := (2 : Int32)) hx hb dX8_season_60 (by decide) ?_
      obtain ⟨r8, hc7, hF⟩ := bi_e hF
      refine x_goi (x_runV cx hW hS (c_X8_sumOf (l := l) (G := G) hc7) cv_X8_142 kc_49 rfl (rest := []) ⟨Nat.le_of_ble_eq_true rfl, Nat.le_of_ble_eq_true rfl⟩ hl.1 rfl rfl (Nat.le_of_ble_eq_true rfl) ⟨Nat.zero_le _, Nat.zero_le _⟩ dX8_season_61) hS (fun H locs hW hS => ?_)
      exact x_iret cx hr hW hS (sp_1 hF) (sp_2 hF) dX8_season_64
    · have hF := it_n c6 hF
      refine lv_aload_n hx hb dX8_season_45 rfl (lv_at hl 0 rfl) ?_
      obtain ⟨M10, hc9, hF⟩ := bi_e hF
      refine x_gov (x_runV cx hW hS (c_X8_draws (l := l) (G := G) hc9) cv_X8_129 kc_49 rfl (rest := []) ⟨Nat.le_of_ble_eq_true rfl, Nat.le_of_ble_eq_true rfl⟩ hl.1 rfl rfl (Nat.le_of_ble_eq_true rfl) ⟨Nat.zero_le _, Nat.zero_le _⟩ dX8_season_46) hS (fun H locs hW hS => ?_)
      refine lv_aload_n hx hb dX8_season_49 rfl (lv_at hl 0 rfl) ?_
      obtain ⟨M12, hc11, hF⟩ := bi_e hF
      refine x_gov (x_runV cx hW hS (c_X8_oneFriday (l := l) (G := G) hc11) cv_X8_139 kc_49 rfl (rest := []) ⟨Nat.le_of_ble_eq_true rfl, Nat.le_of_ble_eq_true rfl⟩ hl.1 rfl rfl (Nat.le_of_ble_eq_true rfl) ⟨Nat.zero_le _, Nat.zero_le _⟩ dX8_season_50) hS (fun H locs hW hS => ?_)
      refine lv_iinc (v := (x2 + 1)) (lv' := [(2, .int (x2 + 1)), (0, .ref (g_ad G 49)), (1, .int a1)]) hx hb dX8_season_53 hl (k := 2) rfl rfl (by decide) rfl (fun ls hl => ?_)
      refine lv_goto (tgt := 40) hx hb dX8_season_56 (by decide) ?_
      exact ih (x2 + 1) M12 hF _ _ _ hW hS (lv_sub hl [1, 2, 0] rfl)
def F_X8_season (a1 : Int32) (M : Mem) : Option (Int32 × Mem) := (F_X8_in a1 (1 : Int32) (20 : Int32) M).bind (fun r2 => (if r2 = 0 then bn (F_X8_finds (-1000000001 : Int32) M) (fun r17 M18 => some (r17, M18)) else ix 51 (0 : Int32) (fun j4 => (if ((m_I M 50 j4) + a1) ≤ (9999 : Int32) then F_X8_season_40 a1 FU (0 : Int32) M else bn (F_X8_finds (-1000000005 : Int32) M) (fun r14 M15 => some (r14, M15))))))
set_option maxHeartbeats 4000000 in
set_option maxRecDepth 100000 in
theorem c_X8_season {l : Launch} {G : GG} {a1 : Int32}  {M : Mem} {r : Int32} {M1 : Mem} (hF : F_X8_season a1 M = some (r, M1)) : Met l yX8_season (wz yX8_season cX8_season 3 (some .int)) (RM 4 89) (PreC G [.ref (g_ad G 49), .int a1] M) (QcI G r M1) 0 0 (g_A G) := by
  rw [F_X8_season] at hF
  refine x_start (by decide) (Nat.le_of_ble_eq_true rfl) (lv := [(0, .ref (g_ad G 49)), (1, .int a1)]) rfl ?_
  intro p e s m below meth c cx hr hW hS ls hl
  obtain ⟨hx, hb, hml, hown, hts, hKK, hSS, hlk⟩ := id cx
  refine lv_iload_n hx hb dX8_season_0 rfl (lv_at hl 1 rfl) ?_
  refine lv_iconst (v := (1 : Int32)) hx hb dX8_season_1 (by decide) ?_
  refine lv_bipush (v := (20 : Int32)) hx hb dX8_season_2 (by decide) ?_
  obtain ⟨r2, hc1, hF⟩ := bi_e hF
  refine x_goi (x_runS cx hW hS (c_X8_in (l := l) (G := G) hc1) cs_X8_57 (rest := []) ⟨Nat.le_of_ble_eq_true rfl, Nat.le_of_ble_eq_true rfl⟩ hl.1 rfl rfl (Nat.le_of_ble_eq_true rfl) ⟨Nat.zero_le _, Nat.zero_le _⟩ dX8_season_4) hS (fun H locs hW hS => ?_)
  refine lv_if_ne (tgt := 17) hx hb dX8_season_7 (by decide) (fun c3 => ?_) (fun c3 => ?_)
  · have hF := it_n c3 hF
    refine lv_aload_n hx hb dX8_season_17 rfl (lv_at hl 0 rfl) ?_
    refine x_get cx hW kc_49 fk_X8_7 (v := .ref (g_ad G 50)) rfl dX8_season_18 ?_
    refine lv_iconst (v := (0 : Int32)) hx hb dX8_season_21 (by decide) ?_
    obtain ⟨j4, hj4, gj4, hF⟩ := ix_e hF
    refine x_iald cx hW kc_50 (by decide) hj4 gj4 dX8_season_22 ?_
    refine lv_iload_n hx hb dX8_season_23 rfl (lv_at hl 1 rfl) ?_
    refine lv_iadd hx hb dX8_season_24 ?_
    refine lv_sipush (v := (9999 : Int32)) hx hb dX8_season_25 (by decide) ?_
    refine lv_icmp_le (tgt := 38) hx hb dX8_season_28 (by decide) (fun c5 => ?_) (fun c5 => ?_)
    · have hF := it_p c5 hF
      refine lv_iconst (v := (0 : Int32)) hx hb dX8_season_38 (by decide) ?_
      refine lv_istore_n (lv' := [(2, .int (0 : Int32)), (0, .ref (g_ad G 49)), (1, .int a1)]) hx hb dX8_season_39 rfl hl (by decide) rfl (fun ls hl => ?_)
      exact t_X8_season_40 cx hr FU (0 : Int32) M hF _ _ _ hW hS (lv_sub hl [1, 2, 0] rfl)
    · have hF := it_n c5 hF
      refine lv_aload_n hx hb dX8_season_31 rfl (lv_at hl 0 rfl) ?_
      refine x_ldc cx q_k_X8_106 dX8_season_32 ?_
      obtain ⟨r14, M15, hc13, hF⟩ := bn_e hF
      refine x_goi (x_runV cx hW hS (c_X8_finds (l := l) (G := G) hc13) cv_X8_83 kc_49 rfl (rest := []) ⟨Nat.le_of_ble_eq_true rfl, Nat.le_of_ble_eq_true rfl⟩ hl.1 rfl rfl (Nat.le_of_ble_eq_true rfl) ⟨Nat.zero_le _, Nat.zero_le _⟩ dX8_season_34) hS (fun H locs hW hS => ?_)
      exact x_iret cx hr hW hS (sp_1 hF) (sp_2 hF) dX8_season_37
  · have hF := it_p c3 hF
    refine lv_aload_n hx hb dX8_season_10 rfl (lv_at hl 0 rfl) ?_
    refine x_ldc cx q_k_X8_56 dX8_season_11 ?_
    obtain ⟨r17, M18, hc16, hF⟩ := bn_e hF
    refine x_goi (x_runV cx hW hS (c_X8_finds (l := l) (G := G) hc16) cv_X8_83 kc_49 rfl (rest := []) ⟨Nat.le_of_ble_eq_true rfl, Nat.le_of_ble_eq_true rfl⟩ hl.1 rfl rfl (Nat.le_of_ble_eq_true rfl) ⟨Nat.zero_le _, Nat.zero_le _⟩ dX8_season_13) hS (fun H locs hW hS => ?_)
    exact x_iret cx hr hW hS (sp_1 hF) (sp_2 hF) dX8_season_16
def F_X8_children_4  (M : Mem) : Nat → Int32 → Int32 → Option Int32
  | 0, _, _ => none
  | n + 1, x1, x2 => ix 51 (2 : Int32) (fun j1 => (if (m_I M 50 j1) ≤ x2 then some x1 else (F_X8_isChild x2 M).bind (fun r4 => (if r4 = 0 then F_X8_children_4 M n (x1 ||| (0 : Int32)) (x2 + 1) else F_X8_children_4 M n (x1 ||| ((1 : Int32) <<< (x2 &&& 31))) (x2 + 1)))))
set_option maxHeartbeats 4000000 in
set_option maxRecDepth 100000 in
theorem t_X8_children_4 {p : Program} {l : Launch} {e : Env} {s : State} {m : MethodId} {args : Array Value} {below : List Frame} {meth : Method} {c : Code} {G : GG}  (cx : Cx G cX8_children RX8 3 p s m args meth c) (hr : meth.sig.returnType = (some .int))   {M : Mem} {r : Int32} : ∀ (n : Nat) (x1 : Int32) (x2 : Int32), F_X8_children_4  M n x1 x2 = some r → ∀ (H : Heap) (locs : List Loc) (ls : Array Slot), WH G M H → va_S (g_A G) s.heap H locs → lv_has ls 3 [(0, .ref (g_ad G 49)), (1, .int x1), (2, .int x2)] → W p l e (RM 2 43) s m args below meth c H locs 0 0 (MQ below (QcI G r M) args s 0 0 (g_A G)) (F0 m 4 ls []) := by
  obtain ⟨hx, hb, hml, hown, hts, hKK, hSS, hlk⟩ := id cx
  intro n
  induction n with
  | zero =>
    intro x1 x2 hF H locs ls hW hS hl
    rw [F_X8_children_4] at hF
    cases hF
  | succ n ih =>
    intro x1 x2 hF H locs ls hW hS hl
    rw [F_X8_children_4] at hF
    refine lv_iload_n hx hb dX8_children_4 rfl (lv_at hl 2 rfl) ?_
    refine lv_aload_n hx hb dX8_children_5 rfl (lv_at hl 0 rfl) ?_
    refine x_get cx hW kc_49 fk_X8_7 (v := .ref (g_ad G 50)) rfl dX8_children_6 ?_
    refine lv_iconst (v := (2 : Int32)) hx hb dX8_children_9 (by decide) ?_
    obtain ⟨j1, hj1, gj1, hF⟩ := ix_e hF
    refine x_iald cx hW kc_50 (by decide) hj1 gj1 dX8_children_10 ?_
    refine lv_icmp_ge (tgt := 38) hx hb dX8_children_11 (by decide) (fun c2 => ?_) (fun c2 => ?_)
    · have hF := it_p c2 hF
      refine lv_iload_n hx hb dX8_children_38 rfl (lv_at hl 1 rfl) ?_
      exact x_iret cx hr hW hS (Option.some.inj hF) rfl dX8_children_39
    · have hF := it_n c2 hF
      refine lv_iload_n hx hb dX8_children_14 rfl (lv_at hl 1 rfl) ?_
      refine lv_aload_n hx hb dX8_children_15 rfl (lv_at hl 0 rfl) ?_
      refine lv_iload_n hx hb dX8_children_16 rfl (lv_at hl 2 rfl) ?_
      obtain ⟨r4, hc3, hF⟩ := bi_e hF
      refine x_goi (x_runV cx hW hS (c_X8_isChild (l := l) (G := G) hc3) cv_X8_65 kc_49 rfl (rest := [.int x1]) ⟨Nat.le_of_ble_eq_true rfl, Nat.le_of_ble_eq_true rfl⟩ hl.1 rfl rfl (Nat.le_of_ble_eq_true rfl) ⟨Nat.zero_le _, Nat.zero_le _⟩ dX8_children_17) hS (fun H locs hW hS => ?_)
      refine lv_if_eq (tgt := 29) hx hb dX8_children_20 (by decide) (fun c5 => ?_) (fun c5 => ?_)
      · have hF := it_p c5 hF
        refine lv_iconst (v := (0 : Int32)) hx hb dX8_children_29 (by decide) ?_
        refine lv_ior hx hb dX8_children_30 ?_
        refine lv_istore_n (lv' := [(1, .int (x1 ||| (0 : Int32))), (0, .ref (g_ad G 49)), (2, .int x2)]) hx hb dX8_children_31 rfl hl (by decide) rfl (fun ls hl => ?_)
        refine lv_iinc (v := (x2 + 1)) (lv' := [(2, .int (x2 + 1)), (1, .int (x1 ||| (0 : Int32))), (0, .ref (g_ad G 49))]) hx hb dX8_children_32 hl (k := 2) rfl rfl (by decide) rfl (fun ls hl => ?_)
        refine lv_goto (tgt := 4) hx hb dX8_children_35 (by decide) ?_
        exact ih (x1 ||| (0 : Int32)) (x2 + 1) hF _ _ _ hW hS (lv_sub hl [2, 1, 0] rfl)
      · have hF := it_n c5 hF
        refine lv_iconst (v := (1 : Int32)) hx hb dX8_children_23 (by decide) ?_
        refine lv_iload_n hx hb dX8_children_24 rfl (lv_at hl 2 rfl) ?_
        refine lv_ishl hx hb dX8_children_25 ?_
        refine lv_goto (tgt := 30) hx hb dX8_children_26 (by decide) ?_
        refine lv_ior hx hb dX8_children_30 ?_
        refine lv_istore_n (lv' := [(1, .int (x1 ||| ((1 : Int32) <<< (x2 &&& 31)))), (0, .ref (g_ad G 49)), (2, .int x2)]) hx hb dX8_children_31 rfl hl (by decide) rfl (fun ls hl => ?_)
        refine lv_iinc (v := (x2 + 1)) (lv' := [(2, .int (x2 + 1)), (1, .int (x1 ||| ((1 : Int32) <<< (x2 &&& 31)))), (0, .ref (g_ad G 49))]) hx hb dX8_children_32 hl (k := 2) rfl rfl (by decide) rfl (fun ls hl => ?_)
        refine lv_goto (tgt := 4) hx hb dX8_children_35 (by decide) ?_
        exact ih (x1 ||| ((1 : Int32) <<< (x2 &&& 31))) (x2 + 1) hF _ _ _ hW hS (lv_sub hl [2, 1, 0] rfl)
def F_X8_children (M : Mem) : Option Int32 := F_X8_children_4 M FU (0 : Int32) (0 : Int32)
set_option maxHeartbeats 4000000 in
set_option maxRecDepth 100000 in
theorem c_X8_children {l : Launch} {G : GG}   {M : Mem} {r : Int32} (hF : F_X8_children M = some r) : Met l yX8_children (wz yX8_children cX8_children 3 (some .int)) (RM 2 43) (PreC G [.ref (g_ad G 49)] M) (QcI G r M) 0 0 (g_A G) := by
  rw [F_X8_children] at hF
  refine x_start (by decide) (Nat.le_of_ble_eq_true rfl) (lv := [(0, .ref (g_ad G 49))]) rfl ?_
  intro p e s m below meth c cx hr hW hS ls hl
  obtain ⟨hx, hb, hml, hown, hts, hKK, hSS, hlk⟩ := id cx
  refine lv_iconst (v := (0 : Int32)) hx hb dX8_children_0 (by decide) ?_
  refine lv_istore_n (lv' := [(1, .int (0 : Int32)), (0, .ref (g_ad G 49))]) hx hb dX8_children_1 rfl hl (by decide) rfl (fun ls hl => ?_)
  refine lv_iconst (v := (0 : Int32)) hx hb dX8_children_2 (by decide) ?_
  refine lv_istore_n (lv' := [(2, .int (0 : Int32)), (1, .int (0 : Int32)), (0, .ref (g_ad G 49))]) hx hb dX8_children_3 rfl hl (by decide) rfl (fun ls hl => ?_)
  exact t_X8_children_4 cx hr FU (0 : Int32) (0 : Int32) hF _ _ _ hW hS (lv_sub hl [2, 1, 0] rfl)
def F_X8_isRight_4  (M : Mem) : Nat → Int32 → Int32 → Option Int32
  | 0, _, _ => none
  | n + 1, x1, x2 => ix 51 (2 : Int32) (fun j1 => (if (m_I M 50 j1) ≤ x2 then zb x1 (some x1) else (if x1 = 0 then F_X8_isRight_4 M n (0 : Int32) (x2 + 1) else (F_X8_its x2 (5 : Int32) M).bind (fun r6 => (F_X8_areAlike x2 r6 M).bind (fun r8 => (if r8 = 0 then F_X8_isRight_4 M n (0 : Int32) (x2 + 1) else F_X8_isRight_4 M n (1 : Int32) (x2 + 1)))))))
set_option maxHeartbeats 4000000 in
set_option maxRecDepth 100000 in
theorem t_X8_isRight_4 {p : Program} {l : Launch} {e : Env} {s : State} {m : MethodId} {args : Array Value} {below : List Frame} {meth : Method} {c : Code} {G : GG}  (cx : Cx G cX8_isRight RX8 3 p s m args meth c) (hr : meth.sig.returnType = (some .boolean))   {M : Mem} {r : Int32} : ∀ (n : Nat) (x1 : Int32) (x2 : Int32), F_X8_isRight_4  M n x1 x2 = some r → ∀ (H : Heap) (locs : List Loc) (ls : Array Slot), WH G M H → va_S (g_A G) s.heap H locs → lv_has ls 3 [(0, .ref (g_ad G 49)), (1, .int x1), (2, .int x2)] → W p l e (RM 3 65) s m args below meth c H locs 0 0 (MQ below (QcI G r M) args s 0 0 (g_A G)) (F0 m 4 ls []) := by
  obtain ⟨hx, hb, hml, hown, hts, hKK, hSS, hlk⟩ := id cx
  intro n
  induction n with
  | zero =>
    intro x1 x2 hF H locs ls hW hS hl
    rw [F_X8_isRight_4] at hF
    cases hF
  | succ n ih =>
    intro x1 x2 hF H locs ls hW hS hl
    rw [F_X8_isRight_4] at hF
    refine lv_iload_n hx hb dX8_isRight_4 rfl (lv_at hl 2 rfl) ?_
    refine lv_aload_n hx hb dX8_isRight_5 rfl (lv_at hl 0 rfl) ?_
    refine x_get cx hW kc_49 fk_X8_7 (v := .ref (g_ad G 50)) rfl dX8_isRight_6 ?_
    refine lv_iconst (v := (2 : Int32)) hx hb dX8_isRight_9 (by decide) ?_
    obtain ⟨j1, hj1, gj1, hF⟩ := ix_e hF
    refine x_iald cx hW kc_50 (by decide) hj1 gj1 dX8_isRight_10 ?_
    refine lv_icmp_ge (tgt := 44) hx hb dX8_isRight_11 (by decide) (fun c2 => ?_) (fun c2 => ?_)
    · have hF := it_p c2 hF
      refine lv_iload_n hx hb dX8_isRight_44 rfl (lv_at hl 1 rfl) ?_
      obtain ⟨z3, hF⟩ := zb_e hF
      exact x_zret cx hr (nz_b z3) hW hS (Option.some.inj hF) rfl dX8_isRight_45
    · have hF := it_n c2 hF
      refine lv_iload_n hx hb dX8_isRight_14 rfl (lv_at hl 1 rfl) ?_
      refine lv_if_eq (tgt := 36) hx hb dX8_isRight_15 (by decide) (fun c4 => ?_) (fun c4 => ?_)
      · have hF := it_p c4 hF
        refine lv_iconst (v := (0 : Int32)) hx hb dX8_isRight_36 (by decide) ?_
        refine lv_istore_n (lv' := [(1, .int (0 : Int32)), (0, .ref (g_ad G 49)), (2, .int x2)]) hx hb dX8_isRight_37 rfl hl (by decide) rfl (fun ls hl => ?_)
        refine lv_iinc (v := (x2 + 1)) (lv' := [(2, .int (x2 + 1)), (1, .int (0 : Int32)), (0, .ref (g_ad G 49))]) hx hb dX8_isRight_38 hl (k := 2) rfl rfl (by decide) rfl (fun ls hl => ?_)
        refine lv_goto (tgt := 4) hx hb dX8_isRight_41 (by decide) ?_
        exact ih (0 : Int32) (x2 + 1) hF _ _ _ hW hS (lv_sub hl [2, 1, 0] rfl)
      · have hF := it_n c4 hF
        refine lv_aload_n hx hb dX8_isRight_18 rfl (lv_at hl 0 rfl) ?_
        refine lv_iload_n hx hb dX8_isRight_19 rfl (lv_at hl 2 rfl) ?_
        refine lv_aload_n hx hb dX8_isRight_20 rfl (lv_at hl 0 rfl) ?_
        refine lv_iload_n hx hb dX8_isRight_21 rfl (lv_at hl 2 rfl) ?_
        refine lv_iconst (v := (5 : Int32)) hx hb dX8_isRight_22 (by decide) ?_
        obtain ⟨r6, hc5, hF⟩ := bi_e hF
        refine x_goi (x_runV cx hW hS (c_X8_its (l := l) (G := G) hc5) cv_X8_61 kc_49 rfl (rest := [.int x2, .ref (g_ad G 49)]) ⟨Nat.le_of_ble_eq_true rfl, Nat.le_of_ble_eq_true rfl⟩ hl.1 rfl rfl (Nat.le_of_ble_eq_true rfl) ⟨Nat.zero_le _, Nat.zero_le _⟩ dX8_isRight_23) hS (fun H locs hW hS => ?_)
        obtain ⟨r8, hc7, hF⟩ := bi_e hF
        refine x_goi (x_runV cx hW hS (c_X8_areAlike (l := l) (G := G) hc7) cv_X8_102 kc_49 rfl (rest := []) ⟨Nat.le_of_ble_eq_true rfl, Nat.le_of_ble_eq_true rfl⟩ hl.1 rfl rfl (Nat.le_of_ble_eq_true rfl) ⟨Nat.zero_le _, Nat.zero_le _⟩ dX8_isRight_26) hS (fun H locs hW hS => ?_)
        refine lv_if_eq (tgt := 36) hx hb dX8_isRight_29 (by decide) (fun c9 => ?_) (fun c9 => ?_)
        · have hF := it_p c9 hF
          refine lv_iconst (v := (0 : Int32)) hx hb dX8_isRight_36 (by decide) ?_
          refine lv_istore_n (lv' := [(1, .int (0 : Int32)), (0, .ref (g_ad G 49)), (2, .int x2)]) hx hb dX8_isRight_37 rfl hl (by decide) rfl (fun ls hl => ?_)
          refine lv_iinc (v := (x2 + 1)) (lv' := [(2, .int (x2 + 1)), (1, .int (0 : Int32)), (0, .ref (g_ad G 49))]) hx hb dX8_isRight_38 hl (k := 2) rfl rfl (by decide) rfl (fun ls hl => ?_)
          refine lv_goto (tgt := 4) hx hb dX8_isRight_41 (by decide) ?_
          exact ih (0 : Int32) (x2 + 1) hF _ _ _ hW hS (lv_sub hl [2, 1, 0] rfl)
        · have hF := it_n c9 hF
          refine lv_iconst (v := (1 : Int32)) hx hb dX8_isRight_32 (by decide) ?_
          refine lv_goto (tgt := 37) hx hb dX8_isRight_33 (by decide) ?_
          refine lv_istore_n (lv' := [(1, .int (1 : Int32)), (0, .ref (g_ad G 49)), (2, .int x2)]) hx hb dX8_isRight_37 rfl hl (by decide) rfl (fun ls hl => ?_)
          refine lv_iinc (v := (x2 + 1)) (lv' := [(2, .int (x2 + 1)), (1, .int (1 : Int32)), (0, .ref (g_ad G 49))]) hx hb dX8_isRight_38 hl (k := 2) rfl rfl (by decide) rfl (fun ls hl => ?_)
          refine lv_goto (tgt := 4) hx hb dX8_isRight_41 (by decide) ?_
          exact ih (1 : Int32) (x2 + 1) hF _ _ _ hW hS (lv_sub hl [2, 1, 0] rfl)
def F_X8_isRight (M : Mem) : Option Int32 := F_X8_isRight_4 M FU (1 : Int32) (0 : Int32)
set_option maxHeartbeats 4000000 in
set_option maxRecDepth 100000 in
theorem c_X8_isRight {l : Launch} {G : GG}   {M : Mem} {r : Int32} (hF : F_X8_isRight M = some r) : Met l yX8_isRight (wz yX8_isRight cX8_isRight 3 (some .boolean)) (RM 3 65) (PreC G [.ref (g_ad G 49)] M) (QcI G r M) 0 0 (g_A G) := by
  rw [F_X8_isRight] at hF
  refine x_start (by decide) (Nat.le_of_ble_eq_true rfl) (lv := [(0, .ref (g_ad G 49))]) rfl ?_
  intro p e s m below meth c cx hr hW hS ls hl
  obtain ⟨hx, hb, hml, hown, hts, hKK, hSS, hlk⟩ := id cx
  refine lv_iconst (v := (1 : Int32)) hx hb dX8_isRight_0 (by decide) ?_
  refine lv_istore_n (lv' := [(1, .int (1 : Int32)), (0, .ref (g_ad G 49))]) hx hb dX8_isRight_1 rfl hl (by decide) rfl (fun ls hl => ?_)
  refine lv_iconst (v := (0 : Int32)) hx hb dX8_isRight_2 (by decide) ?_
  refine lv_istore_n (lv' := [(2, .int (0 : Int32)), (1, .int (1 : Int32)), (0, .ref (g_ad G 49))]) hx hb dX8_isRight_3 rfl hl (by decide) rfl (fun ls hl => ?_)
  exact t_X8_isRight_4 cx hr FU (1 : Int32) (0 : Int32) hF _ _ _ hW hS (lv_sub hl [2, 1, 0] rfl)
def F_X8_now (a1 : Int32) (M : Mem) : Option (Int32 × Mem) := (if a1 = (0 : Int32) then ix 51 (0 : Int32) (fun j2 => some ((m_I M 50 j2), M)) else (if a1 = (1 : Int32) then (F_X8_sumOf (2 : Int32) M).bind (fun r5 => some (r5, M)) else (if a1 = (2 : Int32) then (F_X8_children M).bind (fun r8 => some (r8, M)) else (if a1 = (3 : Int32) then (F_X8_ownSet M).bind (fun r11 => some (r11, M)) else (if a1 = (4 : Int32) then (F_X8_earnAll M).bind (fun r14 => some (r14, M)) else (if a1 = (5 : Int32) then (F_X8_isRight M).bind (fun r17 => (if r17 = 0 then some ((0 : Int32), M) else some ((1 : Int32), M))) else (if a1 = (6 : Int32) then (F_X8_sumOf (4 : Int32) M).bind (fun r21 => some (r21, M)) else bn (F_X8_finds (-1000000001 : Int32) M) (fun r23 M24 => some (r23, M24)))))))))
set_option maxHeartbeats 4000000 in
set_option maxRecDepth 100000 in
theorem c_X8_now {l : Launch} {G : GG} {a1 : Int32}  {M : Mem} {r : Int32} {M1 : Mem} (hF : F_X8_now a1 M = some (r, M1)) : Met l yX8_now (wz yX8_now cX8_now 2 (some .int)) (RM 4 90) (PreC G [.ref (g_ad G 49), .int a1] M) (QcI G r M1) 0 0 (g_A G) := by
  rw [F_X8_now] at hF
  refine x_start (by decide) (Nat.le_of_ble_eq_true rfl) (lv := [(0, .ref (g_ad G 49)), (1, .int a1)]) rfl ?_
  intro p e s m below meth c cx hr hW hS ls hl
  obtain ⟨hx, hb, hml, hown, hts, hKK, hSS, hlk⟩ := id cx
  refine lv_iload_n hx hb dX8_now_0 rfl (lv_at hl 1 rfl) ?_
  refine x_sw (0 : Int32) (fun c1 => ?_) (fun c1 => ?_)
  · have hF := it_p c1 hF
    refine x_tab (tgt := 44) cx dX8_now_1 c1 (by decide) (by decide) rfl (by decide) ?_
    refine lv_aload_n hx hb dX8_now_44 rfl (lv_at hl 0 rfl) ?_
    refine x_get cx hW kc_49 fk_X8_7 (v := .ref (g_ad G 50)) rfl dX8_now_45 ?_
    refine lv_iconst (v := (0 : Int32)) hx hb dX8_now_48 (by decide) ?_
    obtain ⟨j2, hj2, gj2, hF⟩ := ix_e hF
    refine x_iald cx hW kc_50 (by decide) hj2 gj2 dX8_now_49 ?_
    exact x_iret cx hr hW hS (sp_1 hF) (sp_2 hF) dX8_now_50
  · have hF := it_n c1 hF
    refine x_sw (1 : Int32) (fun c3 => ?_) (fun c3 => ?_)
    · have hF := it_p c3 hF
      refine x_tab (tgt := 51) cx dX8_now_1 c3 (by decide) (by decide) rfl (by decide) ?_
      refine lv_aload_n hx hb dX8_now_51 rfl (lv_at hl 0 rfl) ?_
      refine lv_iconst (v := (2 : Int32)) hx hb dX8_now_52 (by decide) ?_
      obtain ⟨r5, hc4, hF⟩ := bi_e hF
      refine x_goi (x_runV cx hW hS (c_X8_sumOf (l := l) (G := G) hc4) cv_X8_142 kc_49 rfl (rest := []) ⟨Nat.le_of_ble_eq_true rfl, Nat.le_of_ble_eq_true rfl⟩ hl.1 rfl rfl (Nat.le_of_ble_eq_true rfl) ⟨Nat.zero_le _, Nat.zero_le _⟩ dX8_now_53) hS (fun H locs hW hS => ?_)
      exact x_iret cx hr hW hS (sp_1 hF) (sp_2 hF) dX8_now_56
    · have hF := it_n c3 hF
      refine x_sw (2 : Int32) (fun c6 => ?_) (fun c6 => ?_)
      · have hF := it_p c6 hF
        refine x_tab (tgt := 57) cx dX8_now_1 c6 (by decide) (by decide) rfl (by decide) ?_
        refine lv_aload_n hx hb dX8_now_57 rfl (lv_at hl 0 rfl) ?_
        obtain ⟨r8, hc7, hF⟩ := bi_e hF
        refine x_goi (x_runV cx hW hS (c_X8_children (l := l) (G := G) hc7) cv_X8_145 kc_49 rfl (rest := []) ⟨Nat.le_of_ble_eq_true rfl, Nat.le_of_ble_eq_true rfl⟩ hl.1 rfl rfl (Nat.le_of_ble_eq_true rfl) ⟨Nat.zero_le _, Nat.zero_le _⟩ dX8_now_58) hS (fun H locs hW hS => ?_)
        exact x_iret cx hr hW hS (sp_1 hF) (sp_2 hF) dX8_now_61
      · have hF := it_n c6 hF
        refine x_sw (3 : Int32) (fun c9 => ?_) (fun c9 => ?_)
        · have hF := it_p c9 hF
          refine x_tab (tgt := 62) cx dX8_now_1 c9 (by decide) (by decide) rfl (by decide) ?_
          refine lv_aload_n hx hb dX8_now_62 rfl (lv_at hl 0 rfl) ?_
          obtain ⟨r11, hc10, hF⟩ := bi_e hF
          refine x_goi (x_runV cx hW hS (c_X8_ownSet (l := l) (G := G) hc10) cv_X8_111 kc_49 rfl (rest := []) ⟨Nat.le_of_ble_eq_true rfl, Nat.le_of_ble_eq_true rfl⟩ hl.1 rfl rfl (Nat.le_of_ble_eq_true rfl) ⟨Nat.zero_le _, Nat.zero_le _⟩ dX8_now_63) hS (fun H locs hW hS => ?_)
          exact x_iret cx hr hW hS (sp_1 hF) (sp_2 hF) dX8_now_66
        · have hF := it_n c9 hF
          refine x_sw (4 : Int32) (fun c12 => ?_) (fun c12 => ?_)
          · have hF := it_p c12 hF
            refine x_tab (tgt := 67) cx dX8_now_1 c12 (by decide) (by decide) rfl (by decide) ?_
            refine lv_aload_n hx hb dX8_now_67 rfl (lv_at hl 0 rfl) ?_
            obtain ⟨r14, hc13, hF⟩ := bi_e hF
            refine x_goi (x_runV cx hW hS (c_X8_earnAll (l := l) (G := G) hc13) cv_X8_148 kc_49 rfl (rest := []) ⟨Nat.le_of_ble_eq_true rfl, Nat.le_of_ble_eq_true rfl⟩ hl.1 rfl rfl (Nat.le_of_ble_eq_true rfl) ⟨Nat.zero_le _, Nat.zero_le _⟩ dX8_now_68) hS (fun H locs hW hS => ?_)
            exact x_iret cx hr hW hS (sp_1 hF) (sp_2 hF) dX8_now_71
          · have hF := it_n c12 hF
            refine x_sw (5 : Int32) (fun c15 => ?_) (fun c15 => ?_)
            · have hF := it_p c15 hF
              refine x_tab (tgt := 72) cx dX8_now_1 c15 (by decide) (by decide) rfl (by decide) ?_
              refine lv_aload_n hx hb dX8_now_72 rfl (lv_at hl 0 rfl) ?_
              obtain ⟨r17, hc16, hF⟩ := bi_e hF
              refine x_goi (x_runV cx hW hS (c_X8_isRight (l := l) (G := G) hc16) cv_X8_151 kc_49 rfl (rest := []) ⟨Nat.le_of_ble_eq_true rfl, Nat.le_of_ble_eq_true rfl⟩ hl.1 rfl rfl (Nat.le_of_ble_eq_true rfl) ⟨Nat.zero_le _, Nat.zero_le _⟩ dX8_now_73) hS (fun H locs hW hS => ?_)
              refine lv_if_eq (tgt := 83) hx hb dX8_now_76 (by decide) (fun c18 => ?_) (fun c18 => ?_)
              · have hF := it_p c18 hF
                refine lv_iconst (v := (0 : Int32)) hx hb dX8_now_83 (by decide) ?_
                exact x_iret cx hr hW hS (sp_1 hF) (sp_2 hF) dX8_now_84
              · have hF := it_n c18 hF
                refine lv_iconst (v := (1 : Int32)) hx hb dX8_now_79 (by decide) ?_
                refine lv_goto (tgt := 84) hx hb dX8_now_80 (by decide) ?_
                exact x_iret cx hr hW hS (sp_1 hF) (sp_2 hF) dX8_now_84
            · have hF := it_n c15 hF
              refine x_sw (6 : Int32) (fun c19 => ?_) (fun c19 => ?_)
              · have hF := it_p c19 hF
                refine x_tab (tgt := 85) cx dX8_now_1 c19 (by decide) (by decide) rfl (by decide) ?_
                refine lv_aload_n hx hb dX8_now_85 rfl (lv_at hl 0 rfl) ?_
                refine lv_iconst (v := (4 : Int32)) hx hb dX8_now_86 (by decide) ?_
                obtain ⟨r21, hc20, hF⟩ := bi_e hF
                refine x_goi (x_runV cx hW hS (c_X8_sumOf (l := l) (G := G) hc20) cv_X8_142 kc_49 rfl (rest := []) ⟨Nat.le_of_ble_eq_true rfl, Nat.le_of_ble_eq_true rfl⟩ hl.1 rfl rfl (Nat.le_of_ble_eq_true rfl) ⟨Nat.zero_le _, Nat.zero_le _⟩ dX8_now_87) hS (fun H locs hW hS => ?_)
                exact x_iret cx hr hW hS (sp_1 hF) (sp_2 hF) dX8_now_90
              · have hF := it_n c19 hF
                refine lv_tableOut (tgt := 91) hx hb dX8_now_1 (by have z0 := lv_neT c1 (a := 0) (by decide); have z1 := lv_neT c3 (a := 1) (by decide); have z2 := lv_neT c6 (a := 2) (by decide); have z3 := lv_neT c9 (a := 3) (by decide); have z4 := lv_neT c12 (a := 4) (by decide); have z5 := lv_neT c15 (a := 5) (by decide); have z6 := lv_neT c19 (a := 6) (by decide); omega) (by decide) ?_
                refine lv_aload_n hx hb dX8_now_91 rfl (lv_at hl 0 rfl) ?_
                refine x_ldc cx q_k_X8_56 dX8_now_92 ?_
                obtain ⟨r23, M24, hc22, hF⟩ := bn_e hF
                refine x_goi (x_runV cx hW hS (c_X8_finds (l := l) (G := G) hc22) cv_X8_83 kc_49 rfl (rest := []) ⟨Nat.le_of_ble_eq_true rfl, Nat.le_of_ble_eq_true rfl⟩ hl.1 rfl rfl (Nat.le_of_ble_eq_true rfl) ⟨Nat.zero_le _, Nat.zero_le _⟩ dX8_now_94) hS (fun H locs hW hS => ?_)
                exact x_iret cx hr hW hS (sp_1 hF) (sp_2 hF) dX8_now_97
def F_X8_whoHas_2 (a1 : Int32) (M : Mem) : Nat → Int32 → Option Int32
  | 0, _ => none
  | n + 1, x2 => (F_X8_its x2 (5 : Int32) M).bind (fun r2 => (if r2 = a1 then some x2 else F_X8_whoHas_2 a1 M n (x2 + 1)))
set_option maxHeartbeats 4000000 in
set_option maxRecDepth 100000 in
theorem t_X8_whoHas_2 {p : Program} {l : Launch} {e : Env} {s : State} {m : MethodId} {args : Array Value} {below : List Frame} {meth : Method} {c : Code} {G : GG} {a1 : Int32} (cx : Cx G cX8_whoHas RX8 3 p s m args meth c) (hr : meth.sig.returnType = (some .int))   {M : Mem} {r : Int32} : ∀ (n : Nat) (x2 : Int32), F_X8_whoHas_2 a1 M n x2 = some r → ∀ (H : Heap) (locs : List Loc) (ls : Array Slot), WH G M H → va_S (g_A G) s.heap H locs → lv_has ls 3 [(0, .ref (g_ad G 49)), (1, .int a1), (2, .int x2)] → W p l e (RM 1 22) s m args below meth c H locs 0 0 (MQ below (QcI G r M) args s 0 0 (g_A G)) (F0 m 2 ls []) := by
  obtain ⟨hx, hb, hml, hown, hts, hKK, hSS, hlk⟩ := id cx
  intro n
  induction n with
  | zero =>
    intro x2 hF H locs ls hW hS hl
    rw [F_X8_whoHas_2] at hF
    cases hF
  | succ n ih =>
    intro x2 hF H locs ls hW hS hl
    rw [F_X8_whoHas_2] at hF
    refine lv_aload_n hx hb dX8_whoHas_2 rfl (lv_at hl 0 rfl) ?_
    refine lv_iload_n hx hb dX8_whoHas_3 rfl (lv_at hl 2 rfl) ?_
    refine lv_iconst (v := (5 : Int32)) hx hb dX8_whoHas_4 (by decide) ?_
    obtain ⟨r2, hc1, hF⟩ := bi_e hF
    refine x_goi (x_runV cx hW hS (c_X8_its (l := l) (G := G) hc1) cv_X8_61 kc_49 rfl (rest := []) ⟨Nat.le_of_ble_eq_true rfl, Nat.le_of_ble_eq_true rfl⟩ hl.1 rfl rfl (Nat.le_of_ble_eq_true rfl) ⟨Nat.zero_le _, Nat.zero_le _⟩ dX8_whoHas_5) hS (fun H locs hW hS => ?_)
    refine lv_iload_n hx hb dX8_whoHas_8 rfl (lv_at hl 1 rfl) ?_
    refine lv_icmp_eq (tgt := 18) hx hb dX8_whoHas_9 (by decide) (fun c3 => ?_) (fun c3 => ?_)
    · have hF := it_p c3 hF
      refine lv_iload_n hx hb dX8_whoHas_18 rfl (lv_at hl 2 rfl) ?_
      exact x_iret cx hr hW hS (Option.some.inj hF) rfl dX8_whoHas_19
    · have hF := it_n c3 hF
      refine lv_iinc (v := (x2 + 1)) (lv' := [(2, .int (x2 + 1)), (0, .ref (g_ad G 49)), (1, .int a1)]) hx hb dX8_whoHas_12 hl (k := 2) rfl rfl (by decide) rfl (fun ls hl => ?_)
      refine lv_goto (tgt := 2) hx hb dX8_whoHas_15 (by decide) ?_
      exact ih (x2 + 1) hF _ _ _ hW hS (lv_sub hl [1, 2, 0] rfl)
def F_X8_whoHas (a1 : Int32) (M : Mem) : Option Int32 := F_X8_whoHas_2 a1 M FU (0 : Int32)
set_option maxHeartbeats 4000000 in
set_option maxRecDepth 100000 in
theorem c_X8_whoHas {l : Launch} {G : GG} {a1 : Int32}  {M : Mem} {r : Int32} (hF : F_X8_whoHas a1 M = some r) : Met l yX8_whoHas (wz yX8_whoHas cX8_whoHas 3 (some .int)) (RM 1 22) (PreC G [.ref (g_ad G 49), .int a1] M) (QcI G r M) 0 0 (g_A G) := by
  rw [F_X8_whoHas] at hF
  refine x_start (by decide) (Nat.le_of_ble_eq_true rfl) (lv := [(0, .ref (g_ad G 49)), (1, .int a1)]) rfl ?_
  intro p e s m below meth c cx hr hW hS ls hl
  obtain ⟨hx, hb, hml, hown, hts, hKK, hSS, hlk⟩ := id cx
  refine lv_iconst (v := (0 : Int32)) hx hb dX8_whoHas_0 (by decide) ?_
  refine lv_istore_n (lv' := [(2, .int (0 : Int32)), (0, .ref (g_ad G 49)), (1, .int a1)]) hx hb dX8_whoHas_1 rfl hl (by decide) rfl (fun ls hl => ?_)
  exact t_X8_whoHas_2 cx hr FU (0 : Int32) hF _ _ _ hW hS (lv_sub hl [1, 2, 0] rfl)
def F_X8_who (a1 : Int32) (M : Mem) : Option (Int32 × Mem) := (F_X8_isOne a1 M).bind (fun r2 => (if r2 = 0 then bn (F_X8_finds (-1000000001 : Int32) M) (fun r5 M6 => some (r5, M6)) else (F_X8_whoHas a1 M).bind (fun r8 => some (r8, M))))
set_option maxHeartbeats 4000000 in
set_option maxRecDepth 100000 in
theorem c_X8_who {l : Launch} {G : GG} {a1 : Int32}  {M : Mem} {r : Int32} {M1 : Mem} (hF : F_X8_who a1 M = some (r, M1)) : Met l yX8_who (wz yX8_who cX8_who 2 (some .int)) (RM 2 44) (PreC G [.ref (g_ad G 49), .int a1] M) (QcI G r M1) 0 0 (g_A G) := by
  rw [F_X8_who] at hF
  refine x_start (by decide) (Nat.le_of_ble_eq_true rfl) (lv := [(0, .ref (g_ad G 49)), (1, .int a1)]) rfl ?_
  intro p e s m below meth c cx hr hW hS ls hl
  obtain ⟨hx, hb, hml, hown, hts, hKK, hSS, hlk⟩ := id cx
  refine lv_aload_n hx hb dX8_who_0 rfl (lv_at hl 0 rfl) ?_
  refine lv_iload_n hx hb dX8_who_1 rfl (lv_at hl 1 rfl) ?_
  obtain ⟨r2, hc1, hF⟩ := bi_e hF
  refine x_goi (x_runV cx hW hS (c_X8_isOne (l := l) (G := G) hc1) cv_X8_91 kc_49 rfl (rest := []) ⟨Nat.le_of_ble_eq_true rfl, Nat.le_of_ble_eq_true rfl⟩ hl.1 rfl rfl (Nat.le_of_ble_eq_true rfl) ⟨Nat.zero_le _, Nat.zero_le _⟩ dX8_who_2) hS (fun H locs hW hS => ?_)
  refine lv_if_eq (tgt := 16) hx hb dX8_who_5 (by decide) (fun c3 => ?_) (fun c3 => ?_)
  · have hF := it_p c3 hF
    refine lv_aload_n hx hb dX8_who_16 rfl (lv_at hl 0 rfl) ?_
    refine x_ldc cx q_k_X8_56 dX8_who_17 ?_
    obtain ⟨r5, M6, hc4, hF⟩ := bn_e hF
    refine x_goi (x_runV cx hW hS (c_X8_finds (l := l) (G := G) hc4) cv_X8_83 kc_49 rfl (rest := []) ⟨Nat.le_of_ble_eq_true rfl, Nat.le_of_ble_eq_true rfl⟩ hl.1 rfl rfl (Nat.le_of_ble_eq_true rfl) ⟨Nat.zero_le _, Nat.zero_le _⟩ dX8_who_19) hS (fun H locs hW hS => ?_)
    exact x_iret cx hr hW hS (sp_1 hF) (sp_2 hF) dX8_who_22
  · have hF := it_n c3 hF
    refine lv_aload_n hx hb dX8_who_8 rfl (lv_at hl 0 rfl) ?_
    refine lv_iload_n hx hb dX8_who_9 rfl (lv_at hl 1 rfl) ?_
    obtain ⟨r8, hc7, hF⟩ := bi_e hF
    refine x_goi (x_runV cx hW hS (c_X8_whoHas (l := l) (G := G) hc7) cv_X8_155 kc_49 rfl (rest := []) ⟨Nat.le_of_ble_eq_true rfl, Nat.le_of_ble_eq_true rfl⟩ hl.1 rfl rfl (Nat.le_of_ble_eq_true rfl) ⟨Nat.zero_le _, Nat.zero_le _⟩ dX8_who_10) hS (fun H locs hW hS => ?_)
    refine lv_goto (tgt := 22) hx hb dX8_who_13 (by decide) ?_
    exact x_iret cx hr hW hS (sp_1 hF) (sp_2 hF) dX8_who_22
def F_X8_ringOf_4 (a1 : Int32) (M : Mem) : Nat → Int32 → Int32 → Option Int32
  | 0, _, _ => none
  | n + 1, x2, x3 => (if ((x2 >>> (x3 &&& 31)) &&& (1 : Int32)) = 0 then (F_X8_its x3 (5 : Int32) M).bind (fun r3 => F_X8_ringOf_4 a1 M n (x2 ||| ((1 : Int32) <<< (x3 &&& 31))) r3) else some x2)
set_option maxHeartbeats 4000000 in
set_option maxRecDepth 100000 in
theorem t_X8_ringOf_4 {p : Program} {l : Launch} {e : Env} {s : State} {m : MethodId} {args : Array Value} {below : List Frame} {meth : Method} {c : Code} {G : GG} {a1 : Int32} (cx : Cx G cX8_ringOf RX8 4 p s m args meth c) (hr : meth.sig.returnType = (some .int))   {M : Mem} {r : Int32} : ∀ (n : Nat) (x2 : Int32) (x3 : Int32), F_X8_ringOf_4 a1 M n x2 x3 = some r → ∀ (H : Heap) (locs : List Loc) (ls : Array Slot), WH G M H → va_S (g_A G) s.heap H locs → lv_has ls 4 [(0, .ref (g_ad G 49)), (2, .int x2), (3, .int x3)] → W p l e (RM 1 22) s m args below meth c H locs 0 0 (MQ below (QcI G r M) args s 0 0 (g_A G)) (F0 m 4 ls []) := by
  obtain ⟨hx, hb, hml, hown, hts, hKK, hSS, hlk⟩ := id cx
  intro n
  induction n with
  | zero =>
    intro x2 x3 hF H locs ls hW hS hl
    rw [F_X8_ringOf_4] at hF
    cases hF
  | succ n ih =>
    intro x2 x3 hF H locs ls hW hS hl
    rw [F_X8_ringOf_4] at hF
    refine lv_iload_n hx hb dX8_ringOf_4 rfl (lv_at hl 1 rfl) ?_
    refine lv_iload_n hx hb dX8_ringOf_5 rfl (lv_at hl 2 rfl) ?_
    refine lv_ishr hx hb dX8_ringOf_6 ?_
    refine lv_iconst (v := (1 : Int32)) hx hb dX8_ringOf_7 (by decide) ?_
    refine lv_iand hx hb dX8_ringOf_8 ?_
    refine lv_if_ne (tgt := 28) hx hb dX8_ringOf_9 (by decide) (fun c1 => ?_) (fun c1 => ?_)
    · have hF := it_n c1 hF
      refine lv_iload_n hx hb dX8_ringOf_28 rfl (lv_at hl 1 rfl) ?_
      exact x_iret cx hr hW hS (Option.some.inj hF) rfl dX8_ringOf_29
    · have hF := it_p c1 hF
      refine lv_iload_n hx hb dX8_ringOf_12 rfl (lv_at hl 1 rfl) ?_
      refine lv_iconst (v := (1 : Int32)) hx hb dX8_ringOf_13 (by decide) ?_
      refine lv_iload_n hx hb dX8_ringOf_14 rfl (lv_at hl 2 rfl) ?_
      refine lv_ishl hx hb dX8_ringOf_15 ?_
      refine lv_ior hx hb dX8_ringOf_16 ?_
      refine lv_istore_n (lv' := [(2, .int (x2 ||| ((1 : Int32) <<< (x3 &&& 31)))), (0, .ref (g_ad G 49)), (3, .int x3)]) hx hb dX8_ringOf_17 rfl hl (by decide) rfl (fun ls hl => ?_)
      refine lv_aload_n hx hb dX8_ringOf_18 rfl (lv_at hl 1 rfl) ?_
      refine lv_iload_n hx hb dX8_ringOf_19 rfl (lv_at hl 2 rfl) ?_
      refine lv_iconst (v := (5 : Int32)) hx hb dX8_ringOf_20 (by decide) ?_
      obtain ⟨r3, hc2, hF⟩ := bi_e hF
      refine x_goi (x_runV cx hW hS (c_X8_its (l := l) (G := G) hc2) cv_X8_61 kc_49 rfl (rest := []) ⟨Nat.le_of_ble_eq_true rfl, Nat.le_of_ble_eq_true rfl⟩ hl.1 rfl rfl (Nat.le_of_ble_eq_true rfl) ⟨Nat.zero_le _, Nat.zero_le _⟩ dX8_ringOf_21) hS (fun H locs hW hS => ?_)
      refine lv_istore_n (lv' := [(3, .int r3), (2, .int (x2 ||| ((1 : Int32) <<< (x3 &&& 31)))), (0, .ref (g_ad G 49))]) hx hb dX8_ringOf_24 rfl hl (by decide) rfl (fun ls hl => ?_)
      refine lv_goto (tgt := 4) hx hb dX8_ringOf_25 (by decide) ?_
      exact ih (x2 ||| ((1 : Int32) <<< (x3 &&& 31))) r3 hF _ _ _ hW hS (lv_sub hl [2, 1, 0] rfl)
def F_X8_ringOf (a1 : Int32) (M : Mem) : Option Int32 := F_X8_ringOf_4 a1 M FU (0 : Int32) a1
set_option maxHeartbeats 4000000 in
set_option maxRecDepth 100000 in
theorem c_X8_ringOf {l : Launch} {G : GG} {a1 : Int32}  {M : Mem} {r : Int32} (hF : F_X8_ringOf a1 M = some r) : Met l yX8_ringOf (wz yX8_ringOf cX8_ringOf 4 (some .int)) (RM 1 22) (PreC G [.ref (g_ad G 49), .int a1] M) (QcI G r M) 0 0 (g_A G) := by
  rw [F_X8_ringOf] at hF
  refine x_start (by decide) (Nat.le_of_ble_eq_true rfl) (lv := [(0, .ref (g_ad G 49)), (1, .int a1)]) rfl ?_
  intro p e s m below meth c cx hr hW hS ls hl
  obtain ⟨hx, hb, hml, hown, hts, hKK, hSS, hlk⟩ := id cx
  refine lv_iconst (v := (0 : Int32)) hx hb dX8_ringOf_0 (by decide) ?_
  refine lv_istore_n (lv' := [(2, .int (0 : Int32)), (0, .ref (g_ad G 49)), (1, .int a1)]) hx hb dX8_ringOf_1 rfl hl (by decide) rfl (fun ls hl => ?_)
  refine lv_iload_n hx hb dX8_ringOf_2 rfl (lv_at hl 2 rfl) ?_
  refine lv_istore_n (lv' := [(3, .int a1), (2, .int (0 : Int32)), (0, .ref (g_ad G 49)), (1, .int a1)]) hx hb dX8_ringOf_3 rfl hl (by decide) rfl (fun ls hl => ?_)
  exact t_X8_ringOf_4 cx hr FU (0 : Int32) a1 hF _ _ _ hW hS (lv_sub hl [2, 1, 0] rfl)
def F_X8_ring (a1 : Int32) (M : Mem) : Option (Int32 × Mem) := (F_X8_isOne a1 M).bind (fun r2 => (if r2 = 0 then bn (F_X8_finds (-1000000001 : Int32) M) (fun r5 M6 => some (r5, M6)) else (F_X8_ringOf a1 M).bind (fun r8 => some (r8, M))))
set_option maxHeartbeats 4000000 in
set_option maxRecDepth 100000 in
theorem c_X8_ring {l : Launch} {G : GG} {a1 : Int32}  {M : Mem} {r : Int32} {M1 : Mem} (hF : F_X8_ring a1 M = some (r, M1)) : Met l yX8_ring (wz yX8_ring cX8_ring 2 (some .int)) (RM 2 45) (PreC G [.ref (g_ad G 49), .int a1] M) (QcI G r M1) 0 0 (g_A G) := by
  rw [F_X8_ring] at hF
  refine x_start (by decide) (Nat.le_of_ble_eq_true rfl) (lv := [(0, .ref (g_ad G 49)), (1, .int a1)]) rfl ?_
  intro p e s m below meth c cx hr hW hS ls hl
  obtain ⟨hx, hb, hml, hown, hts, hKK, hSS, hlk⟩ := id cx
  refine lv_aload_n hx hb dX8_ring_0 rfl (lv_at hl 0 rfl) ?_
  refine lv_iload_n hx hb dX8_ring_1 rfl (lv_at hl 1 rfl) ?_
  obtain ⟨r2, hc1, hF⟩ := bi_e hF
  refine x_goi (x_runV cx hW hS (c_X8_isOne (l := l) (G := G) hc1) cv_X8_91 kc_49 rfl (rest := []) ⟨Nat.le_of_ble_eq_true rfl, Nat.le_of_ble_eq_true rfl⟩ hl.1 rfl rfl (Nat.le_of_ble_eq_true rfl) ⟨Nat.zero_le _, Nat.zero_le _⟩ dX8_ring_2) hS (fun H locs hW hS => ?_)
  refine lv_if_eq (tgt := 16) hx hb dX8_ring_5 (by decide) (fun c3 => ?_) (fun c3 => ?_)
  · have hF := it_p c3 hF
    refine lv_aload_n hx hb dX8_ring_16 rfl (lv_at hl 0 rfl) ?_
    refine x_ldc cx q_k_X8_56 dX8_ring_17 ?_
    obtain ⟨r5, M6, hc4, hF⟩ := bn_e hF
    refine x_goi (x_runV cx hW hS (c_X8_finds (l := l) (G := G) hc4) cv_X8_83 kc_49 rfl (rest := []) ⟨Nat.le_of_ble_eq_true rfl, Nat.le_of_ble_eq_true rfl⟩ hl.1 rfl rfl (Nat.le_of_ble_eq_true rfl) ⟨Nat.zero_le _, Nat.zero_le _⟩ dX8_ring_19) hS (fun H locs hW hS => ?_)
    exact x_iret cx hr hW hS (sp_1 hF) (sp_2 hF) dX8_ring_22
  · have hF := it_n c3 hF
    refine lv_aload_n hx hb dX8_ring_8 rfl (lv_at hl 0 rfl) ?_
    refine lv_iload_n hx hb dX8_ring_9 rfl (lv_at hl 1 rfl) ?_
    obtain ⟨r8, hc7, hF⟩ := bi_e hF
    refine x_goi (x_runV cx hW hS (c_X8_ringOf (l := l) (G := G) hc7) cv_X8_158 kc_49 rfl (rest := []) ⟨Nat.le_of_ble_eq_true rfl, Nat.le_of_ble_eq_true rfl⟩ hl.1 rfl rfl (Nat.le_of_ble_eq_true rfl) ⟨Nat.zero_le _, Nat.zero_le _⟩ dX8_ring_10) hS (fun H locs hW hS => ?_)
    refine lv_goto (tgt := 22) hx hb dX8_ring_13 (by decide) ?_
    exact x_iret cx hr hW hS (sp_1 hF) (sp_2 hF) dX8_ring_22
def F_X8_rings_6  (M : Mem) : Nat → Int32 → Int32 → Int32 → Option Int32
  | 0, _, _, _ => none
  | n + 1, x1, x2, x3 => ix 51 (2 : Int32) (fun j1 => (if (m_I M 50 j1) ≤ x3 then some x1 else (if ((x2 >>> (x3 &&& 31)) &&& (1 : Int32)) = 0 then (F_X8_ringOf x3 M).bind (fun r7 => F_X8_rings_6 M n (x1 + (1 : Int32)) (x2 ||| r7) (x3 + 1)) else (F_X8_ringOf x3 M).bind (fun r5 => F_X8_rings_6 M n (x1 + (0 : Int32)) (x2 ||| r5) (x3 + 1)))))
set_option maxHeartbeats 4000000 in
set_option maxRecDepth 100000 in
theorem t_X8_rings_6 {p : Program} {l : Launch} {e : Env} {s : State} {m : MethodId} {args : Array Value} {below : List Frame} {meth : Method} {c : Code} {G : GG}  (cx : Cx G cX8_rings RX8 4 p s m args meth c) (hr : meth.sig.returnType = (some .int))   {M : Mem} {r : Int32} : ∀ (n : Nat) (x1 : Int32) (x2 : Int32) (x3 : Int32), F_X8_rings_6  M n x1 x2 x3 = some r → ∀ (H : Heap) (locs : List Loc) (ls : Array Slot), WH G M H → va_S (g_A G) s.heap H locs → lv_has ls 4 [(0, .ref (g_ad G 49)), (1, .int x1), (2, .int x2), (3, .int x3)] → W p l e (RM 2 45) s m args below meth c H locs 0 0 (MQ below (QcI G r M) args s 0 0 (g_A G)) (F0 m 6 ls []) := by
  obtain ⟨hx, hb, hml, hown, hts, hKK, hSS, hlk⟩ := id cx
  intro n
  induction n with
  | zero =>
    intro x1 x2 x3 hF H locs ls hW hS hl
    rw [F_X8_rings_6] at hF
    cases hF
  | succ n ih =>
    intro x1 x2 x3 hF H locs ls hW hS hl
    rw [F_X8_rings_6] at hF
    refine lv_iload_n hx hb dX8_rings_6 rfl (lv_at hl 3 rfl) ?_
    refine lv_aload_n hx hb dX8_rings_7 rfl (lv_at hl 0 rfl) ?_
    refine x_get cx hW kc_49 fk_X8_7 (v := .ref (g_ad G 50)) rfl dX8_rings_8 ?_
    refine lv_iconst (v := (2 : Int32)) hx hb dX8_rings_11 (by decide) ?_
    obtain ⟨j1, hj1, gj1, hF⟩ := ix_e hF
    refine x_iald cx hW kc_50 (by decide) hj1 gj1 dX8_rings_12 ?_
    refine lv_icmp_ge (tgt := 46) hx hb dX8_rings_13 (by decide) (fun c2 => ?_) (fun c2 => ?_)
    · have hF := it_p c2 hF
      refine lv_iload_n hx hb dX8_rings_46 rfl (lv_at hl 1 rfl) ?_
      exact x_iret cx hr hW hS (Option.some.inj hF) rfl dX8_rings_47
    · have hF := it_n c2 hF
      refine lv_iload_n hx hb dX8_rings_16 rfl (lv_at hl 1 rfl) ?_
      refine lv_iload_n hx hb dX8_rings_17 rfl (lv_at hl 2 rfl) ?_
      refine lv_iload_n hx hb dX8_rings_18 rfl (lv_at hl 3 rfl) ?_
      refine lv_ishr hx hb dX8_rings_19 ?_
      refine lv_iconst (v := (1 : Int32)) hx hb dX8_rings_20 (by decide) ?_
      refine lv_iand hx hb dX8_rings_21 ?_
      refine lv_if_ne (tgt := 29) hx hb dX8_rings_22 (by decide) (fun c3 => ?_) (fun c3 => ?_)
      · have hF := it_n c3 hF
        refine lv_iconst (v := (0 : Int32)) hx hb dX8_rings_29 (by decide) ?_
        refine lv_iadd hx hb dX8_rings_30 ?_
        refine lv_istore_n (lv' := [(1, .int (x1 + (0 : Int32))), (0, .ref (g_ad G 49)), (2, .int x2), (3, .int x3)]) hx hb dX8_rings_31 rfl hl (by decide) rfl (fun ls hl => ?_)
        refine lv_iload_n hx hb dX8_rings_32 rfl (lv_at hl 2 rfl) ?_
        refine lv_aload_n hx hb dX8_rings_33 rfl (lv_at hl 1 rfl) ?_
        refine lv_iload_n hx hb dX8_rings_34 rfl (lv_at hl 3 rfl) ?_
        obtain ⟨r5, hc4, hF⟩ := bi_e hF
        refine x_goi (x_runV cx hW hS (c_X8_ringOf (l := l) (G := G) hc4) cv_X8_158 kc_49 rfl (rest := [.int x2]) ⟨Nat.le_of_ble_eq_true rfl, Nat.le_of_ble_eq_true rfl⟩ hl.1 rfl rfl (Nat.le_of_ble_eq_true rfl) ⟨Nat.zero_le _, Nat.zero_le _⟩ dX8_rings_35) hS (fun H locs hW hS => ?_)
        refine lv_ior hx hb dX8_rings_38 ?_
        refine lv_istore_n (lv' := [(2, .int (x2 ||| r5)), (1, .int (x1 + (0 : Int32))), (0, .ref (g_ad G 49)), (3, .int x3)]) hx hb dX8_rings_39 rfl hl (by decide) rfl (fun ls hl => ?_)
        refine lv_iinc (v := (x3 + 1)) (lv' := [(3, .int (x3 + 1)), (2, .int (x2 ||| r5)), (1, .int (x1 + (0 : Int32))), (0, .ref (g_ad G 49))]) hx hb dX8_rings_40 hl (k := 3) rfl rfl (by decide) rfl (fun ls hl => ?_)
        refine lv_goto (tgt := 6) hx hb dX8_rings_43 (by decide) ?_
        exact ih (x1 + (0 : Int32)) (x2 ||| r5) (x3 + 1) hF _ _ _ hW hS (lv_sub hl [3, 2, 1, 0] rfl)
      · have hF := it_p c3 hF
        refine lv_iconst (v := (1 : Int32)) hx hb dX8_rings_25 (by decide) ?_
        refine lv_goto (tgt := 30) hx hb dX8_rings_26 (by decide) ?_
        refine lv_iadd hx hb dX8_rings_30 ?_
        refine lv_istore_n (lv' := [(1, .int (x1 + (1 : Int32))), (0, .ref (g_ad G 49)), (2, .int x2), (3, .int x3)]) hx hb dX8_rings_31 rfl hl (by decide) rfl (fun ls hl => ?_)
        refine lv_iload_n hx hb dX8_rings_32 rfl (lv_at hl 2 rfl) ?_
        refine lv_aload_n hx hb dX8_rings_33 rfl (lv_at hl 1 rfl) ?_
        refine lv_iload_n hx hb dX8_rings_34 rfl (lv_at hl 3 rfl) ?_
        obtain ⟨r7, hc6, hF⟩ := bi_e hF
        refine x_goi (x_runV cx hW hS (c_X8_ringOf (l := l) (G := G) hc6) cv_X8_158 kc_49 rfl (rest := [.int x2]) ⟨Nat.le_of_ble_eq_true rfl, Nat.le_of_ble_eq_true rfl⟩ hl.1 rfl rfl (Nat.le_of_ble_eq_true rfl) ⟨Nat.zero_le _, Nat.zero_le _⟩ dX8_rings_35) hS (fun H locs hW hS => ?_)
        refine lv_ior hx hb dX8_rings_38 ?_
        refine lv_istore_n (lv' := [(2, .int (x2 ||| r7)), (1, .int (x1 + (1 : Int32))), (0, .ref (g_ad G 49)), (3, .int x3)]) hx hb dX8_rings_39 rfl hl (by decide) rfl (fun ls hl => ?_)
        refine lv_iinc (v := (x3 + 1)) (lv' := [(3, .int (x3 + 1)), (2, .int (x2 ||| r7)), (1, .int (x1 + (1 : Int32))), (0, .ref (g_ad G 49))]) hx hb dX8_rings_40 hl (k := 3) rfl rfl (by decide) rfl (fun ls hl => ?_)
        refine lv_goto (tgt := 6) hx hb dX8_rings_43 (by decide) ?_
        exact ih (x1 + (1 : Int32)) (x2 ||| r7) (x3 + 1) hF _ _ _ hW hS (lv_sub hl [3, 2, 1, 0] rfl)
def F_X8_rings (M : Mem) : Option Int32 := F_X8_rings_6 M FU (0 : Int32) (0 : Int32) (0 : Int32)
set_option maxHeartbeats 4000000 in
set_option maxRecDepth 100000 in
theorem c_X8_rings {l : Launch} {G : GG}   {M : Mem} {r : Int32} (hF : F_X8_rings M = some r) : Met l yX8_rings (wz yX8_rings cX8_rings 4 (some .int)) (RM 2 45) (PreC G [.ref (g_ad G 49)] M) (QcI G r M) 0 0 (g_A G) := by
  rw [F_X8_rings] at hF
  refine x_start (by decide) (Nat.le_of_ble_eq_true rfl) (lv := [(0, .ref (g_ad G 49))]) rfl ?_
  intro p e s m below meth c cx hr hW hS ls hl
  obtain ⟨hx, hb, hml, hown, hts, hKK, hSS, hlk⟩ := id cx
  refine lv_iconst (v := (0 : Int32)) hx hb dX8_rings_0 (by decide) ?_
  refine lv_istore_n (lv' := [(1, .int (0 : Int32)), (0, .ref (g_ad G 49))]) hx hb dX8_rings_1 rfl hl (by decide) rfl (fun ls hl => ?_)
  refine lv_iconst (v := (0 : Int32)) hx hb dX8_rings_2 (by decide) ?_
  refine lv_istore_n (lv' := [(2, .int (0 : Int32)), (1, .int (0 : Int32)), (0, .ref (g_ad G 49))]) hx hb dX8_rings_3 rfl hl (by decide) rfl (fun ls hl => ?_)
  refine lv_iconst (v := (0 : Int32)) hx hb dX8_rings_4 (by decide) ?_
  refine lv_istore_n (lv' := [(3, .int (0 : Int32)), (2, .int (0 : Int32)), (1, .int (0 : Int32)), (0, .ref (g_ad G 49))]) hx hb dX8_rings_5 rfl hl (by decide) rfl (fun ls hl => ?_)
  exact t_X8_rings_6 cx hr FU (0 : Int32) (0 : Int32) (0 : Int32) hF _ _ _ hW hS (lv_sub hl [3, 2, 1, 0] rfl)
def F_X8_pairs_4  (M : Mem) : Nat → Int32 → Int32 → Option Int32
  | 0, _, _ => none
  | n + 1, x1, x2 => ix 51 (2 : Int32) (fun j1 => (if (m_I M 50 j1) ≤ x2 then some x1 else (F_X8_its x2 (5 : Int32) M).bind (fun r4 => (if r4 ≤ x2 then F_X8_pairs_4 M n (x1 + (0 : Int32)) (x2 + 1) else (F_X8_its x2 (5 : Int32) M).bind (fun r7 => (F_X8_its r7 (5 : Int32) M).bind (fun r9 => (if r9 = x2 then F_X8_pairs_4 M n (x1 + (1 : Int32)) (x2 + 1) else F_X8_pairs_4 M n (x1 + (0 : Int32)) (x2 + 1))))))))
set_option maxHeartbeats 4000000 in
set_option maxRecDepth 100000 in
theorem t_X8_pairs_4 {p : Program} {l : Launch} {e : Env} {s : State} {m : MethodId} {args : Array Value} {below : List Frame} {meth : Method} {c : Code} {G : GG}  (cx : Cx G cX8_pairs RX8 3 p s m args meth c) (hr : meth.sig.returnType = (some .int))   {M : Mem} {r : Int32} : ∀ (n : Nat) (x1 : Int32) (x2 : Int32), F_X8_pairs_4  M n x1 x2 = some r → ∀ (H : Heap) (locs : List Loc) (ls : Array Slot), WH G M H → va_S (g_A G) s.heap H locs → lv_has ls 3 [(0, .ref (g_ad G 49)), (1, .int x1), (2, .int x2)] → W p l e (RM 1 22) s m args below meth c H locs 0 0 (MQ below (QcI G r M) args s 0 0 (g_A G)) (F0 m 4 ls []) := by
  obtain ⟨hx, hb, hml, hown, hts, hKK, hSS, hlk⟩ := id cx
  intro n
  induction n with
  | zero =>
    intro x1 x2 hF H locs ls hW hS hl
    rw [F_X8_pairs_4] at hF
    cases hF
  | succ n ih =>
    intro x1 x2 hF H locs ls hW hS hl
    rw [F_X8_pairs_4] at hF
    refine lv_iload_n hx hb dX8_pairs_4 rfl (lv_at hl 2 rfl) ?_
    refine lv_aload_n hx hb dX8_pairs_5 rfl (lv_at hl 0 rfl) ?_
    refine x_get cx hW kc_49 fk_X8_7 (v := .ref (g_ad G 50)) rfl dX8_pairs_6 ?_
    refine lv_iconst (v := (2 : Int32)) hx hb dX8_pairs_9 (by decide) ?_
    obtain ⟨j1, hj1, gj1, hF⟩ := ix_e hF
    refine x_iald cx hW kc_50 (by decide) hj1 gj1 dX8_pairs_10 ?_
    refine lv_icmp_ge (tgt := 53) hx hb dX8_pairs_11 (by decide) (fun c2 => ?_) (fun c2 => ?_)
    · have hF := it_p c2 hF
      refine lv_iload_n hx hb dX8_pairs_53 rfl (lv_at hl 1 rfl) ?_
      exact x_iret cx hr hW hS (Option.some.inj hF) rfl dX8_pairs_54
    · have hF := it_n c2 hF
      refine lv_iload_n hx hb dX8_pairs_14 rfl (lv_at hl 1 rfl) ?_
      refine lv_aload_n hx hb dX8_pairs_15 rfl (lv_at hl 0 rfl) ?_
      refine lv_iload_n hx hb dX8_pairs_16 rfl (lv_at hl 2 rfl) ?_
      refine lv_iconst (v := (5 : Int32)) hx hb dX8_pairs_17 (by decide) ?_
      obtain ⟨r4, hc3, hF⟩ := bi_e hF
      refine x_goi (x_runV cx hW hS (c_X8_its (l := l) (G := G) hc3) cv_X8_61 kc_49 rfl (rest := [.int x1]) ⟨Nat.le_of_ble_eq_true rfl, Nat.le_of_ble_eq_true rfl⟩ hl.1 rfl rfl (Nat.le_of_ble_eq_true rfl) ⟨Nat.zero_le _, Nat.zero_le _⟩ dX8_pairs_18) hS (fun H locs hW hS => ?_)
      refine lv_iload_n hx hb dX8_pairs_21 rfl (lv_at hl 2 rfl) ?_
      refine lv_icmp_le (tgt := 44) hx hb dX8_pairs_22 (by decide) (fun c5 => ?_) (fun c5 => ?_)
      · have hF := it_p c5 hF
        refine lv_iconst (v := (0 : Int32)) hx hb dX8_pairs_44 (by decide) ?_
        refine lv_iadd hx hb dX8_pairs_45 ?_
        refine lv_istore_n (lv' := [(1, .int (x1 + (0 : Int32))), (0, .ref (g_ad G 49)), (2, .int x2)]) hx hb dX8_pairs_46 rfl hl (by decide) rfl (fun ls hl => ?_)
        refine lv_iinc (v := (x2 + 1)) (lv' := [(2, .int (x2 + 1)), (1, .int (x1 + (0 : Int32))), (0, .ref (g_ad G 49))]) hx hb dX8_pairs_47 hl (k := 2) rfl rfl (by decide) rfl (fun ls hl => ?_)
        refine lv_goto (tgt := 4) hx hb dX8_pairs_50 (by decide) ?_
        exact ih (x1 + (0 : Int32)) (x2 + 1) hF _ _ _ hW hS (lv_sub hl [2, 1, 0] rfl)
      · have hF := it_n c5 hF
        refine lv_aload_n hx hb dX8_pairs_25 rfl (lv_at hl 0 rfl) ?_
        refine lv_aload_n hx hb dX8_pairs_26 rfl (lv_at hl 0 rfl) ?_
        refine lv_iload_n hx hb dX8_pairs_27 rfl (lv_at hl 2 rfl) ?_
        refine lv_iconst (v := (5 : Int32)) hx hb dX8_pairs_28 (by decide) ?_
        obtain ⟨r7, hc6, hF⟩ := bi_e hF
        refine x_goi (x_runV cx hW hS (c_X8_its (l := l) (G := G) hc6) cv_X8_61 kc_49 rfl (rest := [.ref (g_ad G 49), .int x1]) ⟨Nat.le_of_ble_eq_true rfl, Nat.le_of_ble_eq_true rfl⟩ hl.1 rfl rfl (Nat.le_of_ble_eq_true rfl) ⟨Nat.zero_le _, Nat.zero_le _⟩ dX8_pairs_29) hS (fun H locs hW hS => ?_)
        refine lv_iconst (v := (5 : Int32)) hx hb dX8_pairs_32 (by decide) ?_
        obtain ⟨r9, hc8, hF⟩ := bi_e hF
        refine x_goi (x_runV cx hW hS (c_X8_its (l := l) (G := G) hc8) cv_X8_61 kc_49 rfl (rest := [.int x1]) ⟨Nat.le_of_ble_eq_true rfl, Nat.le_of_ble_eq_true rfl⟩ hl.1 rfl rfl (Nat.le_of_ble_eq_true rfl) ⟨Nat.zero_le _, Nat.zero_le _⟩ dX8_pairs_33) hS (fun H locs hW hS => ?_)
        refine lv_iload_n hx hb dX8_pairs_36 rfl (lv_at hl 2 rfl) ?_
        refine lv_icmp_ne (tgt := 44) hx hb dX8_pairs_37 (by decide) (fun c10 => ?_) (fun c10 => ?_)
        · have hF := it_n c10 hF
          refine lv_iconst (v := (0 : Int32)) hx hb dX8_pairs_44 (by decide) ?_
          refine lv_iadd hx hb dX8_pairs_45 ?_
          refine lv_istore_n (lv' := [(1, .int (x1 + (0 : Int32))), (0, .ref (g_ad G 49)), (2, .int x2)]) hx hb dX8_pairs_46 rfl hl (by decide) rfl (fun ls hl => ?_)
          refine lv_iinc (v := (x2 + 1)) (lv' := [(2, .int (x2 + 1)), (1, .int (x1 + (0 : Int32))), (0, .ref (g_ad G 49))]) hx hb dX8_pairs_47 hl (k := 2) rfl rfl (by decide) rfl (fun ls hl => ?_)
          refine lv_goto (tgt := 4) hx hb dX8_pairs_50 (by decide) ?_
          exact ih (x1 + (0 : Int32)) (x2 + 1) hF _ _ _ hW hS (lv_sub hl [2, 1, 0] rfl)
        · have hF := it_p c10 hF
          refine lv_iconst (v := (1 : Int32)) hx hb dX8_pairs_40 (by decide) ?_
          refine lv_goto (tgt := 45) hx hb dX8_pairs_41 (by decide) ?_
          refine lv_iadd hx hb dX8_pairs_45 ?_
          refine lv_istore_n (lv' := [(1, .int (x1 + (1 : Int32))), (0, .ref (g_ad G 49)), (2, .int x2)]) hx hb dX8_pairs_46 rfl hl (by decide) rfl (fun ls hl => ?_)
          refine lv_iinc (v := (x2 + 1)) (lv' := [(2, .int (x2 + 1)), (1, .int (x1 + (1 : Int32))), (0, .ref (g_ad G 49))]) hx hb dX8_pairs_47 hl (k := 2) rfl rfl (by decide) rfl (fun ls hl => ?_)
          refine lv_goto (tgt := 4) hx hb dX8_pairs_50 (by decide) ?_
          exact ih (x1 + (1 : Int32)) (x2 + 1) hF _ _ _ hW hS (lv_sub hl [2, 1, 0] rfl)
def F_X8_pairs (M : Mem) : Option Int32 := F_X8_pairs_4 M FU (0 : Int32) (0 : Int32)
set_option maxHeartbeats 4000000 in
set_option maxRecDepth 100000 in
theorem c_X8_pairs {l : Launch} {G : GG}   {M : Mem} {r : Int32} (hF : F_X8_pairs M = some r) : Met l yX8_pairs (wz yX8_pairs cX8_pairs 3 (some .int)) (RM 1 22) (PreC G [.ref (g_ad G 49)] M) (QcI G r M) 0 0 (g_A G) := by
  rw [F_X8_pairs] at hF
  refine x_start (by decide) (Nat.le_of_ble_eq_true rfl) (lv := [(0, .ref (g_ad G 49))]) rfl ?_
  intro p e s m below meth c cx hr hW hS ls hl
  obtain ⟨hx, hb, hml, hown, hts, hKK, hSS, hlk⟩ := id cx
  refine lv_iconst (v := (0 : Int32)) hx hb dX8_pairs_0 (by decide) ?_
  refine lv_istore_n (lv' := [(1, .int (0 : Int32)), (0, .ref (g_ad G 49))]) hx hb dX8_pairs_1 rfl hl (by decide) rfl (fun ls hl => ?_)
  refine lv_iconst (v := (0 : Int32)) hx hb dX8_pairs_2 (by decide) ?_
  refine lv_istore_n (lv' := [(2, .int (0 : Int32)), (1, .int (0 : Int32)), (0, .ref (g_ad G 49))]) hx hb dX8_pairs_3 rfl hl (by decide) rfl (fun ls hl => ?_)
  exact t_X8_pairs_4 cx hr FU (0 : Int32) (0 : Int32) hF _ _ _ hW hS (lv_sub hl [2, 1, 0] rfl)
def F_X8_moveAll_2 (a1 : Int32) (a2 : Nat) : Nat → Int32 → Mem → Option Mem
  | 0, _, _ => none
  | n + 1, x3, M => (if (51 : Int32) ≤ x3 then some M else (if a1 = 0 then ix 51 x3 (fun j3 => ix 51 x3 (fun j4 => pin (w_I M 50 j4 (m_I M a2 j3)) (fun M5 => F_X8_moveAll_2 a1 a2 n (x3 + 1) M5))) else ix 51 x3 (fun j6 => ix 51 x3 (fun j7 => pin (w_I M a2 j7 (m_I M 50 j6)) (fun M8 => F_X8_moveAll_2 a1 a2 n (x3 + 1) M8)))))
set_option maxHeartbeats 4000000 in
set_option maxRecDepth 100000 in
theorem t_X8_moveAll_2 {p : Program} {l : Launch} {e : Env} {s : State} {m : MethodId} {args : Array Value} {below : List Frame} {meth : Method} {c : Code} {G : GG} {a1 : Int32} {a2 : Nat} (cx : Cx G cX8_moveAll RX8 4 p s m args meth c) (hr : meth.sig.returnType = none) (h2 : kd a2 = 100 + 51)  {M1 : Mem} : ∀ (n : Nat) (x3 : Int32) (M : Mem), F_X8_moveAll_2 a1 a2 n x3 M = some M1 → ∀ (H : Heap) (locs : List Loc) (ls : Array Slot), WH G M H → va_S (g_A G) s.heap H locs → lv_has ls 4 [(0, .ref (g_ad G 49)), (1, .int a1), (2, .ref (g_ad G a2)), (3, .int x3)] → W p l e (RM 0 0) s m args below meth c H locs 0 0 (MQ below (QcV G M1) args s 0 0 (g_A G)) (F0 m 2 ls []) := by
  obtain ⟨hx, hb, hml, hown, hts, hKK, hSS, hlk⟩ := id cx
  intro n
  induction n with
  | zero =>
    intro x3 M hF H locs ls hW hS hl
    rw [F_X8_moveAll_2] at hF
    cases hF
  | succ n ih =>
    intro x3 M hF H locs ls hW hS hl
    rw [F_X8_moveAll_2] at hF
    refine lv_iload_n hx hb dX8_moveAll_2 rfl (lv_at hl 3 rfl) ?_
    refine lv_bipush (v := (51 : Int32)) hx hb dX8_moveAll_3 (by decide) ?_
    refine lv_icmp_ge (tgt := 39) hx hb dX8_moveAll_5 (by decide) (fun c1 => ?_) (fun c1 => ?_)
    · have hF := it_p c1 hF
      exact x_vret cx hr hW hS (Option.some.inj hF) dX8_moveAll_39
    · have hF := it_n c1 hF
      refine lv_iload_n hx hb dX8_moveAll_8 rfl (lv_at hl 1 rfl) ?_
      refine lv_if_eq (tgt := 24) hx hb dX8_moveAll_9 (by decide) (fun c2 => ?_) (fun c2 => ?_)
      · have hF := it_p c2 hF
        refine lv_aload_n hx hb dX8_moveAll_24 rfl (lv_at hl 0 rfl) ?_
        refine x_get cx hW kc_49 fk_X8_7 (v := .ref (g_ad G 50)) rfl dX8_moveAll_25 ?_
        refine lv_iload_n hx hb dX8_moveAll_28 rfl (lv_at hl 3 rfl) ?_
        refine lv_aload_n hx hb dX8_moveAll_29 rfl (lv_at hl 2 rfl) ?_
        refine lv_iload_n hx hb dX8_moveAll_30 rfl (lv_at hl 3 rfl) ?_
        obtain ⟨j3, hj3, gj3, hF⟩ := ix_e hF
        refine x_iald cx hW h2 (by decide) hj3 gj3 dX8_moveAll_31 ?_
        obtain ⟨j4, hj4, gj4, hF⟩ := ix_e hF
        obtain ⟨M5, eM5, hF⟩ := pin_e hF
        refine x_iast cx hW hS kc_50 (by decide) hj4 gj4 eM5 dX8_moveAll_32 (fun H locs hW hS => ?_)
        refine lv_iinc (v := (x3 + 1)) (lv' := [(3, .int (x3 + 1)), (0, .ref (g_ad G 49)), (1, .int a1), (2, .ref (g_ad G a2))]) hx hb dX8_moveAll_33 hl (k := 3) rfl rfl (by decide) rfl (fun ls hl => ?_)
        refine lv_goto (tgt := 2) hx hb dX8_moveAll_36 (by decide) ?_
        exact ih (x3 + 1) M5 hF _ _ _ hW hS (lv_sub hl [1, 2, 3, 0] rfl)
      · have hF := it_n c2 hF
        refine lv_aload_n hx hb dX8_moveAll_12 rfl (lv_at hl 2 rfl) ?_
        refine lv_iload_n hx hb dX8_moveAll_13 rfl (lv_at hl 3 rfl) ?_
        refine lv_aload_n hx hb dX8_moveAll_14 rfl (lv_at hl 0 rfl) ?_
        refine x_get cx hW kc_49 fk_X8_7 (v := .ref (g_ad G 50)) rfl dX8_moveAll_15 ?_
        refine lv_iload_n hx hb dX8_moveAll_18 rfl (lv_at hl 3 rfl) ?_
        obtain ⟨j6, hj6, gj6, hF⟩ := ix_e hF
        refine x_iald cx hW kc_50 (by decide) hj6 gj6 dX8_moveAll_19 ?_
        obtain ⟨j7, hj7, gj7, hF⟩ := ix_e hF
        obtain ⟨M8, eM8, hF⟩ := pin_e hF
        refine x_iast cx hW hS h2 (by decide) hj7 gj7 eM8 dX8_moveAll_20 (fun H locs hW hS => ?_)
        refine lv_goto (tgt := 33) hx hb dX8_moveAll_21 (by decide) ?_
        refine lv_iinc (v := (x3 + 1)) (lv' := [(3, .int (x3 + 1)), (0, .ref (g_ad G 49)), (1, .int a1), (2, .ref (g_ad G a2))]) hx hb dX8_moveAll_33 hl (k := 3) rfl rfl (by decide) rfl (fun ls hl => ?_)
        refine lv_goto (tgt := 2) hx hb dX8_moveAll_36 (by decide) ?_
        exact ih (x3 + 1) M8 hF _ _ _ hW hS (lv_sub hl [1, 2, 3, 0] rfl)
def F_X8_moveAll (a1 : Int32) (a2 : Nat) (M : Mem) : Option Mem := F_X8_moveAll_2 a1 a2 FU (0 : Int32) M
set_option maxHeartbeats 4000000 in
set_option maxRecDepth 100000 in
theorem c_X8_moveAll {l : Launch} {G : GG} {a1 : Int32} {a2 : Nat} (h2 : kd a2 = 100 + 51) {M : Mem} {M1 : Mem} (hF : F_X8_moveAll a1 a2 M = some M1) : Met l yX8_moveAll (wz yX8_moveAll cX8_moveAll 4 none) (RM 0 0) (PreC G [.ref (g_ad G 49), .int a1, .ref (g_ad G a2)] M) (QcV G M1) 0 0 (g_A G) := by
  rw [F_X8_moveAll] at hF
  refine x_start (by decide) (Nat.le_of_ble_eq_true rfl) (lv := [(0, .ref (g_ad G 49)), (1, .int a1), (2, .ref (g_ad G a2))]) rfl ?_
  intro p e s m below meth c cx hr hW hS ls hl
  obtain ⟨hx, hb, hml, hown, hts, hKK, hSS, hlk⟩ := id cx
  refine lv_iconst (v := (0 : Int32)) hx hb dX8_moveAll_0 (by decide) ?_
  refine lv_istore_n (lv' := [(3, .int (0 : Int32)), (0, .ref (g_ad G 49)), (1, .int a1), (2, .ref (g_ad G a2))]) hx hb dX8_moveAll_1 rfl hl (by decide) rfl (fun ls hl => ?_)
  exact t_X8_moveAll_2 cx hr h2 FU (0 : Int32) M hF _ _ _ hW hS (lv_sub hl [1, 2, 3, 0] rfl)
def F_X8_on_46 (a1 : Int32) (a2 : Int32) (a3 : Int32) : Nat → Int32 → Mem → Option (Int32 × Mem)
  | 0, _, _ => none
  | n + 1, x4, M => (if a2 ≤ x4 then (F_X8_its a1 ((2 : Int32) + a3) M).bind (fun r20 => (F_X8_moveAll (0 : Int32) 56 M).bind (fun M22 => some (r20, M22))) else (F_X8_oneFriday M).bind (fun M24 => F_X8_on_46 a1 a2 a3 n (x4 + 1) M24))
set_option maxHeartbeats 4000000 in
set_option maxRecDepth 100000 in
theorem t_X8_on_46 {p : Program} {l : Launch} {e : Env} {s : State} {m : MethodId} {args : Array Value} {below : List Frame} {meth : Method} {c : Code} {G : GG} {a1 : Int32} {a2 : Int32} {a3 : Int32} (cx : Cx G cX8_on RX8 5 p s m args meth c) (hr : meth.sig.returnType = (some .int))   {r : Int32} {M1 : Mem} : ∀ (n : Nat) (x4 : Int32) (M : Mem), F_X8_on_46 a1 a2 a3 n x4 M = some (r, M1) → ∀ (H : Heap) (locs : List Loc) (ls : Array Slot), WH G M H → va_S (g_A G) s.heap H locs → lv_has ls 5 [(0, .ref (g_ad G 49)), (1, .int a1), (2, .int a2), (3, .int a3), (4, .int x4)] → W p l e (RM 3 69) s m args below meth c H locs 0 0 (MQ below (QcI G r M1) args s 0 0 (g_A G)) (F0 m 46 ls []) := by
  obtain ⟨hx, hb, hml, hown, hts, hKK, hSS, hlk⟩ := id cx
  intro n
  induction n with
  | zero =>
    intro x4 M hF H locs ls hW hS hl
    rw [F_X8_on_46] at hF
    cases hF
  | succ n ih =>
    intro x4 M hF H locs ls hW hS hl
    rw [F_X8_on_46] at hF
    refine lv_iload hx hb dX8_on_46 (lv_at hl 4 rfl) ?_
    refine lv_iload_n hx hb dX8_on_48 rfl (lv_at hl 2 rfl) ?_
    refine lv_icmp_ge (tgt := 62) hx hb dX8_on_49 (by decide) (fun c18 => ?_) (fun c18 => ?_)
    · have hF := it_p c18 hF
      refine lv_aload_n hx hb dX8_on_62 rfl (lv_at hl 0 rfl) ?_
      refine lv_iload_n hx hb dX8_on_63 rfl (lv_at hl 1 rfl) ?_
      refine lv_iconst (v := (2 : Int32)) hx hb dX8_on_64 (by decide) ?_
      refine lv_iload_n hx hb dX8_on_65 rfl (lv_at hl 3 rfl) ?_
      refine lv_iadd hx hb dX8_on_66 ?_
      obtain ⟨r20, hc19, hF⟩ := bi_e hF
      refine x_goi (x_runV cx hW hS (c_X8_its (l := l) (G := G) hc19) cv_X8_61 kc_49 rfl (rest := []) ⟨Nat.le_of_ble_eq_true rfl, Nat.le_of_ble_eq_true rfl⟩ hl.1 rfl rfl (Nat.le_of_ble_eq_true rfl) ⟨Nat.zero_le _, Nat.zero_le _⟩ dX8_on_67) hS (fun H locs hW hS => ?_)
      refine lv_istore (lv' := [(4, .int r20), (0, .ref (g_ad G 49)), (1, .int a1), (2, .int a2), (3, .int a3)]) hx hb dX8_on_70 hl (by decide) rfl (fun ls hl => ?_)
      refine lv_aload_n hx hb dX8_on_72 rfl (lv_at hl 1 rfl) ?_
      refine lv_iconst (v := (0 : Int32)) hx hb dX8_on_73 (by decide) ?_
      refine lv_aload_n hx hb dX8_on_74 rfl (lv_at hl 1 rfl) ?_
      refine x_get cx hW kc_49 fk_X8_28 (v := .ref (g_ad G 56)) rfl dX8_on_75 ?_
      obtain ⟨M22, hc21, hF⟩ := bi_e hF
      refine x_gov (x_runV cx hW hS (c_X8_moveAll (l := l) (G := G) kc_56 hc21) cv_X8_161 kc_49 rfl (rest := []) ⟨Nat.le_of_ble_eq_true rfl, Nat.le_of_ble_eq_true rfl⟩ hl.1 rfl rfl (Nat.le_of_ble_eq_true rfl) ⟨Nat.zero_le _, Nat.zero_le _⟩ dX8_on_78) hS (fun H locs hW hS => ?_)
      refine lv_iload hx hb dX8_on_81 (lv_at hl 0 rfl) ?_
      exact x_iret cx hr hW hS (sp_1 hF) (sp_2 hF) dX8_on_83
    · have hF := it_n c18 hF
      refine lv_aload_n hx hb dX8_on_52 rfl (lv_at hl 0 rfl) ?_
      obtain ⟨M24, hc23, hF⟩ := bi_e hF
      refine x_gov (x_runV cx hW hS (c_X8_oneFriday (l := l) (G := G) hc23) cv_X8_139 kc_49 rfl (rest := []) ⟨Nat.le_of_ble_eq_true rfl, Nat.le_of_ble_eq_true rfl⟩ hl.1 rfl rfl (Nat.le_of_ble_eq_true rfl) ⟨Nat.zero_le _, Nat.zero_le _⟩ dX8_on_53) hS (fun H locs hW hS => ?_)
      refine lv_iinc (v := (x4 + 1)) (lv' := [(4, .int (x4 + 1)), (0, .ref (g_ad G 49)), (1, .int a1), (2, .int a2), (3, .int a3)]) hx hb dX8_on_56 hl (k := 4) rfl rfl (by decide) rfl (fun ls hl => ?_)
      refine lv_goto (tgt := 46) hx hb dX8_on_59 (by decide) ?_
      exact ih (x4 + 1) M24 hF _ _ _ hW hS (lv_sub hl [1, 2, 3, 4, 0] rfl)
def F_X8_on (a1 : Int32) (a2 : Int32) (a3 : Int32) (M : Mem) : Option (Int32 × Mem) := (F_X8_isOne a1 M).bind (fun r2 => (if r2 = 0 then bn (F_X8_finds (-1000000001 : Int32) M) (fun r5 M6 => some (r5, M6)) else (F_X8_in a2 (0 : Int32) (60 : Int32) M).bind (fun r8 => (if r8 = 0 then bn (F_X8_finds (-1000000001 : Int32) M) (fun r11 M12 => some (r11, M12)) else (F_X8_in a3 (0 : Int32) (2 : Int32) M).bind (fun r14 => (if r14 = 0 then bn (F_X8_finds (-1000000001 : Int32) M) (fun r26 M27 => some (r26, M27)) else (F_X8_moveAll (1 : Int32) 56 M).bind (fun M17 => F_X8_on_46 a1 a2 a3 FU (0 : Int32) M17)))))))
set_option maxHeartbeats 4000000 in
set_option maxRecDepth 100000 in
theorem c_X8_on {l : Launch} {G : GG} {a1 : Int32} {a2 : Int32} {a3 : Int32}  {M : Mem} {r : Int32} {M1 : Mem} (hF : F_X8_on a1 a2 a3 M = some (r, M1)) : Met l yX8_on (wz yX8_on cX8_on 5 (some .int)) (RM 3 69) (PreC G [.ref (g_ad G 49), .int a1, .int a2, .int a3] M) (QcI G r M1) 0 0 (g_A G) := by
  rw [F_X8_on] at hF
  refine x_start (by decide) (Nat.le_of_ble_eq_true rfl) (lv := [(0, .ref (g_ad G 49)), (1, .int a1), (2, .int a2), (3, .int a3)]) rfl ?_
  intro p e s m below meth c cx hr hW hS ls hl
  obtain ⟨hx, hb, hml, hown, hts, hKK, hSS, hlk⟩ := id cx
  refine lv_aload_n hx hb dX8_on_0 rfl (lv_at hl 0 rfl) ?_
  refine lv_iload_n hx hb dX8_on_1 rfl (lv_at hl 1 rfl) ?_
  obtain ⟨r2, hc1, hF⟩ := bi_e hF
  refine x_goi (x_runV cx hW hS (c_X8_isOne (l := l) (G := G) hc1) cv_X8_91 kc_49 rfl (rest := []) ⟨Nat.le_of_ble_eq_true rfl, Nat.le_of_ble_eq_true rfl⟩ hl.1 rfl rfl (Nat.le_of_ble_eq_true rfl) ⟨Nat.zero_le _, Nat.zero_le _⟩ dX8_on_2) hS (fun H locs hW hS => ?_)
  refine lv_if_eq (tgt := 27) hx hb dX8_on_5 (by decide) (fun c3 => ?_) (fun c3 => ?_)
  · have hF := it_p c3 hF
    refine lv_aload_n hx hb dX8_on_27 rfl (lv_at hl 0 rfl) ?_
    refine x_ldc cx q_k_X8_56 dX8_on_28 ?_
    obtain ⟨r5, M6, hc4, hF⟩ := bn_e hF
    refine x_goi (x_runV cx hW hS (c_X8_finds (l := l) (G := G) hc4) cv_X8_83 kc_49 rfl (rest := []) ⟨Nat.le_of_ble_eq_true rfl, Nat.le_of_ble_eq_true rfl⟩ hl.1 rfl rfl (Nat.le_of_ble_eq_true rfl) ⟨Nat.zero_le _, Nat.zero_le _⟩ dX8_on_30) hS (fun H locs hW hS => ?_)
    exact x_iret cx hr hW hS (sp_1 hF) (sp_2 hF) dX8_on_33
  · have hF := it_n c3 hF
    refine lv_iload_n hx hb dX8_on_8 rfl (lv_at hl 2 rfl) ?_
    refine lv_iconst (v := (0 : Int32)) hx hb dX8_on_9 (by decide) ?_
    refine lv_bipush (v := (60 : Int32)) hx hb dX8_on_10 (by decide) ?_
    obtain ⟨r8, hc7, hF⟩ := bi_e hF
    refine x_goi (x_runS cx hW hS (c_X8_in (l := l) (G := G) hc7) cs_X8_57 (rest := []) ⟨Nat.le_of_ble_eq_true rfl, Nat.le_of_ble_eq_true rfl⟩ hl.1 rfl rfl (Nat.le_of_ble_eq_true rfl) ⟨Nat.zero_le _, Nat.zero_le _⟩ dX8_on_12) hS (fun H locs hW hS => ?_)
    refine lv_if_eq (tgt := 27) hx hb dX8_on_15 (by decide) (fun c9 => ?_) (fun c9 => ?_)
    · have hF := it_p c9 hF
      refine lv_aload_n hx hb dX8_on_27 rfl (lv_at hl 0 rfl) ?_
      refine x_ldc cx q_k_X8_56 dX8_on_28 ?_
      obtain ⟨r11, M12, hc10, hF⟩ := bn_e hF
      refine x_goi (x_runV cx hW hS (c_X8_finds (l := l) (G := G) hc10) cv_X8_83 kc_49 rfl (rest := []) ⟨Nat.le_of_ble_eq_true rfl, Nat.le_of_ble_eq_true rfl⟩ hl.1 rfl rfl (Nat.le_of_ble_eq_true rfl) ⟨Nat.zero_le _, Nat.zero_le _⟩ dX8_on_30) hS (fun H locs hW hS => ?_)
      exact x_iret cx hr hW hS (sp_1 hF) (sp_2 hF) dX8_on_33
    · have hF := it_n c9 hF
      refine lv_iload_n hx hb dX8_on_18 rfl (lv_at hl 3 rfl) ?_
      refine lv_iconst (v := (0 : Int32)) hx hb dX8_on_19 (by decide) ?_
      refine lv_iconst (v := (2 : Int32)) hx hb dX8_on_20 (by decide) ?_
      obtain ⟨r14, hc13, hF⟩ := bi_e hF
      refine x_goi (x_runS cx hW hS (c_X8_in (l := l) (G := G) hc13) cs_X8_57 (rest := []) ⟨Nat.le_of_ble_eq_true rfl, Nat.le_of_ble_eq_true rfl⟩ hl.1 rfl rfl (Nat.le_of_ble_eq_true rfl) ⟨Nat.zero_le _, Nat.zero_le _⟩ dX8_on_21) hS (fun H locs hW hS => ?_)
      refine lv_if_ne (tgt := 34) hx hb dX8_on_24 (by decide) (fun c15 => ?_) (fun c15 => ?_)
      · have hF := it_n c15 hF
        refine lv_aload_n hx hb dX8_on_34 rfl (lv_at hl 0 rfl) ?_
        refine lv_iconst (v := (1 : Int32)) hx hb dX8_on_35 (by decide) ?_
        refine lv_aload_n hx hb dX8_on_36 rfl (lv_at hl 0 rfl) ?_
        refine x_get cx hW kc_49 fk_X8_28 (v := .ref (g_ad G 56)) rfl dX8_on_37 ?_
        obtain ⟨M17, hc16, hF⟩ := bi_e hF
        refine x_gov (x_runV cx hW hS (c_X8_moveAll (l := l) (G := G) kc_56 hc16) cv_X8_161 kc_49 rfl (rest := []) ⟨Nat.le_of_ble_eq_true rfl, Nat.le_of_ble_eq_true rfl⟩ hl.1 rfl rfl (Nat.le_of_ble_eq_true rfl) ⟨Nat.zero_le _, Nat.zero_le _⟩ dX8_on_40) hS (fun H locs hW hS => ?_)
        refine lv_iconst (v := (0 : Int32)) hx hb dX8_on_43 (by decide) ?_
        refine lv_istore (lv' := [(4, .int (0 : Int32)), (0, .ref (g_ad G 49)), (1, .int a1), (2, .int a2), (3, .int a3)]) hx hb dX8_on_44 hl (by decide) rfl (fun ls hl => ?_)
        exact t_X8_on_46 cx hr FU (0 : Int32) M17 hF _ _ _ hW hS (lv_sub hl [1, 2, 3, 4, 0] rfl)
      · have hF := it_p c15 hF
        refine lv_aload_n hx hb dX8_on_27 rfl (lv_at hl 0 rfl) ?_
        refine x_ldc cx q_k_X8_56 dX8_on_28 ?_
        obtain ⟨r26, M27, hc25, hF⟩ := bn_e hF
        refine x_goi (x_runV cx hW hS (c_X8_finds (l := l) (G := G) hc25) cv_X8_83 kc_49 rfl (rest := []) ⟨Nat.le_of_ble_eq_true rfl, Nat.le_of_ble_eq_true rfl⟩ hl.1 rfl rfl (Nat.le_of_ble_eq_true rfl) ⟨Nat.zero_le _, Nat.zero_le _⟩ dX8_on_30) hS (fun H locs hW hS => ?_)
        exact x_iret cx hr hW hS (sp_1 hF) (sp_2 hF) dX8_on_33
def F_X8_itself_64 (a1 : Int32) (x2 : Int32) (x3 : Int32) (M : Mem) : Option (Int32 × Mem) := (F_X8_moveAll (0 : Int32) 56 M).bind (fun M8 => (if x3 = 0 then bn (F_X8_finds (-1000000004 : Int32) M8) (fun r11 M12 => some (r11, M12)) else some (x2, M8)))
set_option maxHeartbeats 4000000 in
set_option maxRecDepth 100000 in
theorem t_X8_itself_64 {p : Program} {l : Launch} {e : Env} {s : State} {m : MethodId} {args : Array Value} {below : List Frame} {meth : Method} {c : Code} {G : GG} {a1 : Int32} (cx : Cx G cX8_itself RX8 4 p s m args meth c) (hr : meth.sig.returnType = (some .int))   {r : Int32} {M1 : Mem} : ∀ (x2 : Int32) (x3 : Int32) (M : Mem), F_X8_itself_64 a1 x2 x3 M = some (r, M1) → ∀ (H : Heap) (locs : List Loc) (ls : Array Slot), WH G M H → va_S (g_A G) s.heap H locs → lv_has ls 4 [(0, .ref (g_ad G 49)), (2, .int x2), (3, .int x3)] → W p l e (RM 4 89) s m args below meth c H locs 0 0 (MQ below (QcI G r M1) args s 0 0 (g_A G)) (F0 m 64 ls []) := by
  obtain ⟨hx, hb, hml, hown, hts, hKK, hSS, hlk⟩ := id cx
  intro x2 x3 M hF H locs ls hW hS hl
  rw [F_X8_itself_64] at hF
  refine lv_aload_n hx hb dX8_itself_64 rfl (lv_at hl 0 rfl) ?_
  refine lv_iconst (v := (0 : Int32)) hx hb dX8_itself_65 (by decide) ?_
  refine lv_aload_n hx hb dX8_itself_66 rfl (lv_at hl 0 rfl) ?_
  refine x_get cx hW kc_49 fk_X8_28 (v := .ref (g_ad G 56)) rfl dX8_itself_67 ?_
  obtain ⟨M8, hc7, hF⟩ := bi_e hF
  refine x_gov (x_runV cx hW hS (c_X8_moveAll (l := l) (G := G) kc_56 hc7) cv_X8_161 kc_49 rfl (rest := []) ⟨Nat.le_of_ble_eq_true rfl, Nat.le_of_ble_eq_true rfl⟩ hl.1 rfl rfl (Nat.le_of_ble_eq_true rfl) ⟨Nat.zero_le _, Nat.zero_le _⟩ dX8_itself_70) hS (fun H locs hW hS => ?_)
  refine lv_iload_n hx hb dX8_itself_73 rfl (lv_at hl 2 rfl) ?_
  refine lv_if_eq (tgt := 81) hx hb dX8_itself_74 (by decide) (fun c9 => ?_) (fun c9 => ?_)
  · have hF := it_p c9 hF
    refine lv_aload_n hx hb dX8_itself_81 rfl (lv_at hl 0 rfl) ?_
    refine x_ldc cx q_k_X8_165 dX8_itself_82 ?_
    obtain ⟨r11, M12, hc10, hF⟩ := bn_e hF
    refine x_goi (x_runV cx hW hS (c_X8_finds (l := l) (G := G) hc10) cv_X8_83 kc_49 rfl (rest := []) ⟨Nat.le_of_ble_eq_true rfl, Nat.le_of_ble_eq_true rfl⟩ hl.1 rfl rfl (Nat.le_of_ble_eq_true rfl) ⟨Nat.zero_le _, Nat.zero_le _⟩ dX8_itself_84) hS (fun H locs hW hS => ?_)
    exact x_iret cx hr hW hS (sp_1 hF) (sp_2 hF) dX8_itself_87
  · have hF := it_n c9 hF
    refine lv_iload_n hx hb dX8_itself_77 rfl (lv_at hl 1 rfl) ?_
    refine lv_goto (tgt := 87) hx hb dX8_itself_78 (by decide) ?_
    exact x_iret cx hr hW hS (sp_1 hF) (sp_2 hF) dX8_itself_87
def F_X8_itself_28 (a1 : Int32) : Nat → Int32 → Int32 → Mem → Option (Int32 × Mem)
  | 0, _, _, _ => none
  | n + 1, x2, x3, M => (if (60 : Int32) ≤ x2 then F_X8_itself_64 a1 x2 x3 M else (if x3 = 0 then (F_X8_draws M).bind (fun M15 => (F_X8_its a1 (5 : Int32) M15).bind (fun r17 => (if r17 = a1 then F_X8_itself_28 a1 n (x2 + 1) (1 : Int32) M15 else F_X8_itself_28 a1 n (x2 + 1) (0 : Int32) M15))) else F_X8_itself_64 a1 x2 x3 M))
set_option maxHeartbeats 4000000 in
set_option maxRecDepth 100000 in
theorem t_X8_itself_28 {p : Program} {l : Launch} {e : Env} {s : State} {m : MethodId} {args : Array Value} {below : List Frame} {meth : Method} {c : Code} {G : GG} {a1 : Int32} (cx : Cx G cX8_itself RX8 4 p s m args meth c) (hr : meth.sig.returnType = (some .int))   {r : Int32} {M1 : Mem} : ∀ (n : Nat) (x2 : Int32) (x3 : Int32) (M : Mem), F_X8_itself_28 a1 n x2 x3 M = some (r, M1) → ∀ (H : Heap) (locs : List Loc) (ls : Array Slot), WH G M H → va_S (g_A G) s.heap H locs → lv_has ls 4 [(0, .ref (g_ad G 49)), (1, .int a1), (2, .int x2), (3, .int x3)] → W p l e (RM 4 89) s m args below meth c H locs 0 0 (MQ below (QcI G r M1) args s 0 0 (g_A G)) (F0 m 28 ls []) := by
  obtain ⟨hx, hb, hml, hown, hts, hKK, hSS, hlk⟩ := id cx
  intro n
  induction n with
  | zero =>
    intro x2 x3 M hF H locs ls hW hS hl
    rw [F_X8_itself_28] at hF
    cases hF
  | succ n ih =>
    intro x2 x3 M hF H locs ls hW hS hl
    rw [F_X8_itself_28] at hF
    refine lv_iload_n hx hb dX8_itself_28 rfl (lv_at hl 2 rfl) ?_
    refine lv_bipush (v := (60 : Int32)) hx hb dX8_itself_29 (by decide) ?_
    refine lv_icmp_ge (tgt := 64) hx hb dX8_itself_31 (by decide) (fun c6 => ?_) (fun c6 => ?_)
    · have hF := it_p c6 hF
      exact t_X8_itself_64 cx hr x2 x3 M hF _ _ _ hW hS (lv_sub hl [0, 2, 3] rfl)
    · have hF := it_n c6 hF
      refine lv_iload_n hx hb dX8_itself_34 rfl (lv_at hl 3 rfl) ?_
      refine lv_if_ne (tgt := 64) hx hb dX8_itself_35 (by decide) (fun c13 => ?_) (fun c13 => ?_)
      · have hF := it_n c13 hF
        exact t_X8_itself_64 cx hr x2 x3 M hF _ _ _ hW hS (lv_sub hl [0, 2, 3] rfl)
      · have hF := it_p c13 hF
        refine lv_aload_n hx hb dX8_itself_38 rfl (lv_at hl 0 rfl) ?_
        obtain ⟨M15, hc14, hF⟩ := bi_e hF
        refine x_gov (x_runV cx hW hS (c_X8_draws (l := l) (G := G) hc14) cv_X8_129 kc_49 rfl (rest := []) ⟨Nat.le_of_ble_eq_true rfl, Nat.le_of_ble_eq_true rfl⟩ hl.1 rfl rfl (Nat.le_of_ble_eq_true rfl) ⟨Nat.zero_le _, Nat.zero_le _⟩ dX8_itself_39) hS (fun H locs hW hS => ?_)
        refine lv_iinc (v := (x2 + 1)) (lv' := [(2, .int (x2 + 1)), (0, .ref (g_ad G 49)), (1, .int a1), (3, .int x3)]) hx hb dX8_itself_42 hl (k := 2) rfl rfl (by decide) rfl (fun ls hl => ?_)
        refine lv_aload_n hx hb dX8_itself_45 rfl (lv_at hl 1 rfl) ?_
        refine lv_iload_n hx hb dX8_itself_46 rfl (lv_at hl 2 rfl) ?_
        refine lv_iconst (v := (5 : Int32)) hx hb dX8_itself_47 (by decide) ?_
        obtain ⟨r17, hc16, hF⟩ := bi_e hF
        refine x_goi (x_runV cx hW hS (c_X8_its (l := l) (G := G) hc16) cv_X8_61 kc_49 rfl (rest := []) ⟨Nat.le_of_ble_eq_true rfl, Nat.le_of_ble_eq_true rfl⟩ hl.1 rfl rfl (Nat.le_of_ble_eq_true rfl) ⟨Nat.zero_le _, Nat.zero_le _⟩ dX8_itself_48) hS (fun H locs hW hS => ?_)
        refine lv_iload_n hx hb dX8_itself_51 rfl (lv_at hl 2 rfl) ?_
        refine lv_icmp_ne (tgt := 59) hx hb dX8_itself_52 (by decide) (fun c18 => ?_) (fun c18 => ?_)
        · have hF := it_n c18 hF
          refine lv_iconst (v := (0 : Int32)) hx hb dX8_itself_59 (by decide) ?_
          refine lv_istore_n (lv' := [(3, .int (0 : Int32)), (2, .int (x2 + 1)), (0, .ref (g_ad G 49)), (1, .int a1)]) hx hb dX8_itself_60 rfl hl (by decide) rfl (fun ls hl => ?_)
          refine lv_goto (tgt := 28) hx hb dX8_itself_61 (by decide) ?_
          exact ih (x2 + 1) (0 : Int32) M15 hF _ _ _ hW hS (lv_sub hl [2, 3, 1, 0] rfl)
        · have hF := it_p c18 hF
          refine lv_iconst (v := (1 : Int32)) hx hb dX8_itself_55 (by decide) ?_
          refine lv_goto (tgt := 60) hx hb dX8_itself_56 (by decide) ?_
          refine lv_istore_n (lv' := [(3, .int (1 : Int32)), (2, .int (x2 + 1)), (0, .ref (g_ad G 49)), (1, .int a1)]) hx hb dX8_itself_60 rfl hl (by decide) rfl (fun ls hl => ?_)
          refine lv_goto (tgt := 28) hx hb dX8_itself_61 (by decide) ?_
          exact ih (x2 + 1) (1 : Int32) M15 hF _ _ _ hW hS (lv_sub hl [2, 3, 1, 0] rfl)
def F_X8_itself (a1 : Int32) (M : Mem) : Option (Int32 × Mem) := (F_X8_isOne a1 M).bind (fun r2 => (if r2 = 0 then bn (F_X8_finds (-1000000001 : Int32) M) (fun r20 M21 => some (r20, M21)) else (F_X8_moveAll (1 : Int32) 56 M).bind (fun M5 => F_X8_itself_28 a1 FU (0 : Int32) (0 : Int32) M5)))
set_option maxHeartbeats 4000000 in
set_option maxRecDepth 100000 in
theorem c_X8_itself {l : Launch} {G : GG} {a1 : Int32}  {M : Mem} {r : Int32} {M1 : Mem} (hF : F_X8_itself a1 M = some (r, M1)) : Met l yX8_itself (wz yX8_itself cX8_itself 4 (some .int)) (RM 4 89) (PreC G [.ref (g_ad G 49), .int a1] M) (QcI G r M1) 0 0 (g_A G) := by
  rw [F_X8_itself] at hF
  refine x_start (by decide) (Nat.le_of_ble_eq_true rfl) (lv := [(0, .ref (g_ad G 49)), (1, .int a1)]) rfl ?_
  intro p e s m below meth c cx hr hW hS ls hl
  obtain ⟨hx, hb, hml, hown, hts, hKK, hSS, hlk⟩ := id cx
  refine lv_aload_n hx hb dX8_itself_0 rfl (lv_at hl 0 rfl) ?_
  refine lv_iload_n hx hb dX8_itself_1 rfl (lv_at hl 1 rfl) ?_
  obtain ⟨r2, hc1, hF⟩ := bi_e hF
  refine x_goi (x_runV cx hW hS (c_X8_isOne (l := l) (G := G) hc1) cv_X8_91 kc_49 rfl (rest := []) ⟨Nat.le_of_ble_eq_true rfl, Nat.le_of_ble_eq_true rfl⟩ hl.1 rfl rfl (Nat.le_of_ble_eq_true rfl) ⟨Nat.zero_le _, Nat.zero_le _⟩ dX8_itself_2) hS (fun H locs hW hS => ?_)
  refine lv_if_ne (tgt := 15) hx hb dX8_itself_5 (by decide) (fun c3 => ?_) (fun c3 => ?_)
  · have hF := it_n c3 hF
    refine lv_aload_n hx hb dX8_itself_15 rfl (lv_at hl 0 rfl) ?_
    refine lv_iconst (v := (1 : Int32)) hx hb dX8_itself_16 (by decide) ?_
    refine lv_aload_n hx hb dX8_itself_17 rfl (lv_at hl 0 rfl) ?_
    refine x_get cx hW kc_49 fk_X8_28 (v := .ref (g_ad G 56)) rfl dX8_itself_18 ?_
    obtain ⟨M5, hc4, hF⟩ := bi_e hF
    refine x_gov (x_runV cx hW hS (c_X8_moveAll (l := l) (G := G) kc_56 hc4) cv_X8_161 kc_49 rfl (rest := []) ⟨Nat.le_of_ble_eq_true rfl, Nat.le_of_ble_eq_true rfl⟩ hl.1 rfl rfl (Nat.le_of_ble_eq_true rfl) ⟨Nat.zero_le _, Nat.zero_le _⟩ dX8_itself_21) hS (fun H locs hW hS => ?_)
    refine lv_iconst (v := (0 : Int32)) hx hb dX8_itself_24 (by decide) ?_
    refine lv_istore_n (lv' := [(2, .int (0 : Int32)), (0, .ref (g_ad G 49)), (1, .int a1)]) hx hb dX8_itself_25 rfl hl (by decide) rfl (fun ls hl => ?_)
    refine lv_iconst (v := (0 : Int32)) hx hb dX8_itself_26 (by decide) ?_
    refine lv_istore_n (lv' := [(3, .int (0 : Int32)), (2, .int (0 : Int32)), (0, .ref (g_ad G 49)), (1, .int a1)]) hx hb dX8_itself_27 rfl hl (by decide) rfl (fun ls hl => ?_)
    exact t_X8_itself_28 cx hr FU (0 : Int32) (0 : Int32) M5 hF _ _ _ hW hS (lv_sub hl [2, 3, 1, 0] rfl)
  · have hF := it_p c3 hF
    refine lv_aload_n hx hb dX8_itself_8 rfl (lv_at hl 0 rfl) ?_
    refine x_ldc cx q_k_X8_56 dX8_itself_9 ?_
    obtain ⟨r20, M21, hc19, hF⟩ := bn_e hF
    refine x_goi (x_runV cx hW hS (c_X8_finds (l := l) (G := G) hc19) cv_X8_83 kc_49 rfl (rest := []) ⟨Nat.le_of_ble_eq_true rfl, Nat.le_of_ble_eq_true rfl⟩ hl.1 rfl rfl (Nat.le_of_ble_eq_true rfl) ⟨Nat.zero_le _, Nat.zero_le _⟩ dX8_itself_11) hS (fun H locs hW hS => ?_)
    exact x_iret cx hr hW hS (sp_1 hF) (sp_2 hF) dX8_itself_14
def F_X8_findMost_44  (k24 : Int32 → Int32 → Mem → Option Mem) : Nat → Int32 → Int32 → Int32 → Int32 → Mem → Option Mem
  | 0, _, _, _, _, _ => none
  | n + 1, x1, x3, x4, x5, M => (if x1 ≤ x5 then k24 x1 (x3 + (-1 : Int32)) M else (if ((x3 >>> (x5 &&& 31)) &&& (1 : Int32)) = 0 then (F_X8_areAlike x4 x5 M).bind (fun r12 => (if r12 = 0 then F_X8_findMost_44 k24 n x1 x3 x4 (x5 + 1) M else ix 256 (x3 ||| ((1 : Int32) <<< (x5 &&& 31))) (fun j14 => (if (m_I M 57 j14) < 0 then F_X8_findMost_44 k24 n x1 x3 x4 (x5 + 1) M else (F_X8_earnsAs x4 x5 M).bind (fun r17 => ix 256 (x3 ||| ((1 : Int32) <<< (x5 &&& 31))) (fun j18 => ix 256 x3 (fun j19 => (if (r17 + (m_I M 57 j18)) ≤ (m_I M 57 j19) then ix 256 x3 (fun j21 => ix 256 x3 (fun j22 => pin (w_I M 57 j22 (m_I M 57 j21)) (fun M23 => F_X8_findMost_44 k24 n x1 x3 x4 (x5 + 1) M23))) else ix 256 x3 (fun j24 => pin (w_I M 57 j24 (r17 + (m_I M 57 j18))) (fun M25 => F_X8_findMost_44 k24 n x1 x3 x4 (x5 + 1) M25)))))))))) else F_X8_findMost_44 k24 n x1 x3 x4 (x5 + 1) M))
set_option maxHeartbeats 4000000 in
set_option maxRecDepth 100000 in
theorem t_X8_findMost_44 {p : Program} {l : Launch} {e : Env} {s : State} {m : MethodId} {args : Array Value} {below : List Frame} {meth : Method} {c : Code} {G : GG}  (cx : Cx G cX8_findMost RX8 7 p s m args meth c) (hr : meth.sig.returnType = none)   {M1 : Mem} {k24 : Int32 → Int32 → Mem → Option Mem} (hk24 : ∀ (x1 : Int32) (x3 : Int32) (M : Mem), k24 x1 x3 M = some M1 → ∀ (H : Heap) (locs : List Loc) (ls : Array Slot), WH G M H → va_S (g_A G) s.heap H locs → lv_has ls 7 [(0, .ref (g_ad G 49)), (1, .int x1), (3, .int x3)] → W p l e (RM 3 65) s m args below meth c H locs 0 0 (MQ below (QcV G M1) args s 0 0 (g_A G)) (F0 m 24 ls [])) : ∀ (n : Nat) (x1 : Int32) (x3 : Int32) (x4 : Int32) (x5 : Int32) (M : Mem), F_X8_findMost_44  k24 n x1 x3 x4 x5 M = some M1 → ∀ (H : Heap) (locs : List Loc) (ls : Array Slot), WH G M H → va_S (g_A G) s.heap H locs → lv_has ls 7 [(0, .ref (g_ad G 49)), (1, .int x1), (3, .int x3), (4, .int x4), (5, .int x5)] → W p l e (RM 3 65) s m args below meth c H locs 0 0 (MQ below (QcV G M1) args s 0 0 (g_A G)) (F0 m 44 ls []) := by
  obtain ⟨hx, hb, hml, hown, hts, hKK, hSS, hlk⟩ := id cx
  intro n
  induction n with
  | zero =>
    intro x1 x3 x4 x5 M hF H locs ls hW hS hl
    rw [F_X8_findMost_44] at hF
    cases hF
  | succ n ih =>
    intro x1 x3 x4 x5 M hF H locs ls hW hS hl
    rw [F_X8_findMost_44] at hF
    refine lv_iload hx hb dX8_findMost_44 (lv_at hl 4 rfl) ?_
    refine lv_iload_n hx hb dX8_findMost_46 rfl (lv_at hl 1 rfl) ?_
    refine lv_icmp_ge (tgt := 140) hx hb dX8_findMost_47 (by decide) (fun c9 => ?_) (fun c9 => ?_)
    · have hF := it_p c9 hF
      refine lv_iinc (v := (x3 + (-1 : Int32))) (lv' := [(3, .int (x3 + (-1 : Int32))), (0, .ref (g_ad G 49)), (1, .int x1), (4, .int x4), (5, .int x5)]) hx hb dX8_findMost_140 hl (k := 2) rfl rfl (by decide) rfl (fun ls hl => ?_)
      refine lv_goto (tgt := 24) hx hb dX8_findMost_143 (by decide) ?_
      exact hk24 x1 (x3 + (-1 : Int32)) M hF _ _ _ hW hS (lv_sub hl [1, 2, 0] rfl)
    · have hF := it_n c9 hF
      refine lv_iload_n hx hb dX8_findMost_50 rfl (lv_at hl 2 rfl) ?_
      refine lv_iload hx hb dX8_findMost_51 (lv_at hl 4 rfl) ?_
      refine lv_ishr hx hb dX8_findMost_53 ?_
      refine lv_iconst (v := (1 : Int32)) hx hb dX8_findMost_54 (by decide) ?_
      refine lv_iand hx hb dX8_findMost_55 ?_
      refine lv_if_ne (tgt := 134) hx hb dX8_findMost_56 (by decide) (fun c10 => ?_) (fun c10 => ?_)
      · have hF := it_n c10 hF
        refine lv_iinc (v := (x5 + 1)) (lv' := [(5, .int (x5 + 1)), (0, .ref (g_ad G 49)), (1, .int x1), (3, .int x3), (4, .int x4)]) hx hb dX8_findMost_134 hl (k := 4) rfl rfl (by decide) rfl (fun ls hl => ?_)
        refine lv_goto (tgt := 44) hx hb dX8_findMost_137 (by decide) ?_
        exact ih x1 x3 x4 (x5 + 1) M hF _ _ _ hW hS (lv_sub hl [1, 2, 3, 4, 0] rfl)
      · have hF := it_p c10 hF
        refine lv_aload_n hx hb dX8_findMost_59 rfl (lv_at hl 0 rfl) ?_
        refine lv_iload hx hb dX8_findMost_60 (lv_at hl 3 rfl) ?_
        refine lv_iload hx hb dX8_findMost_62 (lv_at hl 4 rfl) ?_
        obtain ⟨r12, hc11, hF⟩ := bi_e hF
        refine x_goi (x_runV cx hW hS (c_X8_areAlike (l := l) (G := G) hc11) cv_X8_102 kc_49 rfl (rest := []) ⟨Nat.le_of_ble_eq_true rfl, Nat.le_of_ble_eq_true rfl⟩ hl.1 rfl rfl (Nat.le_of_ble_eq_true rfl) ⟨Nat.zero_le _, Nat.zero_le _⟩ dX8_findMost_64) hS (fun H locs hW hS => ?_)
        refine lv_if_eq (tgt := 134) hx hb dX8_findMost_67 (by decide) (fun c13 => ?_) (fun c13 => ?_)
        · have hF := it_p c13 hF
          refine lv_iinc (v := (x5 + 1)) (lv' := [(5, .int (x5 + 1)), (0, .ref (g_ad G 49)), (1, .int x1), (3, .int x3), (4, .int x4)]) hx hb dX8_findMost_134 hl (k := 4) rfl rfl (by decide) rfl (fun ls hl => ?_)
          refine lv_goto (tgt := 44) hx hb dX8_findMost_137 (by decide) ?_
          exact ih x1 x3 x4 (x5 + 1) M hF _ _ _ hW hS (lv_sub hl [1, 2, 3, 4, 0] rfl)
        · have hF := it_n c13 hF
          refine lv_aload_n hx hb dX8_findMost_70 rfl (lv_at hl 0 rfl) ?_
          refine x_get cx hW kc_49 fk_X8_31 (v := .ref (g_ad G 57)) rfl dX8_findMost_71 ?_
          refine lv_iload_n hx hb dX8_findMost_74 rfl (lv_at hl 2 rfl) ?_
          refine lv_iconst (v := (1 : Int32)) hx hb dX8_findMost_75 (by decide) ?_
          refine lv_iload hx hb dX8_findMost_76 (lv_at hl 4 rfl) ?_
          refine lv_ishl hx hb dX8_findMost_78 ?_
          refine lv_ior hx hb dX8_findMost_79 ?_
          obtain ⟨j14, hj14, gj14, hF⟩ := ix_e hF
          refine x_iald cx hW kc_57 (by decide) hj14 gj14 dX8_findMost_80 ?_
          refine lv_if_lt (tgt := 134) hx hb dX8_findMost_81 (by decide) (fun c15 => ?_) (fun c15 => ?_)
          · have hF := it_p c15 hF
            refine lv_iinc (v := (x5 + 1)) (lv' := [(5, .int (x5 + 1)), (0, .ref (g_ad G 49)), (1, .int x1), (3, .int x3), (4, .int x4)]) hx hb dX8_findMost_134 hl (k := 4) rfl rfl (by decide) rfl (fun ls hl => ?_)
            refine lv_goto (tgt := 44) hx hb dX8_findMost_137 (by decide) ?_
            exact ih x1 x3 x4 (x5 + 1) M hF _ _ _ hW hS (lv_sub hl [1, 2, 3, 4, 0] rfl)
          · have hF := it_n c15 hF
            refine lv_aload_n hx hb dX8_findMost_84 rfl (lv_at hl 0 rfl) ?_
            refine lv_iload hx hb dX8_findMost_85 (lv_at hl 3 rfl) ?_
            refine lv_iload hx hb dX8_findMost_87 (lv_at hl 4 rfl) ?_
            obtain ⟨r17, hc16, hF⟩ := bi_e hF
            refine x_goi (x_runV cx hW hS (c_X8_earnsAs (l := l) (G := G) hc16) cv_X8_69 kc_49 rfl (rest := []) ⟨Nat.le_of_ble_eq_true rfl, Nat.le_of_ble_eq_true rfl⟩ hl.1 rfl rfl (Nat.le_of_ble_eq_true rfl) ⟨Nat.zero_le _, Nat.zero_le _⟩ dX8_findMost_89) hS (fun H locs hW hS => ?_)
            refine lv_aload_n hx hb dX8_findMost_92 rfl (lv_at hl 0 rfl) ?_
            refine x_get cx hW kc_49 fk_X8_31 (v := .ref (g_ad G 57)) rfl dX8_findMost_93 ?_
            refine lv_iload_n hx hb dX8_findMost_96 rfl (lv_at hl 2 rfl) ?_
            refine lv_iconst (v := (1 : Int32)) hx hb dX8_findMost_97 (by decide) ?_
            refine lv_iload hx hb dX8_findMost_98 (lv_at hl 4 rfl) ?_
            refine lv_ishl hx hb dX8_findMost_100 ?_
            refine lv_ior hx hb dX8_findMost_101 ?_
            obtain ⟨j18, hj18, gj18, hF⟩ := ix_e hF
            refine x_iald cx hW kc_57 (by decide) hj18 gj18 dX8_findMost_102 ?_
            refine lv_iadd hx hb dX8_findMost_103 ?_
            refine lv_istore (lv' := [(6, .int (r17 + (m_I M 57 j18))), (0, .ref (g_ad G 49)), (1, .int x1), (3, .int x3), (4, .int x4), (5, .int x5)]) hx hb dX8_findMost_104 hl (by decide) rfl (fun ls hl => ?_)
            refine lv_aload_n hx hb dX8_findMost_106 rfl (lv_at hl 1 rfl) ?_
            refine x_get cx hW kc_49 fk_X8_31 (v := .ref (g_ad G 57)) rfl dX8_findMost_107 ?_
            refine lv_iload_n hx hb dX8_findMost_110 rfl (lv_at hl 3 rfl) ?_
            refine lv_iload hx hb dX8_findMost_111 (lv_at hl 0 rfl) ?_
            refine lv_aload_n hx hb dX8_findMost_113 rfl (lv_at hl 1 rfl) ?_
            refine x_get cx hW kc_49 fk_X8_31 (v := .ref (g_ad G 57)) rfl dX8_findMost_114 ?_
            refine lv_iload_n hx hb dX8_findMost_117 rfl (lv_at hl 3 rfl) ?_
            obtain ⟨j19, hj19, gj19, hF⟩ := ix_e hF
            refine x_iald cx hW kc_57 (by decide) hj19 gj19 dX8_findMost_118 ?_
            refine lv_icmp_le (tgt := 127) hx hb dX8_findMost_119 (by decide) (fun c20 => ?_) (fun c20 => ?_)
            · have hF := it_p c20 hF
              refine lv_aload_n hx hb dX8_findMost_127 rfl (lv_at hl 1 rfl) ?_
              refine x_get cx hW kc_49 fk_X8_31 (v := .ref (g_ad G 57)) rfl dX8_findMost_128 ?_
              refine lv_iload_n hx hb dX8_findMost_131 rfl (lv_at hl 3 rfl) ?_
              obtain ⟨j21, hj21, gj21, hF⟩ := ix_e hF
              refine x_iald cx hW kc_57 (by decide) hj21 gj21 dX8_findMost_132 ?_
              obtain ⟨j22, hj22, gj22, hF⟩ := ix_e hF
              obtain ⟨M23, eM23, hF⟩ := pin_e hF
              refine x_iast cx hW hS kc_57 (by decide) hj22 gj22 eM23 dX8_findMost_133 (fun H locs hW hS => ?_)
              refine lv_iinc (v := (x5 + 1)) (lv' := [(5, .int (x5 + 1)), (6, .int (r17 + (m_I M 57 j18))), (0, .ref (g_ad G 49)), (1, .int x1), (3, .int x3), (4, .int x4)]) hx hb dX8_findMost_134 hl (k := 5) rfl rfl (by decide) rfl (fun ls hl => ?_)
              refine lv_goto (tgt := 44) hx hb dX8_findMost_137 (by decide) ?_
              exact ih x1 x3 x4 (x5 + 1) M23 hF _ _ _ hW hS (lv_sub hl [2, 3, 4, 5, 0] rfl)
            · have hF := it_n c20 hF
              refine lv_iload hx hb dX8_findMost_122 (lv_at hl 0 rfl) ?_
              refine lv_goto (tgt := 133) hx hb dX8_findMost_124 (by decide) ?_
              obtain ⟨j24, hj24, gj24, hF⟩ := ix_e hF
              obtain ⟨M25, eM25, hF⟩ := pin_e hF
              refine x_iast cx hW hS kc_57 (by decide) hj24 gj24 eM25 dX8_findMost_133 (fun H locs hW hS => ?_)
              refine lv_iinc (v := (x5 + 1)) (lv' := [(5, .int (x5 + 1)), (6, .int (r17 + (m_I M 57 j18))), (0, .ref (g_ad G 49)), (1, .int x1), (3, .int x3), (4, .int x4)]) hx hb dX8_findMost_134 hl (k := 5) rfl rfl (by decide) rfl (fun ls hl => ?_)
              refine lv_goto (tgt := 44) hx hb dX8_findMost_137 (by decide) ?_
              exact ih x1 x3 x4 (x5 + 1) M25 hF _ _ _ hW hS (lv_sub hl [2, 3, 4, 5, 0] rfl)
def F_X8_findMost_24  : Nat → Int32 → Int32 → Mem → Option Mem
  | 0, _, _, _ => none
  | n + 1, x1, x3, M => (if x3 < 0 then some M else (F_X8_bits x3 M).bind (fun r6 => ix 256 x3 (fun j7 => pin (w_I M 57 j7 (-1 : Int32)) (fun M8 => F_X8_findMost_44 (F_X8_findMost_24 n) FU x1 x3 r6 (0 : Int32) M8))))
set_option maxHeartbeats 4000000 in
set_option maxRecDepth 100000 in
theorem t_X8_findMost_24 {p : Program} {l : Launch} {e : Env} {s : State} {m : MethodId} {args : Array Value} {below : List Frame} {meth : Method} {c : Code} {G : GG}  (cx : Cx G cX8_findMost RX8 7 p s m args meth c) (hr : meth.sig.returnType = none)   {M1 : Mem} : ∀ (n : Nat) (x1 : Int32) (x3 : Int32) (M : Mem), F_X8_findMost_24  n x1 x3 M = some M1 → ∀ (H : Heap) (locs : List Loc) (ls : Array Slot), WH G M H → va_S (g_A G) s.heap H locs → lv_has ls 7 [(0, .ref (g_ad G 49)), (1, .int x1), (3, .int x3)] → W p l e (RM 3 65) s m args below meth c H locs 0 0 (MQ below (QcV G M1) args s 0 0 (g_A G)) (F0 m 24 ls []) := by
  obtain ⟨hx, hb, hml, hown, hts, hKK, hSS, hlk⟩ := id cx
  intro n
  induction n with
  | zero =>
    intro x1 x3 M hF H locs ls hW hS hl
    rw [F_X8_findMost_24] at hF
    cases hF
  | succ n ih =>
    intro x1 x3 M hF H locs ls hW hS hl
    rw [F_X8_findMost_24] at hF
    refine lv_iload_n hx hb dX8_findMost_24 rfl (lv_at hl 2 rfl) ?_
    refine lv_if_lt (tgt := 146) hx hb dX8_findMost_25 (by decide) (fun c4 => ?_) (fun c4 => ?_)
    · have hF := it_p c4 hF
      exact x_vret cx hr hW hS (Option.some.inj hF) dX8_findMost_146
    · have hF := it_n c4 hF
      refine lv_iload_n hx hb dX8_findMost_28 rfl (lv_at hl 2 rfl) ?_
      obtain ⟨r6, hc5, hF⟩ := bi_e hF
      refine x_goi (x_runS cx hW hS (c_X8_bits (l := l) (G := G) hc5) cs_X8_115 (rest := []) ⟨Nat.le_of_ble_eq_true rfl, Nat.le_of_ble_eq_true rfl⟩ hl.1 rfl rfl (Nat.le_of_ble_eq_true rfl) ⟨Nat.zero_le _, Nat.zero_le _⟩ dX8_findMost_29) hS (fun H locs hW hS => ?_)
      refine lv_istore (lv' := [(4, .int r6), (0, .ref (g_ad G 49)), (1, .int x1), (3, .int x3)]) hx hb dX8_findMost_32 hl (by decide) rfl (fun ls hl => ?_)
      refine lv_aload_n hx hb dX8_findMost_34 rfl (lv_at hl 1 rfl) ?_
      refine x_get cx hW kc_49 fk_X8_31 (v := .ref (g_ad G 57)) rfl dX8_findMost_35 ?_
      refine lv_iload_n hx hb dX8_findMost_38 rfl (lv_at hl 3 rfl) ?_
      refine lv_iconst (v := (-1 : Int32)) hx hb dX8_findMost_39 (by decide) ?_
      obtain ⟨j7, hj7, gj7, hF⟩ := ix_e hF
      obtain ⟨M8, eM8, hF⟩ := pin_e hF
      refine x_iast cx hW hS kc_57 (by decide) hj7 gj7 eM8 dX8_findMost_40 (fun H locs hW hS => ?_)
      refine lv_iconst (v := (0 : Int32)) hx hb dX8_findMost_41 (by decide) ?_
      refine lv_istore (lv' := [(5, .int (0 : Int32)), (4, .int r6), (0, .ref (g_ad G 49)), (1, .int x1), (3, .int x3)]) hx hb dX8_findMost_42 hl (by decide) rfl (fun ls hl => ?_)
      exact t_X8_findMost_44 cx hr ih FU x1 x3 r6 (0 : Int32) M8 hF _ _ _ hW hS (lv_sub hl [2, 3, 4, 1, 0] rfl)
def F_X8_findMost (M : Mem) : Option Mem := ix 51 (2 : Int32) (fun j1 => ix 256 (((1 : Int32) <<< ((m_I M 50 j1) &&& 31)) - (1 : Int32)) (fun j2 => pin (w_I M 57 j2 (0 : Int32)) (fun M3 => F_X8_findMost_24 FU (m_I M 50 j1) ((((1 : Int32) <<< ((m_I M 50 j1) &&& 31)) - (1 : Int32)) - (1 : Int32)) M3)))
set_option maxHeartbeats 4000000 in
set_option maxRecDepth 100000 in
theorem c_X8_findMost {l : Launch} {G : GG}   {M : Mem} {M1 : Mem} (hF : F_X8_findMost M = some M1) : Met l yX8_findMost (wz yX8_findMost cX8_findMost 7 none) (RM 3 65) (PreC G [.ref (g_ad G 49)] M) (QcV G M1) 0 0 (g_A G) := by
  rw [F_X8_findMost] at hF
  refine x_start (by decide) (Nat.le_of_ble_eq_true rfl) (lv := [(0, .ref (g_ad G 49))]) rfl ?_
  intro p e s m below meth c cx hr hW hS ls hl
  obtain ⟨hx, hb, hml, hown, hts, hKK, hSS, hlk⟩ := id cx
  refine lv_aload_n hx hb dX8_findMost_0 rfl (lv_at hl 0 rfl) ?_
  refine x_get cx hW kc_49 fk_X8_7 (v := .ref (g_ad G 50)) rfl dX8_findMost_1 ?_
  refine lv_iconst (v := (2 : Int32)) hx hb dX8_findMost_4 (by decide) ?_
  obtain ⟨j1, hj1, gj1, hF⟩ := ix_e hF
  refine x_iald cx hW kc_50 (by decide) hj1 gj1 dX8_findMost_5 ?_
  refine lv_istore_n (lv' := [(1, .int (m_I M 50 j1)), (0, .ref (g_ad G 49))]) hx hb dX8_findMost_6 rfl hl (by decide) rfl (fun ls hl => ?_)
  refine lv_iconst (v := (1 : Int32)) hx hb dX8_findMost_7 (by decide) ?_
  refine lv_iload_n hx hb dX8_findMost_8 rfl (lv_at hl 0 rfl) ?_
  refine lv_ishl hx hb dX8_findMost_9 ?_
  refine lv_iconst (v := (1 : Int32)) hx hb dX8_findMost_10 (by decide) ?_
  refine lv_isub hx hb dX8_findMost_11 ?_
  refine lv_istore_n (lv' := [(2, .int (((1 : Int32) <<< ((m_I M 50 j1) &&& 31)) - (1 : Int32))), (1, .int (m_I M 50 j1)), (0, .ref (g_ad G 49))]) hx hb dX8_findMost_12 rfl hl (by decide) rfl (fun ls hl => ?_)
  refine lv_aload_n hx hb dX8_findMost_13 rfl (lv_at hl 2 rfl) ?_
  refine x_get cx hW kc_49 fk_X8_31 (v := .ref (g_ad G 57)) rfl dX8_findMost_14 ?_
  refine lv_iload_n hx hb dX8_findMost_17 rfl (lv_at hl 0 rfl) ?_
  refine lv_iconst (v := (0 : Int32)) hx hb dX8_findMost_18 (by decide) ?_
  obtain ⟨j2, hj2, gj2, hF⟩ := ix_e hF
  obtain ⟨M3, eM3, hF⟩ := pin_e hF
  refine x_iast cx hW hS kc_57 (by decide) hj2 gj2 eM3 dX8_findMost_19 (fun H locs hW hS => ?_)
  refine lv_iload_n hx hb dX8_findMost_20 rfl (lv_at hl 0 rfl) ?_
  refine lv_iconst (v := (1 : Int32)) hx hb dX8_findMost_21 (by decide) ?_
  refine lv_isub hx hb dX8_findMost_22 ?_
  refine lv_istore_n (lv' := [(3, .int ((((1 : Int32) <<< ((m_I M 50 j1) &&& 31)) - (1 : Int32)) - (1 : Int32))), (2, .int (((1 : Int32) <<< ((m_I M 50 j1) &&& 31)) - (1 : Int32))), (1, .int (m_I M 50 j1)), (0, .ref (g_ad G 49))]) hx hb dX8_findMost_23 rfl hl (by decide) rfl (fun ls hl => ?_)
  exact t_X8_findMost_24 cx hr FU (m_I M 50 j1) ((((1 : Int32) <<< ((m_I M 50 j1) &&& 31)) - (1 : Int32)) - (1 : Int32)) M3 hF _ _ _ hW hS (lv_sub hl [3, 2, 0] rfl)
def F_X8_most (M : Mem) : Option (Int32 × Mem) := (F_X8_findMost M).bind (fun M2 => ix 256 (0 : Int32) (fun j3 => some ((m_I M2 57 j3), M2)))
set_option maxHeartbeats 4000000 in
set_option maxRecDepth 100000 in
theorem c_X8_most {l : Launch} {G : GG}   {M : Mem} {r : Int32} {M1 : Mem} (hF : F_X8_most M = some (r, M1)) : Met l yX8_most (wz yX8_most cX8_most 1 (some .int)) (RM 4 91) (PreC G [.ref (g_ad G 49)] M) (QcI G r M1) 0 0 (g_A G) := by
  rw [F_X8_most] at hF
  refine x_start (by decide) (Nat.le_of_ble_eq_true rfl) (lv := [(0, .ref (g_ad G 49))]) rfl ?_
  intro p e s m below meth c cx hr hW hS ls hl
  obtain ⟨hx, hb, hml, hown, hts, hKK, hSS, hlk⟩ := id cx
  refine lv_aload_n hx hb dX8_most_0 rfl (lv_at hl 0 rfl) ?_
  obtain ⟨M2, hc1, hF⟩ := bi_e hF
  refine x_gov (x_runV cx hW hS (c_X8_findMost (l := l) (G := G) hc1) cv_X8_166 kc_49 rfl (rest := []) ⟨Nat.le_of_ble_eq_true rfl, Nat.le_of_ble_eq_true rfl⟩ hl.1 rfl rfl (Nat.le_of_ble_eq_true rfl) ⟨Nat.zero_le _, Nat.zero_le _⟩ dX8_most_1) hS (fun H locs hW hS => ?_)
  refine lv_aload_n hx hb dX8_most_4 rfl (lv_at hl 0 rfl) ?_
  refine x_get cx hW kc_49 fk_X8_31 (v := .ref (g_ad G 57)) rfl dX8_most_5 ?_
  refine lv_iconst (v := (0 : Int32)) hx hb dX8_most_8 (by decide) ?_
  obtain ⟨j3, hj3, gj3, hF⟩ := ix_e hF
  refine x_iald cx hW kc_57 (by decide) hj3 gj3 dX8_most_9 ?_
  exact x_iret cx hr hW hS (sp_1 hF) (sp_2 hF) dX8_most_10
def F_X8_slip_34 (a1 : Int32) (k26 : Int32 → Int32 → Int32 → Mem → Option (Int32 × Mem)) : Nat → Int32 → Int32 → Int32 → Mem → Option (Int32 × Mem)
  | 0, _, _, _, _ => none
  | n + 1, x2, x3, x4, M => (if ((x2 >>> (x3 &&& 31)) &&& (1 : Int32)) = (1 : Int32) then F_X8_slip_34 a1 k26 n x2 (x3 + 1) x4 M else (F_X8_areAlike x4 x3 M).bind (fun r9 => (if r9 = 0 then F_X8_slip_34 a1 k26 n x2 (x3 + 1) x4 M else ix 256 (x2 ||| ((1 : Int32) <<< (x3 &&& 31))) (fun j11 => (if (m_I M 57 j11) < 0 then F_X8_slip_34 a1 k26 n x2 (x3 + 1) x4 M else (F_X8_earnsAs x4 x3 M).bind (fun r14 => ix 256 (x2 ||| ((1 : Int32) <<< (x3 &&& 31))) (fun j15 => ix 256 x2 (fun j16 => (if (r14 + (m_I M 57 j15)) = (m_I M 57 j16) then k26 (x2 ||| ((1 : Int32) <<< (x3 &&& 31))) x3 (x4 + 1) M else F_X8_slip_34 a1 k26 n x2 (x3 + 1) x4 M)))))))))
set_option maxHeartbeats 4000000 in
set_option maxRecDepth 100000 in
theorem t_X8_slip_34 {p : Program} {l : Launch} {e : Env} {s : State} {m : MethodId} {args : Array Value} {below : List Frame} {meth : Method} {c : Code} {G : GG} {a1 : Int32} (cx : Cx G cX8_slip RX8 5 p s m args meth c) (hr : meth.sig.returnType = (some .int))   {r : Int32} {M1 : Mem} {k26 : Int32 → Int32 → Int32 → Mem → Option (Int32 × Mem)} (hk26 : ∀ (x2 : Int32) (x3 : Int32) (x4 : Int32) (M : Mem), k26 x2 x3 x4 M = some (r, M1) → ∀ (H : Heap) (locs : List Loc) (ls : Array Slot), WH G M H → va_S (g_A G) s.heap H locs → lv_has ls 5 [(0, .ref (g_ad G 49)), (1, .int a1), (2, .int x2), (3, .int x3), (4, .int x4)] → W p l e (RM 4 91) s m args below meth c H locs 0 0 (MQ below (QcI G r M1) args s 0 0 (g_A G)) (F0 m 26 ls [])) : ∀ (n : Nat) (x2 : Int32) (x3 : Int32) (x4 : Int32) (M : Mem), F_X8_slip_34 a1 k26 n x2 x3 x4 M = some (r, M1) → ∀ (H : Heap) (locs : List Loc) (ls : Array Slot), WH G M H → va_S (g_A G) s.heap H locs → lv_has ls 5 [(0, .ref (g_ad G 49)), (1, .int a1), (2, .int x2), (3, .int x3), (4, .int x4)] → W p l e (RM 4 91) s m args below meth c H locs 0 0 (MQ below (QcI G r M1) args s 0 0 (g_A G)) (F0 m 34 ls []) := by
  obtain ⟨hx, hb, hml, hown, hts, hKK, hSS, hlk⟩ := id cx
  intro n
  induction n with
  | zero =>
    intro x2 x3 x4 M hF H locs ls hW hS hl
    rw [F_X8_slip_34] at hF
    cases hF
  | succ n ih =>
    intro x2 x3 x4 M hF H locs ls hW hS hl
    rw [F_X8_slip_34] at hF
    refine lv_iload_n hx hb dX8_slip_34 rfl (lv_at hl 2 rfl) ?_
    refine lv_iload_n hx hb dX8_slip_35 rfl (lv_at hl 3 rfl) ?_
    refine lv_ishr hx hb dX8_slip_36 ?_
    refine lv_iconst (v := (1 : Int32)) hx hb dX8_slip_37 (by decide) ?_
    refine lv_iand hx hb dX8_slip_38 ?_
    refine lv_iconst (v := (1 : Int32)) hx hb dX8_slip_39 (by decide) ?_
    refine lv_icmp_eq (tgt := 93) hx hb dX8_slip_40 (by decide) (fun c7 => ?_) (fun c7 => ?_)
    · have hF := it_p c7 hF
      refine lv_iinc (v := (x3 + 1)) (lv' := [(3, .int (x3 + 1)), (0, .ref (g_ad G 49)), (1, .int a1), (2, .int x2), (4, .int x4)]) hx hb dX8_slip_93 hl (k := 3) rfl rfl (by decide) rfl (fun ls hl => ?_)
      refine lv_goto (tgt := 34) hx hb dX8_slip_96 (by decide) ?_
      exact ih x2 (x3 + 1) x4 M hF _ _ _ hW hS (lv_sub hl [1, 2, 3, 0, 4] rfl)
    · have hF := it_n c7 hF
      refine lv_aload_n hx hb dX8_slip_43 rfl (lv_at hl 0 rfl) ?_
      refine lv_iload hx hb dX8_slip_44 (lv_at hl 4 rfl) ?_
      refine lv_iload_n hx hb dX8_slip_46 rfl (lv_at hl 3 rfl) ?_
      obtain ⟨r9, hc8, hF⟩ := bi_e hF
      refine x_goi (x_runV cx hW hS (c_X8_areAlike (l := l) (G := G) hc8) cv_X8_102 kc_49 rfl (rest := []) ⟨Nat.le_of_ble_eq_true rfl, Nat.le_of_ble_eq_true rfl⟩ hl.1 rfl rfl (Nat.le_of_ble_eq_true rfl) ⟨Nat.zero_le _, Nat.zero_le _⟩ dX8_slip_47) hS (fun H locs hW hS => ?_)
      refine lv_if_eq (tgt := 93) hx hb dX8_slip_50 (by decide) (fun c10 => ?_) (fun c10 => ?_)
      · have hF := it_p c10 hF
        refine lv_iinc (v := (x3 + 1)) (lv' := [(3, .int (x3 + 1)), (0, .ref (g_ad G 49)), (1, .int a1), (2, .int x2), (4, .int x4)]) hx hb dX8_slip_93 hl (k := 3) rfl rfl (by decide) rfl (fun ls hl => ?_)
        refine lv_goto (tgt := 34) hx hb dX8_slip_96 (by decide) ?_
        exact ih x2 (x3 + 1) x4 M hF _ _ _ hW hS (lv_sub hl [1, 2, 3, 0, 4] rfl)
      · have hF := it_n c10 hF
        refine lv_aload_n hx hb dX8_slip_53 rfl (lv_at hl 0 rfl) ?_
        refine x_get cx hW kc_49 fk_X8_31 (v := .ref (g_ad G 57)) rfl dX8_slip_54 ?_
        refine lv_iload_n hx hb dX8_slip_57 rfl (lv_at hl 2 rfl) ?_
        refine lv_iconst (v := (1 : Int32)) hx hb dX8_slip_58 (by decide) ?_
        refine lv_iload_n hx hb dX8_slip_59 rfl (lv_at hl 3 rfl) ?_
        refine lv_ishl hx hb dX8_slip_60 ?_
        refine lv_ior hx hb dX8_slip_61 ?_
        obtain ⟨j11, hj11, gj11, hF⟩ := ix_e hF
        refine x_iald cx hW kc_57 (by decide) hj11 gj11 dX8_slip_62 ?_
        refine lv_if_lt (tgt := 93) hx hb dX8_slip_63 (by decide) (fun c12 => ?_) (fun c12 => ?_)
        · have hF := it_p c12 hF
          refine lv_iinc (v := (x3 + 1)) (lv' := [(3, .int (x3 + 1)), (0, .ref (g_ad G 49)), (1, .int a1), (2, .int x2), (4, .int x4)]) hx hb dX8_slip_93 hl (k := 3) rfl rfl (by decide) rfl (fun ls hl => ?_)
          refine lv_goto (tgt := 34) hx hb dX8_slip_96 (by decide) ?_
          exact ih x2 (x3 + 1) x4 M hF _ _ _ hW hS (lv_sub hl [1, 2, 3, 0, 4] rfl)
        · have hF := it_n c12 hF
          refine lv_aload_n hx hb dX8_slip_66 rfl (lv_at hl 0 rfl) ?_
          refine lv_iload hx hb dX8_slip_67 (lv_at hl 4 rfl) ?_
          refine lv_iload_n hx hb dX8_slip_69 rfl (lv_at hl 3 rfl) ?_
          obtain ⟨r14, hc13, hF⟩ := bi_e hF
          refine x_goi (x_runV cx hW hS (c_X8_earnsAs (l := l) (G := G) hc13) cv_X8_69 kc_49 rfl (rest := []) ⟨Nat.le_of_ble_eq_true rfl, Nat.le_of_ble_eq_true rfl⟩ hl.1 rfl rfl (Nat.le_of_ble_eq_true rfl) ⟨Nat.zero_le _, Nat.zero_le _⟩ dX8_slip_70) hS (fun H locs hW hS => ?_)
          refine lv_aload_n hx hb dX8_slip_73 rfl (lv_at hl 0 rfl) ?_
          refine x_get cx hW kc_49 fk_X8_31 (v := .ref (g_ad G 57)) rfl dX8_slip_74 ?_
          refine lv_iload_n hx hb dX8_slip_77 rfl (lv_at hl 2 rfl) ?_
          refine lv_iconst (v := (1 : Int32)) hx hb dX8_slip_78 (by decide) ?_
          refine lv_iload_n hx hb dX8_slip_79 rfl (lv_at hl 3 rfl) ?_
          refine lv_ishl hx hb dX8_slip_80 ?_
          refine lv_ior hx hb dX8_slip_81 ?_
          obtain ⟨j15, hj15, gj15, hF⟩ := ix_e hF
          refine x_iald cx hW kc_57 (by decide) hj15 gj15 dX8_slip_82 ?_
          refine lv_iadd hx hb dX8_slip_83 ?_
          refine lv_aload_n hx hb dX8_slip_84 rfl (lv_at hl 0 rfl) ?_
          refine x_get cx hW kc_49 fk_X8_31 (v := .ref (g_ad G 57)) rfl dX8_slip_85 ?_
          refine lv_iload_n hx hb dX8_slip_88 rfl (lv_at hl 2 rfl) ?_
          obtain ⟨j16, hj16, gj16, hF⟩ := ix_e hF
          refine x_iald cx hW kc_57 (by decide) hj16 gj16 dX8_slip_89 ?_
          refine lv_icmp_eq (tgt := 99) hx hb dX8_slip_90 (by decide) (fun c17 => ?_) (fun c17 => ?_)
          · have hF := it_p c17 hF
            refine lv_iload_n hx hb dX8_slip_99 rfl (lv_at hl 2 rfl) ?_
            refine lv_iconst (v := (1 : Int32)) hx hb dX8_slip_100 (by decide) ?_
            refine lv_iload_n hx hb dX8_slip_101 rfl (lv_at hl 3 rfl) ?_
            refine lv_ishl hx hb dX8_slip_102 ?_
            refine lv_ior hx hb dX8_slip_103 ?_
            refine lv_istore_n (lv' := [(2, .int (x2 ||| ((1 : Int32) <<< (x3 &&& 31)))), (0, .ref (g_ad G 49)), (1, .int a1), (3, .int x3), (4, .int x4)]) hx hb dX8_slip_104 rfl hl (by decide) rfl (fun ls hl => ?_)
            refine lv_iinc (v := (x4 + 1)) (lv' := [(4, .int (x4 + 1)), (2, .int (x2 ||| ((1 : Int32) <<< (x3 &&& 31)))), (0, .ref (g_ad G 49)), (1, .int a1), (3, .int x3)]) hx hb dX8_slip_105 hl (k := 4) rfl rfl (by decide) rfl (fun ls hl => ?_)
            refine lv_goto (tgt := 26) hx hb dX8_slip_108 (by decide) ?_
            exact hk26 (x2 ||| ((1 : Int32) <<< (x3 &&& 31))) x3 (x4 + 1) M hF _ _ _ hW hS (lv_sub hl [2, 3, 1, 4, 0] rfl)
          · have hF := it_n c17 hF
            refine lv_iinc (v := (x3 + 1)) (lv' := [(3, .int (x3 + 1)), (0, .ref (g_ad G 49)), (1, .int a1), (2, .int x2), (4, .int x4)]) hx hb dX8_slip_93 hl (k := 3) rfl rfl (by decide) rfl (fun ls hl => ?_)
            refine lv_goto (tgt := 34) hx hb dX8_slip_96 (by decide) ?_
            exact ih x2 (x3 + 1) x4 M hF _ _ _ hW hS (lv_sub hl [1, 2, 3, 0, 4] rfl)
def F_X8_slip_26 (a1 : Int32) : Nat → Int32 → Int32 → Int32 → Mem → Option (Int32 × Mem)
  | 0, _, _, _, _ => none
  | n + 1, x2, x3, x4, M => (if a1 < x4 then some (x3, M) else F_X8_slip_34 a1 (F_X8_slip_26 a1 n) FU x2 (0 : Int32) x4 M)
set_option maxHeartbeats 4000000 in
set_option maxRecDepth 100000 in
theorem t_X8_slip_26 {p : Program} {l : Launch} {e : Env} {s : State} {m : MethodId} {args : Array Value} {below : List Frame} {meth : Method} {c : Code} {G : GG} {a1 : Int32} (cx : Cx G cX8_slip RX8 5 p s m args meth c) (hr : meth.sig.returnType = (some .int))   {r : Int32} {M1 : Mem} : ∀ (n : Nat) (x2 : Int32) (x3 : Int32) (x4 : Int32) (M : Mem), F_X8_slip_26 a1 n x2 x3 x4 M = some (r, M1) → ∀ (H : Heap) (locs : List Loc) (ls : Array Slot), WH G M H → va_S (g_A G) s.heap H locs → lv_has ls 5 [(0, .ref (g_ad G 49)), (1, .int a1), (2, .int x2), (3, .int x3), (4, .int x4)] → W p l e (RM 4 91) s m args below meth c H locs 0 0 (MQ below (QcI G r M1) args s 0 0 (g_A G)) (F0 m 26 ls []) := by
  obtain ⟨hx, hb, hml, hown, hts, hKK, hSS, hlk⟩ := id cx
  intro n
  induction n with
  | zero =>
    intro x2 x3 x4 M hF H locs ls hW hS hl
    rw [F_X8_slip_26] at hF
    cases hF
  | succ n ih =>
    intro x2 x3 x4 M hF H locs ls hW hS hl
    rw [F_X8_slip_26] at hF
    refine lv_iload hx hb dX8_slip_26 (lv_at hl 4 rfl) ?_
    refine lv_iload_n hx hb dX8_slip_28 rfl (lv_at hl 1 rfl) ?_
    refine lv_icmp_gt (tgt := 111) hx hb dX8_slip_29 (by decide) (fun c6 => ?_) (fun c6 => ?_)
    · have hF := it_p c6 hF
      refine lv_iload_n hx hb dX8_slip_111 rfl (lv_at hl 3 rfl) ?_
      exact x_iret cx hr hW hS (sp_1 hF) (sp_2 hF) dX8_slip_112
    · have hF := it_n c6 hF
      refine lv_iconst (v := (0 : Int32)) hx hb dX8_slip_32 (by decide) ?_
      refine lv_istore_n (lv' := [(3, .int (0 : Int32)), (0, .ref (g_ad G 49)), (1, .int a1), (2, .int x2), (4, .int x4)]) hx hb dX8_slip_33 rfl hl (by decide) rfl (fun ls hl => ?_)
      exact t_X8_slip_34 cx hr ih FU x2 (0 : Int32) x4 M hF _ _ _ hW hS (lv_sub hl [1, 2, 3, 0, 4] rfl)
def F_X8_slip (a1 : Int32) (M : Mem) : Option (Int32 × Mem) := (F_X8_isOne a1 M).bind (fun r2 => (if r2 = 0 then bn (F_X8_finds (-1000000001 : Int32) M) (fun r19 M20 => some (r19, M20)) else (F_X8_findMost M).bind (fun M5 => F_X8_slip_26 a1 FU (0 : Int32) (0 : Int32) (0 : Int32) M5)))
set_option maxHeartbeats 4000000 in
set_option maxRecDepth 100000 in
theorem c_X8_slip {l : Launch} {G : GG} {a1 : Int32}  {M : Mem} {r : Int32} {M1 : Mem} (hF : F_X8_slip a1 M = some (r, M1)) : Met l yX8_slip (wz yX8_slip cX8_slip 5 (some .int)) (RM 4 91) (PreC G [.ref (g_ad G 49), .int a1] M) (QcI G r M1) 0 0 (g_A G) := by
  rw [F_X8_slip] at hF
  refine x_start (by decide) (Nat.le_of_ble_eq_true rfl) (lv := [(0, .ref (g_ad G 49)), (1, .int a1)]) rfl ?_
  intro p e s m below meth c cx hr hW hS ls hl
  obtain ⟨hx, hb, hml, hown, hts, hKK, hSS, hlk⟩ := id cx
  refine lv_aload_n hx hb dX8_slip_0 rfl (lv_at hl 0 rfl) ?_
  refine lv_iload_n hx hb dX8_slip_1 rfl (lv_at hl 1 rfl) ?_
  obtain ⟨r2, hc1, hF⟩ := bi_e hF
  refine x_goi (x_runV cx hW hS (c_X8_isOne (l := l) (G := G) hc1) cv_X8_91 kc_49 rfl (rest := []) ⟨Nat.le_of_ble_eq_true rfl, Nat.le_of_ble_eq_true rfl⟩ hl.1 rfl rfl (Nat.le_of_ble_eq_true rfl) ⟨Nat.zero_le _, Nat.zero_le _⟩ dX8_slip_2) hS (fun H locs hW hS => ?_)
  refine lv_if_ne (tgt := 15) hx hb dX8_slip_5 (by decide) (fun c3 => ?_) (fun c3 => ?_)
  · have hF := it_n c3 hF
    refine lv_aload_n hx hb dX8_slip_15 rfl (lv_at hl 0 rfl) ?_
    obtain ⟨M5, hc4, hF⟩ := bi_e hF
    refine x_gov (x_runV cx hW hS (c_X8_findMost (l := l) (G := G) hc4) cv_X8_166 kc_49 rfl (rest := []) ⟨Nat.le_of_ble_eq_true rfl, Nat.le_of_ble_eq_true rfl⟩ hl.1 rfl rfl (Nat.le_of_ble_eq_true rfl) ⟨Nat.zero_le _, Nat.zero_le _⟩ dX8_slip_16) hS (fun H locs hW hS => ?_)
    refine lv_iconst (v := (0 : Int32)) hx hb dX8_slip_19 (by decide) ?_
    refine lv_istore_n (lv' := [(2, .int (0 : Int32)), (0, .ref (g_ad G 49)), (1, .int a1)]) hx hb dX8_slip_20 rfl hl (by decide) rfl (fun ls hl => ?_)
    refine lv_iconst (v := (0 : Int32)) hx hb dX8_slip_21 (by decide) ?_
    refine lv_istore_n (lv' := [(3, .int (0 : Int32)), (2, .int (0 : Int32)), (0, .ref (g_ad G 49)), (1, .int a1)]) hx hb dX8_slip_22 rfl hl (by decide) rfl (fun ls hl => ?_)
    refine lv_iconst (v := (0 : Int32)) hx hb dX8_slip_23 (by decide) ?_
    refine lv_istore (lv' := [(4, .int (0 : Int32)), (3, .int (0 : Int32)), (2, .int (0 : Int32)), (0, .ref (g_ad G 49)), (1, .int a1)]) hx hb dX8_slip_24 hl (by decide) rfl (fun ls hl => ?_)
    exact t_X8_slip_26 cx hr FU (0 : Int32) (0 : Int32) (0 : Int32) M5 hF _ _ _ hW hS (lv_sub hl [3, 4, 2, 1, 0] rfl)
  · have hF := it_p c3 hF
    refine lv_aload_n hx hb dX8_slip_8 rfl (lv_at hl 0 rfl) ?_
    refine x_ldc cx q_k_X8_56 dX8_slip_9 ?_
    obtain ⟨r19, M20, hc18, hF⟩ := bn_e hF
    refine x_goi (x_runV cx hW hS (c_X8_finds (l := l) (G := G) hc18) cv_X8_83 kc_49 rfl (rest := []) ⟨Nat.le_of_ble_eq_true rfl, Nat.le_of_ble_eq_true rfl⟩ hl.1 rfl rfl (Nat.le_of_ble_eq_true rfl) ⟨Nat.zero_le _, Nat.zero_le _⟩ dX8_slip_11) hS (fun H locs hW hS => ?_)
    exact x_iret cx hr hW hS (sp_1 hF) (sp_2 hF) dX8_slip_14
def F_X8_better_24  (k9 : Int32 → Int32 → Int32 → Mem → Option (Int32 × Mem)) : Nat → Int32 → Int32 → Int32 → Int32 → Mem → Option (Int32 × Mem)
  | 0, _, _, _, _, _ => none
  | n + 1, x1, x2, x3, x4, M => ix 51 (2 : Int32) (fun j9 => (if (m_I M 50 j9) ≤ x4 then k9 x1 x2 (x3 + 1) M else (F_X8_areAlike x3 x4 M).bind (fun r12 => (if r12 = 0 then F_X8_better_24 k9 n x1 x2 x3 (x4 + 1) M else (F_X8_swaps x3 x4 M).bind (fun M15 => (F_X8_earnAll M15).bind (fun r17 => (F_X8_swaps x3 x4 M15).bind (fun M19 => (if r17 ≤ x1 then (if r17 ≤ x1 then F_X8_better_24 k9 n x1 x2 x3 (x4 + 1) M19 else F_X8_better_24 k9 n r17 x2 x3 (x4 + 1) M19) else (if r17 ≤ x1 then F_X8_better_24 k9 n x1 (((10 : Int32) * x3) + x4) x3 (x4 + 1) M19 else F_X8_better_24 k9 n r17 (((10 : Int32) * x3) + x4) x3 (x4 + 1) M19)))))))))
set_option maxHeartbeats 4000000 in
set_option maxRecDepth 100000 in
theorem t_X8_better_24 {p : Program} {l : Launch} {e : Env} {s : State} {m : MethodId} {args : Array Value} {below : List Frame} {meth : Method} {c : Code} {G : GG}  (cx : Cx G cX8_better RX8 6 p s m args meth c) (hr : meth.sig.returnType = (some .int))   {r : Int32} {M1 : Mem} {k9 : Int32 → Int32 → Int32 → Mem → Option (Int32 × Mem)} (hk9 : ∀ (x1 : Int32) (x2 : Int32) (x3 : Int32) (M : Mem), k9 x1 x2 x3 M = some (r, M1) → ∀ (H : Heap) (locs : List Loc) (ls : Array Slot), WH G M H → va_S (g_A G) s.heap H locs → lv_has ls 6 [(0, .ref (g_ad G 49)), (1, .int x1), (2, .int x2), (3, .int x3)] → W p l e (RM 4 90) s m args below meth c H locs 0 0 (MQ below (QcI G r M1) args s 0 0 (g_A G)) (F0 m 9 ls [])) : ∀ (n : Nat) (x1 : Int32) (x2 : Int32) (x3 : Int32) (x4 : Int32) (M : Mem), F_X8_better_24  k9 n x1 x2 x3 x4 M = some (r, M1) → ∀ (H : Heap) (locs : List Loc) (ls : Array Slot), WH G M H → va_S (g_A G) s.heap H locs → lv_has ls 6 [(0, .ref (g_ad G 49)), (1, .int x1), (2, .int x2), (3, .int x3), (4, .int x4)] → W p l e (RM 4 90) s m args below meth c H locs 0 0 (MQ below (QcI G r M1) args s 0 0 (g_A G)) (F0 m 24 ls []) := by
  obtain ⟨hx, hb, hml, hown, hts, hKK, hSS, hlk⟩ := id cx
  intro n
  induction n with
  | zero =>
    intro x1 x2 x3 x4 M hF H locs ls hW hS hl
    rw [F_X8_better_24] at hF
    cases hF
  | succ n ih =>
    intro x1 x2 x3 x4 M hF H locs ls hW hS hl
    rw [F_X8_better_24] at hF
    refine lv_iload hx hb dX8_better_24 (lv_at hl 4 rfl) ?_
    refine lv_aload_n hx hb dX8_better_26 rfl (lv_at hl 0 rfl) ?_
    refine x_get cx hW kc_49 fk_X8_7 (v := .ref (g_ad G 50)) rfl dX8_better_27 ?_
    refine lv_iconst (v := (2 : Int32)) hx hb dX8_better_30 (by decide) ?_
    obtain ⟨j9, hj9, gj9, hF⟩ := ix_e hF
    refine x_iald cx hW kc_50 (by decide) hj9 gj9 dX8_better_31 ?_
    refine lv_icmp_ge (tgt := 102) hx hb dX8_better_32 (by decide) (fun c10 => ?_) (fun c10 => ?_)
    · have hF := it_p c10 hF
      refine lv_iinc (v := (x3 + 1)) (lv' := [(3, .int (x3 + 1)), (0, .ref (g_ad G 49)), (1, .int x1), (2, .int x2), (4, .int x4)]) hx hb dX8_better_102 hl (k := 3) rfl rfl (by decide) rfl (fun ls hl => ?_)
      refine lv_goto (tgt := 9) hx hb dX8_better_105 (by decide) ?_
      exact hk9 x1 x2 (x3 + 1) M hF _ _ _ hW hS (lv_sub hl [1, 2, 3, 0] rfl)
    · have hF := it_n c10 hF
      refine lv_aload_n hx hb dX8_better_35 rfl (lv_at hl 0 rfl) ?_
      refine lv_iload_n hx hb dX8_better_36 rfl (lv_at hl 3 rfl) ?_
      refine lv_iload hx hb dX8_better_37 (lv_at hl 4 rfl) ?_
      obtain ⟨r12, hc11, hF⟩ := bi_e hF
      refine x_goi (x_runV cx hW hS (c_X8_areAlike (l := l) (G := G) hc11) cv_X8_102 kc_49 rfl (rest := []) ⟨Nat.le_of_ble_eq_true rfl, Nat.le_of_ble_eq_true rfl⟩ hl.1 rfl rfl (Nat.le_of_ble_eq_true rfl) ⟨Nat.zero_le _, Nat.zero_le _⟩ dX8_better_39) hS (fun H locs hW hS => ?_)
      refine lv_if_eq (tgt := 96) hx hb dX8_better_42 (by decide) (fun c13 => ?_) (fun c13 => ?_)
      · have hF := it_p c13 hF
        refine lv_iinc (v := (x4 + 1)) (lv' := [(4, .int (x4 + 1)), (0, .ref (g_ad G 49)), (1, .int x1), (2, .int x2), (3, .int x3)]) hx hb dX8_better_96 hl (k := 4) rfl rfl (by decide) rfl (fun ls hl => ?_)
        refine lv_goto (tgt := 24) hx hb dX8_better_99 (by decide) ?_
        exact ih x1 x2 x3 (x4 + 1) M hF _ _ _ hW hS (lv_sub hl [1, 2, 3, 4, 0] rfl)
      · have hF := it_n c13 hF
        refine lv_aload_n hx hb dX8_better_45 rfl (lv_at hl 0 rfl) ?_
        refine lv_iload_n hx hb dX8_better_46 rfl (lv_at hl 3 rfl) ?_
        refine lv_iload hx hb dX8_better_47 (lv_at hl 4 rfl) ?_
        obtain ⟨M15, hc14, hF⟩ := bi_e hF
        refine x_gov (x_runV cx hW hS (c_X8_swaps (l := l) (G := G) hc14) cv_X8_107 kc_49 rfl (rest := []) ⟨Nat.le_of_ble_eq_true rfl, Nat.le_of_ble_eq_true rfl⟩ hl.1 rfl rfl (Nat.le_of_ble_eq_true rfl) ⟨Nat.zero_le _, Nat.zero_le _⟩ dX8_better_49) hS (fun H locs hW hS => ?_)
        refine lv_aload_n hx hb dX8_better_52 rfl (lv_at hl 0 rfl) ?_
        obtain ⟨r17, hc16, hF⟩ := bi_e hF
        refine x_goi (x_runV cx hW hS (c_X8_earnAll (l := l) (G := G) hc16) cv_X8_148 kc_49 rfl (rest := []) ⟨Nat.le_of_ble_eq_true rfl, Nat.le_of_ble_eq_true rfl⟩ hl.1 rfl rfl (Nat.le_of_ble_eq_true rfl) ⟨Nat.zero_le _, Nat.zero_le _⟩ dX8_better_53) hS (fun H locs hW hS => ?_)
        refine lv_istore (lv' := [(5, .int r17), (0, .ref (g_ad G 49)), (1, .int x1), (2, .int x2), (3, .int x3), (4, .int x4)]) hx hb dX8_better_56 hl (by decide) rfl (fun ls hl => ?_)
        refine lv_aload_n hx hb dX8_better_58 rfl (lv_at hl 1 rfl) ?_
        refine lv_iload_n hx hb dX8_better_59 rfl (lv_at hl 4 rfl) ?_
        refine lv_iload hx hb dX8_better_60 (lv_at hl 5 rfl) ?_
        obtain ⟨M19, hc18, hF⟩ := bi_e hF
        refine x_gov (x_runV cx hW hS (c_X8_swaps (l := l) (G := G) hc18) cv_X8_107 kc_49 rfl (rest := []) ⟨Nat.le_of_ble_eq_true rfl, Nat.le_of_ble_eq_true rfl⟩ hl.1 rfl rfl (Nat.le_of_ble_eq_true rfl) ⟨Nat.zero_le _, Nat.zero_le _⟩ dX8_better_62) hS (fun H locs hW hS => ?_)
        refine lv_iload hx hb dX8_better_65 (lv_at hl 0 rfl) ?_
        refine lv_iload_n hx hb dX8_better_67 rfl (lv_at hl 2 rfl) ?_
        refine lv_icmp_le (tgt := 81) hx hb dX8_better_68 (by decide) (fun c20 => ?_) (fun c20 => ?_)
        · have hF := it_p c20 hF
          refine lv_iload_n hx hb dX8_better_81 rfl (lv_at hl 3 rfl) ?_
          refine lv_istore_n (lv' := [(2, .int x2), (5, .int r17), (0, .ref (g_ad G 49)), (1, .int x1), (3, .int x3), (4, .int x4)]) hx hb dX8_better_82 rfl hl (by decide) rfl (fun ls hl => ?_)
          refine lv_iload hx hb dX8_better_83 (lv_at hl 1 rfl) ?_
          refine lv_iload_n hx hb dX8_better_85 rfl (lv_at hl 3 rfl) ?_
          refine lv_icmp_le (tgt := 94) hx hb dX8_better_86 (by decide) (fun c21 => ?_) (fun c21 => ?_)
          · have hF := it_p c21 hF
            refine lv_iload_n hx hb dX8_better_94 rfl (lv_at hl 3 rfl) ?_
            refine lv_istore_n (lv' := [(1, .int x1), (2, .int x2), (5, .int r17), (0, .ref (g_ad G 49)), (3, .int x3), (4, .int x4)]) hx hb dX8_better_95 rfl hl (by decide) rfl (fun ls hl => ?_)
            refine lv_iinc (v := (x4 + 1)) (lv' := [(4, .int (x4 + 1)), (1, .int x1), (2, .int x2), (5, .int r17), (0, .ref (g_ad G 49)), (3, .int x3)]) hx hb dX8_better_96 hl (k := 5) rfl rfl (by decide) rfl (fun ls hl => ?_)
            refine lv_goto (tgt := 24) hx hb dX8_better_99 (by decide) ?_
            exact ih x1 x2 x3 (x4 + 1) M19 hF _ _ _ hW hS (lv_sub hl [4, 1, 2, 5, 0] rfl)
          · have hF := it_n c21 hF
            refine lv_iload hx hb dX8_better_89 (lv_at hl 1 rfl) ?_
            refine lv_goto (tgt := 95) hx hb dX8_better_91 (by decide) ?_
            refine lv_istore_n (lv' := [(1, .int r17), (2, .int x2), (5, .int r17), (0, .ref (g_ad G 49)), (3, .int x3), (4, .int x4)]) hx hb dX8_better_95 rfl hl (by decide) rfl (fun ls hl => ?_)
            refine lv_iinc (v := (x4 + 1)) (lv' := [(4, .int (x4 + 1)), (1, .int r17), (2, .int x2), (5, .int r17), (0, .ref (g_ad G 49)), (3, .int x3)]) hx hb dX8_better_96 hl (k := 5) rfl rfl (by decide) rfl (fun ls hl => ?_)
            refine lv_goto (tgt := 24) hx hb dX8_better_99 (by decide) ?_
            exact ih r17 x2 x3 (x4 + 1) M19 hF _ _ _ hW hS (lv_sub hl [4, 1, 2, 5, 0] rfl)
        · have hF := it_n c20 hF
          refine lv_bipush (v := (10 : Int32)) hx hb dX8_better_71 (by decide) ?_
          refine lv_iload_n hx hb dX8_better_73 rfl (lv_at hl 4 rfl) ?_
          refine lv_imul hx hb dX8_better_74 ?_
          refine lv_iload hx hb dX8_better_75 (lv_at hl 5 rfl) ?_
          refine lv_iadd hx hb dX8_better_77 ?_
          refine lv_goto (tgt := 82) hx hb dX8_better_78 (by decide) ?_
          refine lv_istore_n (lv' := [(2, .int (((10 : Int32) * x3) + x4)), (5, .int r17), (0, .ref (g_ad G 49)), (1, .int x1), (3, .int x3), (4, .int x4)]) hx hb dX8_better_82 rfl hl (by decide) rfl (fun ls hl => ?_)
          refine lv_iload hx hb dX8_better_83 (lv_at hl 1 rfl) ?_
          refine lv_iload_n hx hb dX8_better_85 rfl (lv_at hl 3 rfl) ?_
          refine lv_icmp_le (tgt := 94) hx hb dX8_better_86 (by decide) (fun c22 => ?_) (fun c22 => ?_)
          · have hF := it_p c22 hF
            refine lv_iload_n hx hb dX8_better_94 rfl (lv_at hl 3 rfl) ?_
            refine lv_istore_n (lv' := [(1, .int x1), (2, .int (((10 : Int32) * x3) + x4)), (5, .int r17), (0, .ref (g_ad G 49)), (3, .int x3), (4, .int x4)]) hx hb dX8_better_95 rfl hl (by decide) rfl (fun ls hl => ?_)
            refine lv_iinc (v := (x4 + 1)) (lv' := [(4, .int (x4 + 1)), (1, .int x1), (2, .int (((10 : Int32) * x3) + x4)), (5, .int r17), (0, .ref (g_ad G 49)), (3, .int x3)]) hx hb dX8_better_96 hl (k := 5) rfl rfl (by decide) rfl (fun ls hl => ?_)
            refine lv_goto (tgt := 24) hx hb dX8_better_99 (by decide) ?_
            exact ih x1 (((10 : Int32) * x3) + x4) x3 (x4 + 1) M19 hF _ _ _ hW hS (lv_sub hl [4, 1, 2, 5, 0] rfl)
          · have hF := it_n c22 hF
            refine lv_iload hx hb dX8_better_89 (lv_at hl 1 rfl) ?_
            refine lv_goto (tgt := 95) hx hb dX8_better_91 (by decide) ?_
            refine lv_istore_n (lv' := [(1, .int r17), (2, .int (((10 : Int32) * x3) + x4)), (5, .int r17), (0, .ref (g_ad G 49)), (3, .int x3), (4, .int x4)]) hx hb dX8_better_95 rfl hl (by decide) rfl (fun ls hl => ?_)
            refine lv_iinc (v := (x4 + 1)) (lv' := [(4, .int (x4 + 1)), (1, .int r17), (2, .int (((10 : Int32) * x3) + x4)), (5, .int r17), (0, .ref (g_ad G 49)), (3, .int x3)]) hx hb dX8_better_96 hl (k := 5) rfl rfl (by decide) rfl (fun ls hl => ?_)
            refine lv_goto (tgt := 24) hx hb dX8_better_99 (by decide) ?_
            exact ih r17 (((10 : Int32) * x3) + x4) x3 (x4 + 1) M19 hF _ _ _ hW hS (lv_sub hl [4, 1, 2, 5, 0] rfl)
def F_X8_better_9  : Nat → Int32 → Int32 → Int32 → Mem → Option (Int32 × Mem)
  | 0, _, _, _, _ => none
  | n + 1, x1, x2, x3, M => ix 51 (2 : Int32) (fun j3 => (if (m_I M 50 j3) ≤ x3 then (if 0 ≤ x2 then some (x2, M) else bn (F_X8_finds (-1000000004 : Int32) M) (fun r7 M8 => some (r7, M8))) else F_X8_better_24 (F_X8_better_9 n) FU x1 x2 x3 (x3 + (1 : Int32)) M))
set_option maxHeartbeats 4000000 in
set_option maxRecDepth 100000 in
theorem t_X8_better_9 {p : Program} {l : Launch} {e : Env} {s : State} {m : MethodId} {args : Array Value} {below : List Frame} {meth : Method} {c : Code} {G : GG}  (cx : Cx G cX8_better RX8 6 p s m args meth c) (hr : meth.sig.returnType = (some .int))   {r : Int32} {M1 : Mem} : ∀ (n : Nat) (x1 : Int32) (x2 : Int32) (x3 : Int32) (M : Mem), F_X8_better_9  n x1 x2 x3 M = some (r, M1) → ∀ (H : Heap) (locs : List Loc) (ls : Array Slot), WH G M H → va_S (g_A G) s.heap H locs → lv_has ls 6 [(0, .ref (g_ad G 49)), (1, .int x1), (2, .int x2), (3, .int x3)] → W p l e (RM 4 90) s m args below meth c H locs 0 0 (MQ below (QcI G r M1) args s 0 0 (g_A G)) (F0 m 9 ls []) := by
  obtain ⟨hx, hb, hml, hown, hts, hKK, hSS, hlk⟩ := id cx
  intro n
  induction n with
  | zero =>
    intro x1 x2 x3 M hF H locs ls hW hS hl
    rw [F_X8_better_9] at hF
    cases hF
  | succ n ih =>
    intro x1 x2 x3 M hF H locs ls hW hS hl
    rw [F_X8_better_9] at hF
    refine lv_iload_n hx hb dX8_better_9 rfl (lv_at hl 3 rfl) ?_
    refine lv_aload_n hx hb dX8_better_10 rfl (lv_at hl 0 rfl) ?_
    refine x_get cx hW kc_49 fk_X8_7 (v := .ref (g_ad G 50)) rfl dX8_better_11 ?_
    refine lv_iconst (v := (2 : Int32)) hx hb dX8_better_14 (by decide) ?_
    obtain ⟨j3, hj3, gj3, hF⟩ := ix_e hF
    refine x_iald cx hW kc_50 (by decide) hj3 gj3 dX8_better_15 ?_
    refine lv_icmp_ge (tgt := 108) hx hb dX8_better_16 (by decide) (fun c4 => ?_) (fun c4 => ?_)
    · have hF := it_p c4 hF
      refine lv_iload_n hx hb dX8_better_108 rfl (lv_at hl 2 rfl) ?_
      refine lv_if_ge (tgt := 121) hx hb dX8_better_109 (by decide) (fun c5 => ?_) (fun c5 => ?_)
      · have hF := it_p c5 hF
        refine lv_iload_n hx hb dX8_better_121 rfl (lv_at hl 2 rfl) ?_
        exact x_iret cx hr hW hS (sp_1 hF) (sp_2 hF) dX8_better_122
      · have hF := it_n c5 hF
        refine lv_aload_n hx hb dX8_better_112 rfl (lv_at hl 0 rfl) ?_
        refine x_ldc cx q_k_X8_165 dX8_better_113 ?_
        obtain ⟨r7, M8, hc6, hF⟩ := bn_e hF
        refine x_goi (x_runV cx hW hS (c_X8_finds (l := l) (G := G) hc6) cv_X8_83 kc_49 rfl (rest := []) ⟨Nat.le_of_ble_eq_true rfl, Nat.le_of_ble_eq_true rfl⟩ hl.1 rfl rfl (Nat.le_of_ble_eq_true rfl) ⟨Nat.zero_le _, Nat.zero_le _⟩ dX8_better_115) hS (fun H locs hW hS => ?_)
        refine lv_goto (tgt := 122) hx hb dX8_better_118 (by decide) ?_
        exact x_iret cx hr hW hS (sp_1 hF) (sp_2 hF) dX8_better_122
    · have hF := it_n c4 hF
      refine lv_iload_n hx hb dX8_better_19 rfl (lv_at hl 3 rfl) ?_
      refine lv_iconst (v := (1 : Int32)) hx hb dX8_better_20 (by decide) ?_
      refine lv_iadd hx hb dX8_better_21 ?_
      refine lv_istore (lv' := [(4, .int (x3 + (1 : Int32))), (0, .ref (g_ad G 49)), (1, .int x1), (2, .int x2), (3, .int x3)]) hx hb dX8_better_22 hl (by decide) rfl (fun ls hl => ?_)
      exact t_X8_better_24 cx hr ih FU x1 x2 x3 (x3 + (1 : Int32)) M hF _ _ _ hW hS (lv_sub hl [1, 2, 3, 4, 0] rfl)
def F_X8_better (M : Mem) : Option (Int32 × Mem) := (F_X8_earnAll M).bind (fun r2 => F_X8_better_9 FU r2 (-1 : Int32) (0 : Int32) M)
set_option maxHeartbeats 4000000 in
set_option maxRecDepth 100000 in
theorem c_X8_better {l : Launch} {G : GG}   {M : Mem} {r : Int32} {M1 : Mem} (hF : F_X8_better M = some (r, M1)) : Met l yX8_better (wz yX8_better cX8_better 6 (some .int)) (RM 4 90) (PreC G [.ref (g_ad G 49)] M) (QcI G r M1) 0 0 (g_A G) := by
  rw [F_X8_better] at hF
  refine x_start (by decide) (Nat.le_of_ble_eq_true rfl) (lv := [(0, .ref (g_ad G 49))]) rfl ?_
  intro p e s m below meth c cx hr hW hS ls hl
  obtain ⟨hx, hb, hml, hown, hts, hKK, hSS, hlk⟩ := id cx
  refine lv_aload_n hx hb dX8_better_0 rfl (lv_at hl 0 rfl) ?_
  obtain ⟨r2, hc1, hF⟩ := bi_e hF
  refine x_goi (x_runV cx hW hS (c_X8_earnAll (l := l) (G := G) hc1) cv_X8_148 kc_49 rfl (rest := []) ⟨Nat.le_of_ble_eq_true rfl, Nat.le_of_ble_eq_true rfl⟩ hl.1 rfl rfl (Nat.le_of_ble_eq_true rfl) ⟨Nat.zero_le _, Nat.zero_le _⟩ dX8_better_1) hS (fun H locs hW hS => ?_)
  refine lv_istore_n (lv' := [(1, .int r2), (0, .ref (g_ad G 49))]) hx hb dX8_better_4 rfl hl (by decide) rfl (fun ls hl => ?_)
  refine lv_iconst (v := (-1 : Int32)) hx hb dX8_better_5 (by decide) ?_
  refine lv_istore_n (lv' := [(2, .int (-1 : Int32)), (1, .int r2), (0, .ref (g_ad G 49))]) hx hb dX8_better_6 rfl hl (by decide) rfl (fun ls hl => ?_)
  refine lv_iconst (v := (0 : Int32)) hx hb dX8_better_7 (by decide) ?_
  refine lv_istore_n (lv' := [(3, .int (0 : Int32)), (2, .int (-1 : Int32)), (1, .int r2), (0, .ref (g_ad G 49))]) hx hb dX8_better_8 rfl hl (by decide) rfl (fun ls hl => ?_)
  exact t_X8_better_9 cx hr FU r2 (-1 : Int32) (0 : Int32) M hF _ _ _ hW hS (lv_sub hl [3, 2, 1, 0] rfl)
def F_X8_bestAs_22 (a1 : Int32) : Nat → Int32 → Int32 → Int32 → Mem → Option (Int32 × Mem)
  | 0, _, _, _, _ => none
  | n + 1, x2, x3, x4, M => ix 51 (2 : Int32) (fun j4 => (if (m_I M 50 j4) ≤ x4 then (if 0 ≤ x2 then some (x2, M) else bn (F_X8_finds (-1000000004 : Int32) M) (fun r8 M9 => some (r8, M9))) else (if x4 = a1 then F_X8_bestAs_22 a1 n x2 x3 (x4 + 1) M else (F_X8_areAlike a1 x4 M).bind (fun r12 => (if r12 = 0 then F_X8_bestAs_22 a1 n x2 x3 (x4 + 1) M else (F_X8_earnsAs x4 a1 M).bind (fun r15 => (if r15 ≤ x3 then (if r15 ≤ x3 then F_X8_bestAs_22 a1 n x2 x3 (x4 + 1) M else F_X8_bestAs_22 a1 n x2 r15 (x4 + 1) M) else (if r15 ≤ x3 then F_X8_bestAs_22 a1 n x4 x3 (x4 + 1) M else F_X8_bestAs_22 a1 n x4 r15 (x4 + 1) M))))))))
set_option maxHeartbeats 4000000 in
set_option maxRecDepth 100000 in
theorem t_X8_bestAs_22 {p : Program} {l : Launch} {e : Env} {s : State} {m : MethodId} {args : Array Value} {below : List Frame} {meth : Method} {c : Code} {G : GG} {a1 : Int32} (cx : Cx G cX8_bestAs RX8 6 p s m args meth c) (hr : meth.sig.returnType = (some .int))   {r : Int32} {M1 : Mem} : ∀ (n : Nat) (x2 : Int32) (x3 : Int32) (x4 : Int32) (M : Mem), F_X8_bestAs_22 a1 n x2 x3 x4 M = some (r, M1) → ∀ (H : Heap) (locs : List Loc) (ls : Array Slot), WH G M H → va_S (g_A G) s.heap H locs → lv_has ls 6 [(0, .ref (g_ad G 49)), (1, .int a1), (2, .int x2), (3, .int x3), (4, .int x4)] → W p l e (RM 3 65) s m args below meth c H locs 0 0 (MQ below (QcI G r M1) args s 0 0 (g_A G)) (F0 m 22 ls []) := by
  obtain ⟨hx, hb, hml, hown, hts, hKK, hSS, hlk⟩ := id cx
  intro n
  induction n with
  | zero =>
    intro x2 x3 x4 M hF H locs ls hW hS hl
    rw [F_X8_bestAs_22] at hF
    cases hF
  | succ n ih =>
    intro x2 x3 x4 M hF H locs ls hW hS hl
    rw [F_X8_bestAs_22] at hF
    refine lv_iload hx hb dX8_bestAs_22 (lv_at hl 4 rfl) ?_
    refine lv_aload_n hx hb dX8_bestAs_24 rfl (lv_at hl 0 rfl) ?_
    refine x_get cx hW kc_49 fk_X8_7 (v := .ref (g_ad G 50)) rfl dX8_bestAs_25 ?_
    refine lv_iconst (v := (2 : Int32)) hx hb dX8_bestAs_28 (by decide) ?_
    obtain ⟨j4, hj4, gj4, hF⟩ := ix_e hF
    refine x_iald cx hW kc_50 (by decide) hj4 gj4 dX8_bestAs_29 ?_
    refine lv_icmp_ge (tgt := 90) hx hb dX8_bestAs_30 (by decide) (fun c5 => ?_) (fun c5 => ?_)
    · have hF := it_p c5 hF
      refine lv_iload_n hx hb dX8_bestAs_90 rfl (lv_at hl 2 rfl) ?_
      refine lv_if_ge (tgt := 103) hx hb dX8_bestAs_91 (by decide) (fun c6 => ?_) (fun c6 => ?_)
      · have hF := it_p c6 hF
        refine lv_iload_n hx hb dX8_bestAs_103 rfl (lv_at hl 2 rfl) ?_
        exact x_iret cx hr hW hS (sp_1 hF) (sp_2 hF) dX8_bestAs_104
      · have hF := it_n c6 hF
        refine lv_aload_n hx hb dX8_bestAs_94 rfl (lv_at hl 0 rfl) ?_
        refine x_ldc cx q_k_X8_165 dX8_bestAs_95 ?_
        obtain ⟨r8, M9, hc7, hF⟩ := bn_e hF
        refine x_goi (x_runV cx hW hS (c_X8_finds (l := l) (G := G) hc7) cv_X8_83 kc_49 rfl (rest := []) ⟨Nat.le_of_ble_eq_true rfl, Nat.le_of_ble_eq_true rfl⟩ hl.1 rfl rfl (Nat.le_of_ble_eq_true rfl) ⟨Nat.zero_le _, Nat.zero_le _⟩ dX8_bestAs_97) hS (fun H locs hW hS => ?_)
        refine lv_goto (tgt := 104) hx hb dX8_bestAs_100 (by decide) ?_
        exact x_iret cx hr hW hS (sp_1 hF) (sp_2 hF) dX8_bestAs_104
    · have hF := it_n c5 hF
      refine lv_iload hx hb dX8_bestAs_33 (lv_at hl 4 rfl) ?_
      refine lv_iload_n hx hb dX8_bestAs_35 rfl (lv_at hl 1 rfl) ?_
      refine lv_icmp_eq (tgt := 84) hx hb dX8_bestAs_36 (by decide) (fun c10 => ?_) (fun c10 => ?_)
      · have hF := it_p c10 hF
        refine lv_iinc (v := (x4 + 1)) (lv' := [(4, .int (x4 + 1)), (0, .ref (g_ad G 49)), (1, .int a1), (2, .int x2), (3, .int x3)]) hx hb dX8_bestAs_84 hl (k := 4) rfl rfl (by decide) rfl (fun ls hl => ?_)
        refine lv_goto (tgt := 22) hx hb dX8_bestAs_87 (by decide) ?_
        exact ih x2 x3 (x4 + 1) M hF _ _ _ hW hS (lv_sub hl [1, 2, 3, 4, 0] rfl)
      · have hF := it_n c10 hF
        refine lv_aload_n hx hb dX8_bestAs_39 rfl (lv_at hl 0 rfl) ?_
        refine lv_iload_n hx hb dX8_bestAs_40 rfl (lv_at hl 1 rfl) ?_
        refine lv_iload hx hb dX8_bestAs_41 (lv_at hl 4 rfl) ?_
        obtain ⟨r12, hc11, hF⟩ := bi_e hF
        refine x_goi (x_runV cx hW hS (c_X8_areAlike (l := l) (G := G) hc11) cv_X8_102 kc_49 rfl (rest := []) ⟨Nat.le_of_ble_eq_true rfl, Nat.le_of_ble_eq_true rfl⟩ hl.1 rfl rfl (Nat.le_of_ble_eq_true rfl) ⟨Nat.zero_le _, Nat.zero_le _⟩ dX8_bestAs_43) hS (fun H locs hW hS => ?_)
        refine lv_if_eq (tgt := 84) hx hb dX8_bestAs_46 (by decide) (fun c13 => ?_) (fun c13 => ?_)
        · have hF := it_p c13 hF
          refine lv_iinc (v := (x4 + 1)) (lv' := [(4, .int (x4 + 1)), (0, .ref (g_ad G 49)), (1, .int a1), (2, .int x2), (3, .int x3)]) hx hb dX8_bestAs_84 hl (k := 4) rfl rfl (by decide) rfl (fun ls hl => ?_)
          refine lv_goto (tgt := 22) hx hb dX8_bestAs_87 (by decide) ?_
          exact ih x2 x3 (x4 + 1) M hF _ _ _ hW hS (lv_sub hl [1, 2, 3, 4, 0] rfl)
        · have hF := it_n c13 hF
          refine lv_aload_n hx hb dX8_bestAs_49 rfl (lv_at hl 0 rfl) ?_
          refine lv_iload hx hb dX8_bestAs_50 (lv_at hl 4 rfl) ?_
          refine lv_iload_n hx hb dX8_bestAs_52 rfl (lv_at hl 1 rfl) ?_
          obtain ⟨r15, hc14, hF⟩ := bi_e hF
          refine x_goi (x_runV cx hW hS (c_X8_earnsAs (l := l) (G := G) hc14) cv_X8_69 kc_49 rfl (rest := []) ⟨Nat.le_of_ble_eq_true rfl, Nat.le_of_ble_eq_true rfl⟩ hl.1 rfl rfl (Nat.le_of_ble_eq_true rfl) ⟨Nat.zero_le _, Nat.zero_le _⟩ dX8_bestAs_53) hS (fun H locs hW hS => ?_)
          refine lv_istore (lv' := [(5, .int r15), (0, .ref (g_ad G 49)), (1, .int a1), (2, .int x2), (3, .int x3), (4, .int x4)]) hx hb dX8_bestAs_56 hl (by decide) rfl (fun ls hl => ?_)
          refine lv_iload hx hb dX8_bestAs_58 (lv_at hl 0 rfl) ?_
          refine lv_iload_n hx hb dX8_bestAs_60 rfl (lv_at hl 4 rfl) ?_
          refine lv_icmp_le (tgt := 69) hx hb dX8_bestAs_61 (by decide) (fun c16 => ?_) (fun c16 => ?_)
          · have hF := it_p c16 hF
            refine lv_iload_n hx hb dX8_bestAs_69 rfl (lv_at hl 3 rfl) ?_
            refine lv_istore_n (lv' := [(2, .int x2), (5, .int r15), (0, .ref (g_ad G 49)), (1, .int a1), (3, .int x3), (4, .int x4)]) hx hb dX8_bestAs_70 rfl hl (by decide) rfl (fun ls hl => ?_)
            refine lv_iload hx hb dX8_bestAs_71 (lv_at hl 1 rfl) ?_
            refine lv_iload_n hx hb dX8_bestAs_73 rfl (lv_at hl 4 rfl) ?_
            refine lv_icmp_le (tgt := 82) hx hb dX8_bestAs_74 (by decide) (fun c17 => ?_) (fun c17 => ?_)
            · have hF := it_p c17 hF
              refine lv_iload_n hx hb dX8_bestAs_82 rfl (lv_at hl 4 rfl) ?_
              refine lv_istore_n (lv' := [(3, .int x3), (2, .int x2), (5, .int r15), (0, .ref (g_ad G 49)), (1, .int a1), (4, .int x4)]) hx hb dX8_bestAs_83 rfl hl (by decide) rfl (fun ls hl => ?_)
              refine lv_iinc (v := (x4 + 1)) (lv' := [(4, .int (x4 + 1)), (3, .int x3), (2, .int x2), (5, .int r15), (0, .ref (g_ad G 49)), (1, .int a1)]) hx hb dX8_bestAs_84 hl (k := 5) rfl rfl (by decide) rfl (fun ls hl => ?_)
              refine lv_goto (tgt := 22) hx hb dX8_bestAs_87 (by decide) ?_
              exact ih x2 x3 (x4 + 1) M hF _ _ _ hW hS (lv_sub hl [4, 5, 2, 1, 0] rfl)
            · have hF := it_n c17 hF
              refine lv_iload hx hb dX8_bestAs_77 (lv_at hl 1 rfl) ?_
              refine lv_goto (tgt := 83) hx hb dX8_bestAs_79 (by decide) ?_
              refine lv_istore_n (lv' := [(3, .int r15), (2, .int x2), (5, .int r15), (0, .ref (g_ad G 49)), (1, .int a1), (4, .int x4)]) hx hb dX8_bestAs_83 rfl hl (by decide) rfl (fun ls hl => ?_)
              refine lv_iinc (v := (x4 + 1)) (lv' := [(4, .int (x4 + 1)), (3, .int r15), (2, .int x2), (5, .int r15), (0, .ref (g_ad G 49)), (1, .int a1)]) hx hb dX8_bestAs_84 hl (k := 5) rfl rfl (by decide) rfl (fun ls hl => ?_)
              refine lv_goto (tgt := 22) hx hb dX8_bestAs_87 (by decide) ?_
              exact ih x2 r15 (x4 + 1) M hF _ _ _ hW hS (lv_sub hl [4, 5, 2, 1, 0] rfl)
          · have hF := it_n c16 hF
            refine lv_iload hx hb dX8_bestAs_64 (lv_at hl 5 rfl) ?_
            refine lv_goto (tgt := 70) hx hb dX8_bestAs_66 (by decide) ?_
            refine lv_istore_n (lv' := [(2, .int x4), (5, .int r15), (0, .ref (g_ad G 49)), (1, .int a1), (3, .int x3), (4, .int x4)]) hx hb dX8_bestAs_70 rfl hl (by decide) rfl (fun ls hl => ?_)
            refine lv_iload hx hb dX8_bestAs_71 (lv_at hl 1 rfl) ?_
            refine lv_iload_n hx hb dX8_bestAs_73 rfl (lv_at hl 4 rfl) ?_
            refine lv_icmp_le (tgt := 82) hx hb dX8_bestAs_74 (by decide) (fun c18 => ?_) (fun c18 => ?_)
            · have hF := it_p c18 hF
              refine lv_iload_n hx hb dX8_bestAs_82 rfl (lv_at hl 4 rfl) ?_
              refine lv_istore_n (lv' := [(3, .int x3), (2, .int x4), (5, .int r15), (0, .ref (g_ad G 49)), (1, .int a1), (4, .int x4)]) hx hb dX8_bestAs_83 rfl hl (by decide) rfl (fun ls hl => ?_)
              refine lv_iinc (v := (x4 + 1)) (lv' := [(4, .int (x4 + 1)), (3, .int x3), (2, .int x4), (5, .int r15), (0, .ref (g_ad G 49)), (1, .int a1)]) hx hb dX8_bestAs_84 hl (k := 5) rfl rfl (by decide) rfl (fun ls hl => ?_)
              refine lv_goto (tgt := 22) hx hb dX8_bestAs_87 (by decide) ?_
              exact ih x4 x3 (x4 + 1) M hF _ _ _ hW hS (lv_sub hl [4, 5, 2, 1, 0] rfl)
            · have hF := it_n c18 hF
              refine lv_iload hx hb dX8_bestAs_77 (lv_at hl 1 rfl) ?_
              refine lv_goto (tgt := 83) hx hb dX8_bestAs_79 (by decide) ?_
              refine lv_istore_n (lv' := [(3, .int r15), (2, .int x4), (5, .int r15), (0, .ref (g_ad G 49)), (1, .int a1), (4, .int x4)]) hx hb dX8_bestAs_83 rfl hl (by decide) rfl (fun ls hl => ?_)
              refine lv_iinc (v := (x4 + 1)) (lv' := [(4, .int (x4 + 1)), (3, .int r15), (2, .int x4), (5, .int r15), (0, .ref (g_ad G 49)), (1, .int a1)]) hx hb dX8_bestAs_84 hl (k := 5) rfl rfl (by decide) rfl (fun ls hl => ?_)
              refine lv_goto (tgt := 22) hx hb dX8_bestAs_87 (by decide) ?_
              exact ih x4 r15 (x4 + 1) M hF _ _ _ hW hS (lv_sub hl [4, 5, 2, 1, 0] rfl)
def F_X8_bestAs (a1 : Int32) (M : Mem) : Option (Int32 × Mem) := (F_X8_isOne a1 M).bind (fun r2 => (if r2 = 0 then bn (F_X8_finds (-1000000001 : Int32) M) (fun r20 M21 => some (r20, M21)) else F_X8_bestAs_22 a1 FU (-1 : Int32) (-1 : Int32) (0 : Int32) M))
set_option maxHeartbeats 4000000 in
set_option maxRecDepth 100000 in
theorem c_X8_bestAs {l : Launch} {G : GG} {a1 : Int32}  {M : Mem} {r : Int32} {M1 : Mem} (hF : F_X8_bestAs a1 M = some (r, M1)) : Met l yX8_bestAs (wz yX8_bestAs cX8_bestAs 6 (some .int)) (RM 3 65) (PreC G [.ref (g_ad G 49), .int a1] M) (QcI G r M1) 0 0 (g_A G) := by
  rw [F_X8_bestAs] at hF
  refine x_start (by decide) (Nat.le_of_ble_eq_true rfl) (lv := [(0, .ref (g_ad G 49)), (1, .int a1)]) rfl ?_
  intro p e s m below meth c cx hr hW hS ls hl
  obtain ⟨hx, hb, hml, hown, hts, hKK, hSS, hlk⟩ := id cx
  refine lv_aload_n hx hb dX8_bestAs_0 rfl (lv_at hl 0 rfl) ?_
  refine lv_iload_n hx hb dX8_bestAs_1 rfl (lv_at hl 1 rfl) ?_
  obtain ⟨r2, hc1, hF⟩ := bi_e hF
  refine x_goi (x_runV cx hW hS (c_X8_isOne (l := l) (G := G) hc1) cv_X8_91 kc_49 rfl (rest := []) ⟨Nat.le_of_ble_eq_true rfl, Nat.le_of_ble_eq_true rfl⟩ hl.1 rfl rfl (Nat.le_of_ble_eq_true rfl) ⟨Nat.zero_le _, Nat.zero_le _⟩ dX8_bestAs_2) hS (fun H locs hW hS => ?_)
  refine lv_if_ne (tgt := 15) hx hb dX8_bestAs_5 (by decide) (fun c3 => ?_) (fun c3 => ?_)
  · have hF := it_n c3 hF
    refine lv_iconst (v := (-1 : Int32)) hx hb dX8_bestAs_15 (by decide) ?_
    refine lv_istore_n (lv' := [(2, .int (-1 : Int32)), (0, .ref (g_ad G 49)), (1, .int a1)]) hx hb dX8_bestAs_16 rfl hl (by decide) rfl (fun ls hl => ?_)
    refine lv_iconst (v := (-1 : Int32)) hx hb dX8_bestAs_17 (by decide) ?_
    refine lv_istore_n (lv' := [(3, .int (-1 : Int32)), (2, .int (-1 : Int32)), (0, .ref (g_ad G 49)), (1, .int a1)]) hx hb dX8_bestAs_18 rfl hl (by decide) rfl (fun ls hl => ?_)
    refine lv_iconst (v := (0 : Int32)) hx hb dX8_bestAs_19 (by decide) ?_
    refine lv_istore (lv' := [(4, .int (0 : Int32)), (3, .int (-1 : Int32)), (2, .int (-1 : Int32)), (0, .ref (g_ad G 49)), (1, .int a1)]) hx hb dX8_bestAs_20 hl (by decide) rfl (fun ls hl => ?_)
    exact t_X8_bestAs_22 cx hr FU (-1 : Int32) (-1 : Int32) (0 : Int32) M hF _ _ _ hW hS (lv_sub hl [3, 4, 2, 1, 0] rfl)
  · have hF := it_p c3 hF
    refine lv_aload_n hx hb dX8_bestAs_8 rfl (lv_at hl 0 rfl) ?_
    refine x_ldc cx q_k_X8_56 dX8_bestAs_9 ?_
    obtain ⟨r20, M21, hc19, hF⟩ := bn_e hF
    refine x_goi (x_runV cx hW hS (c_X8_finds (l := l) (G := G) hc19) cv_X8_83 kc_49 rfl (rest := []) ⟨Nat.le_of_ble_eq_true rfl, Nat.le_of_ble_eq_true rfl⟩ hl.1 rfl rfl (Nat.le_of_ble_eq_true rfl) ⟨Nat.zero_le _, Nat.zero_le _⟩ dX8_bestAs_11) hS (fun H locs hW hS => ?_)
    exact x_iret cx hr hW hS (sp_1 hF) (sp_2 hF) dX8_bestAs_14
def F_X8_kind_30 (a1 : Int32) : Nat → Int32 → Int32 → Int32 → Int32 → Mem → Option (Int32 × Mem)
  | 0, _, _, _, _, _ => none
  | n + 1, x2, x3, x4, x5, M => (if (5 : Int32) < x5 then (F_X8_puts a1 (0 : Int32) x2 M).bind (fun M8 => some (x3, M8)) else (F_X8_puts a1 (0 : Int32) x5 M).bind (fun M10 => (F_X8_earns a1 M10).bind (fun r12 => (if r12 ≤ x4 then (if r12 ≤ x4 then F_X8_kind_30 a1 n x2 x3 x4 (x5 + 1) M10 else F_X8_kind_30 a1 n x2 x3 r12 (x5 + 1) M10) else (if r12 ≤ x4 then F_X8_kind_30 a1 n x2 x5 x4 (x5 + 1) M10 else F_X8_kind_30 a1 n x2 x5 r12 (x5 + 1) M10)))))
set_option maxHeartbeats 4000000 in
set_option maxRecDepth 100000 in
theorem t_X8_kind_30 {p : Program} {l : Launch} {e : Env} {s : State} {m : MethodId} {args : Array Value} {below : List Frame} {meth : Method} {c : Code} {G : GG} {a1 : Int32} (cx : Cx G cX8_kind RX8 7 p s m args meth c) (hr : meth.sig.returnType = (some .int))   {r : Int32} {M1 : Mem} : ∀ (n : Nat) (x2 : Int32) (x3 : Int32) (x4 : Int32) (x5 : Int32) (M : Mem), F_X8_kind_30 a1 n x2 x3 x4 x5 M = some (r, M1) → ∀ (H : Heap) (locs : List Loc) (ls : Array Slot), WH G M H → va_S (g_A G) s.heap H locs → lv_has ls 7 [(0, .ref (g_ad G 49)), (1, .int a1), (2, .int x2), (3, .int x3), (4, .int x4), (5, .int x5)] → W p l e (RM 3 68) s m args below meth c H locs 0 0 (MQ below (QcI G r M1) args s 0 0 (g_A G)) (F0 m 30 ls []) := by
  obtain ⟨hx, hb, hml, hown, hts, hKK, hSS, hlk⟩ := id cx
  intro n
  induction n with
  | zero =>
    intro x2 x3 x4 x5 M hF H locs ls hW hS hl
    rw [F_X8_kind_30] at hF
    cases hF
  | succ n ih =>
    intro x2 x3 x4 x5 M hF H locs ls hW hS hl
    rw [F_X8_kind_30] at hF
    refine lv_iload hx hb dX8_kind_30 (lv_at hl 5 rfl) ?_
    refine lv_iconst (v := (5 : Int32)) hx hb dX8_kind_32 (by decide) ?_
    refine lv_icmp_gt (tgt := 87) hx hb dX8_kind_33 (by decide) (fun c6 => ?_) (fun c6 => ?_)
    · have hF := it_p c6 hF
      refine lv_aload_n hx hb dX8_kind_87 rfl (lv_at hl 0 rfl) ?_
      refine lv_iload_n hx hb dX8_kind_88 rfl (lv_at hl 1 rfl) ?_
      refine lv_iconst (v := (0 : Int32)) hx hb dX8_kind_89 (by decide) ?_
      refine lv_iload_n hx hb dX8_kind_90 rfl (lv_at hl 2 rfl) ?_
      obtain ⟨M8, hc7, hF⟩ := bi_e hF
      refine x_gov (x_runV cx hW hS (c_X8_puts (l := l) (G := G) hc7) cv_X8_76 kc_49 rfl (rest := []) ⟨Nat.le_of_ble_eq_true rfl, Nat.le_of_ble_eq_true rfl⟩ hl.1 rfl rfl (Nat.le_of_ble_eq_true rfl) ⟨Nat.zero_le _, Nat.zero_le _⟩ dX8_kind_91) hS (fun H locs hW hS => ?_)
      refine lv_iload_n hx hb dX8_kind_94 rfl (lv_at hl 3 rfl) ?_
      exact x_iret cx hr hW hS (sp_1 hF) (sp_2 hF) dX8_kind_95
    · have hF := it_n c6 hF
      refine lv_aload_n hx hb dX8_kind_36 rfl (lv_at hl 0 rfl) ?_
      refine lv_iload_n hx hb dX8_kind_37 rfl (lv_at hl 1 rfl) ?_
      refine lv_iconst (v := (0 : Int32)) hx hb dX8_kind_38 (by decide) ?_
      refine lv_iload hx hb dX8_kind_39 (lv_at hl 5 rfl) ?_
      obtain ⟨M10, hc9, hF⟩ := bi_e hF
      refine x_gov (x_runV cx hW hS (c_X8_puts (l := l) (G := G) hc9) cv_X8_76 kc_49 rfl (rest := []) ⟨Nat.le_of_ble_eq_true rfl, Nat.le_of_ble_eq_true rfl⟩ hl.1 rfl rfl (Nat.le_of_ble_eq_true rfl) ⟨Nat.zero_le _, Nat.zero_le _⟩ dX8_kind_41) hS (fun H locs hW hS => ?_)
      refine lv_aload_n hx hb dX8_kind_44 rfl (lv_at hl 0 rfl) ?_
      refine lv_iload_n hx hb dX8_kind_45 rfl (lv_at hl 1 rfl) ?_
      obtain ⟨r12, hc11, hF⟩ := bi_e hF
      refine x_goi (x_runV cx hW hS (c_X8_earns (l := l) (G := G) hc11) cv_X8_72 kc_49 rfl (rest := []) ⟨Nat.le_of_ble_eq_true rfl, Nat.le_of_ble_eq_true rfl⟩ hl.1 rfl rfl (Nat.le_of_ble_eq_true rfl) ⟨Nat.zero_le _, Nat.zero_le _⟩ dX8_kind_46) hS (fun H locs hW hS => ?_)
      refine lv_istore (lv' := [(6, .int r12), (0, .ref (g_ad G 49)), (1, .int a1), (2, .int x2), (3, .int x3), (4, .int x4), (5, .int x5)]) hx hb dX8_kind_49 hl (by decide) rfl (fun ls hl => ?_)
      refine lv_iload hx hb dX8_kind_51 (lv_at hl 0 rfl) ?_
      refine lv_iload hx hb dX8_kind_53 (lv_at hl 5 rfl) ?_
      refine lv_icmp_le (tgt := 63) hx hb dX8_kind_55 (by decide) (fun c13 => ?_) (fun c13 => ?_)
      · have hF := it_p c13 hF
        refine lv_iload_n hx hb dX8_kind_63 rfl (lv_at hl 4 rfl) ?_
        refine lv_istore_n (lv' := [(3, .int x3), (6, .int r12), (0, .ref (g_ad G 49)), (1, .int a1), (2, .int x2), (4, .int x4), (5, .int x5)]) hx hb dX8_kind_64 rfl hl (by decide) rfl (fun ls hl => ?_)
        refine lv_iload hx hb dX8_kind_65 (lv_at hl 1 rfl) ?_
        refine lv_iload hx hb dX8_kind_67 (lv_at hl 5 rfl) ?_
        refine lv_icmp_le (tgt := 77) hx hb dX8_kind_69 (by decide) (fun c14 => ?_) (fun c14 => ?_)
        · have hF := it_p c14 hF
          refine lv_iload hx hb dX8_kind_77 (lv_at hl 5 rfl) ?_
          refine lv_istore (lv' := [(4, .int x4), (3, .int x3), (6, .int r12), (0, .ref (g_ad G 49)), (1, .int a1), (2, .int x2), (5, .int x5)]) hx hb dX8_kind_79 hl (by decide) rfl (fun ls hl => ?_)
          refine lv_iinc (v := (x5 + 1)) (lv' := [(5, .int (x5 + 1)), (4, .int x4), (3, .int x3), (6, .int r12), (0, .ref (g_ad G 49)), (1, .int a1), (2, .int x2)]) hx hb dX8_kind_81 hl (k := 6) rfl rfl (by decide) rfl (fun ls hl => ?_)
          refine lv_goto (tgt := 30) hx hb dX8_kind_84 (by decide) ?_
          exact ih x2 x3 x4 (x5 + 1) M10 hF _ _ _ hW hS (lv_sub hl [4, 5, 6, 2, 1, 0] rfl)
        · have hF := it_n c14 hF
          refine lv_iload hx hb dX8_kind_72 (lv_at hl 1 rfl) ?_
          refine lv_goto (tgt := 79) hx hb dX8_kind_74 (by decide) ?_
          refine lv_istore (lv' := [(4, .int r12), (3, .int x3), (6, .int r12), (0, .ref (g_ad G 49)), (1, .int a1), (2, .int x2), (5, .int x5)]) hx hb dX8_kind_79 hl (by decide) rfl (fun ls hl => ?_)
          refine lv_iinc (v := (x5 + 1)) (lv' := [(5, .int (x5 + 1)), (4, .int r12), (3, .int x3), (6, .int r12), (0, .ref (g_ad G 49)), (1, .int a1), (2, .int x2)]) hx hb dX8_kind_81 hl (k := 6) rfl rfl (by decide) rfl (fun ls hl => ?_)
          refine lv_goto (tgt := 30) hx hb dX8_kind_84 (by decide) ?_
          exact ih x2 x3 r12 (x5 + 1) M10 hF _ _ _ hW hS (lv_sub hl [4, 5, 6, 2, 1, 0] rfl)
      · have hF := it_n c13 hF
        refine lv_iload hx hb dX8_kind_58 (lv_at hl 6 rfl) ?_
        refine lv_goto (tgt := 64) hx hb dX8_kind_60 (by decide) ?_
        refine lv_istore_n (lv' := [(3, .int x5), (6, .int r12), (0, .ref (g_ad G 49)), (1, .int a1), (2, .int x2), (4, .int x4), (5, .int x5)]) hx hb dX8_kind_64 rfl hl (by decide) rfl (fun ls hl => ?_)
        refine lv_iload hx hb dX8_kind_65 (lv_at hl 1 rfl) ?_
        refine lv_iload hx hb dX8_kind_67 (lv_at hl 5 rfl) ?_
        refine lv_icmp_le (tgt := 77) hx hb dX8_kind_69 (by decide) (fun c15 => ?_) (fun c15 => ?_)
        · have hF := it_p c15 hF
          refine lv_iload hx hb dX8_kind_77 (lv_at hl 5 rfl) ?_
          refine lv_istore (lv' := [(4, .int x4), (3, .int x5), (6, .int r12), (0, .ref (g_ad G 49)), (1, .int a1), (2, .int x2), (5, .int x5)]) hx hb dX8_kind_79 hl (by decide) rfl (fun ls hl => ?_)
          refine lv_iinc (v := (x5 + 1)) (lv' := [(5, .int (x5 + 1)), (4, .int x4), (3, .int x5), (6, .int r12), (0, .ref (g_ad G 49)), (1, .int a1), (2, .int x2)]) hx hb dX8_kind_81 hl (k := 6) rfl rfl (by decide) rfl (fun ls hl => ?_)
          refine lv_goto (tgt := 30) hx hb dX8_kind_84 (by decide) ?_
          exact ih x2 x5 x4 (x5 + 1) M10 hF _ _ _ hW hS (lv_sub hl [4, 5, 6, 2, 1, 0] rfl)
        · have hF := it_n c15 hF
          refine lv_iload hx hb dX8_kind_72 (lv_at hl 1 rfl) ?_
          refine lv_goto (tgt := 79) hx hb dX8_kind_74 (by decide) ?_
          refine lv_istore (lv' := [(4, .int r12), (3, .int x5), (6, .int r12), (0, .ref (g_ad G 49)), (1, .int a1), (2, .int x2), (5, .int x5)]) hx hb dX8_kind_79 hl (by decide) rfl (fun ls hl => ?_)
          refine lv_iinc (v := (x5 + 1)) (lv' := [(5, .int (x5 + 1)), (4, .int r12), (3, .int x5), (6, .int r12), (0, .ref (g_ad G 49)), (1, .int a1), (2, .int x2)]) hx hb dX8_kind_81 hl (k := 6) rfl rfl (by decide) rfl (fun ls hl => ?_)
          refine lv_goto (tgt := 30) hx hb dX8_kind_84 (by decide) ?_
          exact ih x2 x5 r12 (x5 + 1) M10 hF _ _ _ hW hS (lv_sub hl [4, 5, 6, 2, 1, 0] rfl)
def F_X8_kind (a1 : Int32) (M : Mem) : Option (Int32 × Mem) := (F_X8_isOne a1 M).bind (fun r2 => (if r2 = 0 then bn (F_X8_finds (-1000000001 : Int32) M) (fun r17 M18 => some (r17, M18)) else (F_X8_its a1 (0 : Int32) M).bind (fun r5 => F_X8_kind_30 a1 FU r5 (0 : Int32) (-1 : Int32) (0 : Int32) M)))
set_option maxHeartbeats 4000000 in
set_option maxRecDepth 100000 in
theorem c_X8_kind {l : Launch} {G : GG} {a1 : Int32}  {M : Mem} {r : Int32} {M1 : Mem} (hF : F_X8_kind a1 M = some (r, M1)) : Met l yX8_kind (wz yX8_kind cX8_kind 7 (some .int)) (RM 3 68) (PreC G [.ref (g_ad G 49), .int a1] M) (QcI G r M1) 0 0 (g_A G) := by
  rw [F_X8_kind] at hF
  refine x_start (by decide) (Nat.le_of_ble_eq_true rfl) (lv := [(0, .ref (g_ad G 49)), (1, .int a1)]) rfl ?_
  intro p e s m below meth c cx hr hW hS ls hl
  obtain ⟨hx, hb, hml, hown, hts, hKK, hSS, hlk⟩ := id cx
  refine lv_aload_n hx hb dX8_kind_0 rfl (lv_at hl 0 rfl) ?_
  refine lv_iload_n hx hb dX8_kind_1 rfl (lv_at hl 1 rfl) ?_
  obtain ⟨r2, hc1, hF⟩ := bi_e hF
  refine x_goi (x_runV cx hW hS (c_X8_isOne (l := l) (G := G) hc1) cv_X8_91 kc_49 rfl (rest := []) ⟨Nat.le_of_ble_eq_true rfl, Nat.le_of_ble_eq_true rfl⟩ hl.1 rfl rfl (Nat.le_of_ble_eq_true rfl) ⟨Nat.zero_le _, Nat.zero_le _⟩ dX8_kind_2) hS (fun H locs hW hS => ?_)
  refine lv_if_ne (tgt := 15) hx hb dX8_kind_5 (by decide) (fun c3 => ?_) (fun c3 => ?_)
  · have hF := it_n c3 hF
    refine lv_aload_n hx hb dX8_kind_15 rfl (lv_at hl 0 rfl) ?_
    refine lv_iload_n hx hb dX8_kind_16 rfl (lv_at hl 1 rfl) ?_
    refine lv_iconst (v := (0 : Int32)) hx hb dX8_kind_17 (by decide) ?_
    obtain ⟨r5, hc4, hF⟩ := bi_e hF
    refine x_goi (x_runV cx hW hS (c_X8_its (l := l) (G := G) hc4) cv_X8_61 kc_49 rfl (rest := []) ⟨Nat.le_of_ble_eq_true rfl, Nat.le_of_ble_eq_true rfl⟩ hl.1 rfl rfl (Nat.le_of_ble_eq_true rfl) ⟨Nat.zero_le _, Nat.zero_le _⟩ dX8_kind_18) hS (fun H locs hW hS => ?_)
    refine lv_istore_n (lv' := [(2, .int r5), (0, .ref (g_ad G 49)), (1, .int a1)]) hx hb dX8_kind_21 rfl hl (by decide) rfl (fun ls hl => ?_)
    refine lv_iconst (v := (0 : Int32)) hx hb dX8_kind_22 (by decide) ?_
    refine lv_istore_n (lv' := [(3, .int (0 : Int32)), (2, .int r5), (0, .ref (g_ad G 49)), (1, .int a1)]) hx hb dX8_kind_23 rfl hl (by decide) rfl (fun ls hl => ?_)
    refine lv_iconst (v := (-1 : Int32)) hx hb dX8_kind_24 (by decide) ?_
    refine lv_istore (lv' := [(4, .int (-1 : Int32)), (3, .int (0 : Int32)), (2, .int r5), (0, .ref (g_ad G 49)), (1, .int a1)]) hx hb dX8_kind_25 hl (by decide) rfl (fun ls hl => ?_)
    refine lv_iconst (v := (0 : Int32)) hx hb dX8_kind_27 (by decide) ?_
    refine lv_istore (lv' := [(5, .int (0 : Int32)), (4, .int (-1 : Int32)), (3, .int (0 : Int32)), (2, .int r5), (0, .ref (g_ad G 49)), (1, .int a1)]) hx hb dX8_kind_28 hl (by decide) rfl (fun ls hl => ?_)
    exact t_X8_kind_30 cx hr FU r5 (0 : Int32) (-1 : Int32) (0 : Int32) M hF _ _ _ hW hS (lv_sub hl [4, 5, 3, 2, 1, 0] rfl)
  · have hF := it_p c3 hF
    refine lv_aload_n hx hb dX8_kind_8 rfl (lv_at hl 0 rfl) ?_
    refine x_ldc cx q_k_X8_56 dX8_kind_9 ?_
    obtain ⟨r17, M18, hc16, hF⟩ := bn_e hF
    refine x_goi (x_runV cx hW hS (c_X8_finds (l := l) (G := G) hc16) cv_X8_83 kc_49 rfl (rest := []) ⟨Nat.le_of_ble_eq_true rfl, Nat.le_of_ble_eq_true rfl⟩ hl.1 rfl rfl (Nat.le_of_ble_eq_true rfl) ⟨Nat.zero_le _, Nat.zero_le _⟩ dX8_kind_11) hS (fun H locs hW hS => ?_)
    exact x_iret cx hr hW hS (sp_1 hF) (sp_2 hF) dX8_kind_14
def F_X8_ways_37 (a0 : Int32) (a1 : Int32) (M : Mem) : Nat → Int32 → Int32 → Int32 → Option Int32
  | 0, _, _, _ => none
  | n + 1, x2, x3, x4 => (if (a0 - a1) < x4 then some (x2 * x3) else (if (x4 - x4 / (2 : Int32) * (2 : Int32)) = 0 then F_X8_ways_37 a0 a1 M n x2 ((x3 * x4) + (1 : Int32)) (x4 + 1) else F_X8_ways_37 a0 a1 M n x2 ((x3 * x4) + (-1 : Int32)) (x4 + 1)))
set_option maxHeartbeats 4000000 in
set_option maxRecDepth 100000 in
theorem t_X8_ways_37 {p : Program} {l : Launch} {e : Env} {s : State} {m : MethodId} {args : Array Value} {below : List Frame} {meth : Method} {c : Code} {G : GG} {a0 : Int32} {a1 : Int32} (cx : Cx G cX8_ways RX8 5 p s m args meth c) (hr : meth.sig.returnType = (some .int))   {M : Mem} {r : Int32} : ∀ (n : Nat) (x2 : Int32) (x3 : Int32) (x4 : Int32), F_X8_ways_37 a0 a1 M n x2 x3 x4 = some r → ∀ (H : Heap) (locs : List Loc) (ls : Array Slot), WH G M H → va_S (g_A G) s.heap H locs → lv_has ls 5 [(0, .int a0), (1, .int a1), (2, .int x2), (3, .int x3), (4, .int x4)] → W p l e (RM 0 0) s m args below meth c H locs 0 0 (MQ below (QcI G r M) args s 0 0 (g_A G)) (F0 m 37 ls []) := by
  obtain ⟨hx, hb, hml, hown, hts, hKK, hSS, hlk⟩ := id cx
  intro n
  induction n with
  | zero =>
    intro x2 x3 x4 hF H locs ls hW hS hl
    rw [F_X8_ways_37] at hF
    cases hF
  | succ n ih =>
    intro x2 x3 x4 hF H locs ls hW hS hl
    rw [F_X8_ways_37] at hF
    refine lv_iload hx hb dX8_ways_37 (lv_at hl 4 rfl) ?_
    refine lv_iload_n hx hb dX8_ways_39 rfl (lv_at hl 0 rfl) ?_
    refine lv_iload_n hx hb dX8_ways_40 rfl (lv_at hl 1 rfl) ?_
    refine lv_isub hx hb dX8_ways_41 ?_
    refine lv_icmp_gt (tgt := 69) hx hb dX8_ways_42 (by decide) (fun c3 => ?_) (fun c3 => ?_)
    · have hF := it_p c3 hF
      refine lv_iload_n hx hb dX8_ways_69 rfl (lv_at hl 2 rfl) ?_
      refine lv_iload_n hx hb dX8_ways_70 rfl (lv_at hl 3 rfl) ?_
      refine lv_imul hx hb dX8_ways_71 ?_
      exact x_iret cx hr hW hS (Option.some.inj hF) rfl dX8_ways_72
    · have hF := it_n c3 hF
      refine lv_iload_n hx hb dX8_ways_45 rfl (lv_at hl 3 rfl) ?_
      refine lv_iload hx hb dX8_ways_46 (lv_at hl 4 rfl) ?_
      refine lv_imul hx hb dX8_ways_48 ?_
      refine lv_iload hx hb dX8_ways_49 (lv_at hl 4 rfl) ?_
      refine lv_iconst (v := (2 : Int32)) hx hb dX8_ways_51 (by decide) ?_
      refine lv_irem hx hb dX8_ways_52 (by decide) ?_
      refine lv_if_ne (tgt := 60) hx hb dX8_ways_53 (by decide) (fun c4 => ?_) (fun c4 => ?_)
      · have hF := it_n c4 hF
        refine lv_iconst (v := (-1 : Int32)) hx hb dX8_ways_60 (by decide) ?_
        refine lv_iadd hx hb dX8_ways_61 ?_
        refine lv_istore_n (lv' := [(3, .int ((x3 * x4) + (-1 : Int32))), (0, .int a0), (1, .int a1), (2, .int x2), (4, .int x4)]) hx hb dX8_ways_62 rfl hl (by decide) rfl (fun ls hl => ?_)
        refine lv_iinc (v := (x4 + 1)) (lv' := [(4, .int (x4 + 1)), (3, .int ((x3 * x4) + (-1 : Int32))), (0, .int a0), (1, .int a1), (2, .int x2)]) hx hb dX8_ways_63 hl (k := 4) rfl rfl (by decide) rfl (fun ls hl => ?_)
        refine lv_goto (tgt := 37) hx hb dX8_ways_66 (by decide) ?_
        exact ih x2 ((x3 * x4) + (-1 : Int32)) (x4 + 1) hF _ _ _ hW hS (lv_sub hl [2, 3, 4, 1, 0] rfl)
      · have hF := it_p c4 hF
        refine lv_iconst (v := (1 : Int32)) hx hb dX8_ways_56 (by decide) ?_
        refine lv_goto (tgt := 61) hx hb dX8_ways_57 (by decide) ?_
        refine lv_iadd hx hb dX8_ways_61 ?_
        refine lv_istore_n (lv' := [(3, .int ((x3 * x4) + (1 : Int32))), (0, .int a0), (1, .int a1), (2, .int x2), (4, .int x4)]) hx hb dX8_ways_62 rfl hl (by decide) rfl (fun ls hl => ?_)
        refine lv_iinc (v := (x4 + 1)) (lv' := [(4, .int (x4 + 1)), (3, .int ((x3 * x4) + (1 : Int32))), (0, .int a0), (1, .int a1), (2, .int x2)]) hx hb dX8_ways_63 hl (k := 4) rfl rfl (by decide) rfl (fun ls hl => ?_)
        refine lv_goto (tgt := 37) hx hb dX8_ways_66 (by decide) ?_
        exact ih x2 ((x3 * x4) + (1 : Int32)) (x4 + 1) hF _ _ _ hW hS (lv_sub hl [2, 3, 4, 1, 0] rfl)
def F_X8_ways_11 (a0 : Int32) (a1 : Int32) (M : Mem) : Nat → Int32 → Int32 → Option Int32
  | 0, _, _ => none
  | n + 1, x2, x3 => (if a1 ≤ x3 then F_X8_ways_37 a0 a1 M FU x2 (1 : Int32) (1 : Int32) else dv (x3 + (1 : Int32)) (F_X8_ways_11 a0 a1 M n ((x2 * (a0 - x3)) / (x3 + (1 : Int32))) (x3 + 1)))
set_option maxHeartbeats 4000000 in
set_option maxRecDepth 100000 in
theorem t_X8_ways_11 {p : Program} {l : Launch} {e : Env} {s : State} {m : MethodId} {args : Array Value} {below : List Frame} {meth : Method} {c : Code} {G : GG} {a0 : Int32} {a1 : Int32} (cx : Cx G cX8_ways RX8 5 p s m args meth c) (hr : meth.sig.returnType = (some .int))   {M : Mem} {r : Int32} : ∀ (n : Nat) (x2 : Int32) (x3 : Int32), F_X8_ways_11 a0 a1 M n x2 x3 = some r → ∀ (H : Heap) (locs : List Loc) (ls : Array Slot), WH G M H → va_S (g_A G) s.heap H locs → lv_has ls 5 [(0, .int a0), (1, .int a1), (2, .int x2), (3, .int x3)] → W p l e (RM 0 0) s m args below meth c H locs 0 0 (MQ below (QcI G r M) args s 0 0 (g_A G)) (F0 m 11 ls []) := by
  obtain ⟨hx, hb, hml, hown, hts, hKK, hSS, hlk⟩ := id cx
  intro n
  induction n with
  | zero =>
    intro x2 x3 hF H locs ls hW hS hl
    rw [F_X8_ways_11] at hF
    cases hF
  | succ n ih =>
    intro x2 x3 hF H locs ls hW hS hl
    rw [F_X8_ways_11] at hF
    refine lv_iload_n hx hb dX8_ways_11 rfl (lv_at hl 3 rfl) ?_
    refine lv_iload_n hx hb dX8_ways_12 rfl (lv_at hl 1 rfl) ?_
    refine lv_icmp_ge (tgt := 32) hx hb dX8_ways_13 (by decide) (fun c2 => ?_) (fun c2 => ?_)
    · have hF := it_p c2 hF
      refine lv_iconst (v := (1 : Int32)) hx hb dX8_ways_32 (by decide) ?_
      refine lv_istore_n (lv' := [(3, .int (1 : Int32)), (0, .int a0), (1, .int a1), (2, .int x2)]) hx hb dX8_ways_33 rfl hl (by decide) rfl (fun ls hl => ?_)
      refine lv_iconst (v := (1 : Int32)) hx hb dX8_ways_34 (by decide) ?_
      refine lv_istore (lv' := [(4, .int (1 : Int32)), (3, .int (1 : Int32)), (0, .int a0), (1, .int a1), (2, .int x2)]) hx hb dX8_ways_35 hl (by decide) rfl (fun ls hl => ?_)
      exact t_X8_ways_37 cx hr FU x2 (1 : Int32) (1 : Int32) hF _ _ _ hW hS (lv_sub hl [2, 3, 4, 1, 0] rfl)
    · have hF := it_n c2 hF
      refine lv_iload_n hx hb dX8_ways_16 rfl (lv_at hl 2 rfl) ?_
      refine lv_iload_n hx hb dX8_ways_17 rfl (lv_at hl 0 rfl) ?_
      refine lv_iload_n hx hb dX8_ways_18 rfl (lv_at hl 3 rfl) ?_
      refine lv_isub hx hb dX8_ways_19 ?_
      refine lv_imul hx hb dX8_ways_20 ?_
      refine lv_iload_n hx hb dX8_ways_21 rfl (lv_at hl 3 rfl) ?_
      refine lv_iconst (v := (1 : Int32)) hx hb dX8_ways_22 (by decide) ?_
      refine lv_iadd hx hb dX8_ways_23 ?_
      obtain ⟨d5, hF⟩ := dv_e hF
      refine lv_idiv hx hb dX8_ways_24 d5 ?_
      refine lv_istore_n (lv' := [(2, .int ((x2 * (a0 - x3)) / (x3 + (1 : Int32)))), (0, .int a0), (1, .int a1), (3, .int x3)]) hx hb dX8_ways_25 rfl hl (by decide) rfl (fun ls hl => ?_)
      refine lv_iinc (v := (x3 + 1)) (lv' := [(3, .int (x3 + 1)), (2, .int ((x2 * (a0 - x3)) / (x3 + (1 : Int32)))), (0, .int a0), (1, .int a1)]) hx hb dX8_ways_26 hl (k := 3) rfl rfl (by decide) rfl (fun ls hl => ?_)
      refine lv_goto (tgt := 11) hx hb dX8_ways_29 (by decide) ?_
      exact ih ((x2 * (a0 - x3)) / (x3 + (1 : Int32))) (x3 + 1) hF _ _ _ hW hS (lv_sub hl [2, 3, 1, 0] rfl)
def F_X8_ways (a0 : Int32) (a1 : Int32) (M : Mem) : Option Int32 := (if a1 ≤ a0 then F_X8_ways_11 a0 a1 M FU (1 : Int32) (0 : Int32) else some (0 : Int32))
set_option maxHeartbeats 4000000 in
set_option maxRecDepth 100000 in
theorem c_X8_ways {l : Launch} {G : GG} {a0 : Int32} {a1 : Int32}  {M : Mem} {r : Int32} (hF : F_X8_ways a0 a1 M = some r) : Met l yX8_ways (wz yX8_ways cX8_ways 5 (some .int)) (RM 0 0) (PreC G [.int a0, .int a1] M) (QcI G r M) 0 0 (g_A G) := by
  rw [F_X8_ways] at hF
  refine x_start (by decide) (Nat.le_of_ble_eq_true rfl) (lv := [(0, .int a0), (1, .int a1)]) rfl ?_
  intro p e s m below meth c cx hr hW hS ls hl
  obtain ⟨hx, hb, hml, hown, hts, hKK, hSS, hlk⟩ := id cx
  refine lv_iload_n hx hb dX8_ways_0 rfl (lv_at hl 1 rfl) ?_
  refine lv_iload_n hx hb dX8_ways_1 rfl (lv_at hl 0 rfl) ?_
  refine lv_icmp_le (tgt := 7) hx hb dX8_ways_2 (by decide) (fun c1 => ?_) (fun c1 => ?_)
  · have hF := it_p c1 hF
    refine lv_iconst (v := (1 : Int32)) hx hb dX8_ways_7 (by decide) ?_
    refine lv_istore_n (lv' := [(2, .int (1 : Int32)), (0, .int a0), (1, .int a1)]) hx hb dX8_ways_8 rfl hl (by decide) rfl (fun ls hl => ?_)
    refine lv_iconst (v := (0 : Int32)) hx hb dX8_ways_9 (by decide) ?_
    refine lv_istore_n (lv' := [(3, .int (0 : Int32)), (2, .int (1 : Int32)), (0, .int a0), (1, .int a1)]) hx hb dX8_ways_10 rfl hl (by decide) rfl (fun ls hl => ?_)
    exact t_X8_ways_11 cx hr FU (1 : Int32) (0 : Int32) hF _ _ _ hW hS (lv_sub hl [2, 3, 1, 0] rfl)
  · have hF := it_n c1 hF
    refine lv_iconst (v := (0 : Int32)) hx hb dX8_ways_5 (by decide) ?_
    exact x_iret cx hr hW hS (Option.some.inj hF) rfl dX8_ways_6
def F_X8_all_4 (a0 : Int32) (M : Mem) : Nat → Int32 → Int32 → Option Int32
  | 0, _, _ => none
  | n + 1, x1, x2 => (if a0 < x2 then some x1 else F_X8_all_4 a0 M n (x1 * x2) (x2 + 1))
set_option maxHeartbeats 4000000 in
set_option maxRecDepth 100000 in
theorem t_X8_all_4 {p : Program} {l : Launch} {e : Env} {s : State} {m : MethodId} {args : Array Value} {below : List Frame} {meth : Method} {c : Code} {G : GG} {a0 : Int32} (cx : Cx G cX8_all RX8 3 p s m args meth c) (hr : meth.sig.returnType = (some .int))   {M : Mem} {r : Int32} : ∀ (n : Nat) (x1 : Int32) (x2 : Int32), F_X8_all_4 a0 M n x1 x2 = some r → ∀ (H : Heap) (locs : List Loc) (ls : Array Slot), WH G M H → va_S (g_A G) s.heap H locs → lv_has ls 3 [(0, .int a0), (1, .int x1), (2, .int x2)] → W p l e (RM 0 0) s m args below meth c H locs 0 0 (MQ below (QcI G r M) args s 0 0 (g_A G)) (F0 m 4 ls []) := by
  obtain ⟨hx, hb, hml, hown, hts, hKK, hSS, hlk⟩ := id cx
  intro n
  induction n with
  | zero =>
    intro x1 x2 hF H locs ls hW hS hl
    rw [F_X8_all_4] at hF
    cases hF
  | succ n ih =>
    intro x1 x2 hF H locs ls hW hS hl
    rw [F_X8_all_4] at hF
    refine lv_iload_n hx hb dX8_all_4 rfl (lv_at hl 2 rfl) ?_
    refine lv_iload_n hx hb dX8_all_5 rfl (lv_at hl 0 rfl) ?_
    refine lv_icmp_gt (tgt := 19) hx hb dX8_all_6 (by decide) (fun c1 => ?_) (fun c1 => ?_)
    · have hF := it_p c1 hF
      refine lv_iload_n hx hb dX8_all_19 rfl (lv_at hl 1 rfl) ?_
      exact x_iret cx hr hW hS (Option.some.inj hF) rfl dX8_all_20
    · have hF := it_n c1 hF
      refine lv_iload_n hx hb dX8_all_9 rfl (lv_at hl 1 rfl) ?_
      refine lv_iload_n hx hb dX8_all_10 rfl (lv_at hl 2 rfl) ?_
      refine lv_imul hx hb dX8_all_11 ?_
      refine lv_istore_n (lv' := [(1, .int (x1 * x2)), (0, .int a0), (2, .int x2)]) hx hb dX8_all_12 rfl hl (by decide) rfl (fun ls hl => ?_)
      refine lv_iinc (v := (x2 + 1)) (lv' := [(2, .int (x2 + 1)), (1, .int (x1 * x2)), (0, .int a0)]) hx hb dX8_all_13 hl (k := 2) rfl rfl (by decide) rfl (fun ls hl => ?_)
      refine lv_goto (tgt := 4) hx hb dX8_all_16 (by decide) ?_
      exact ih (x1 * x2) (x2 + 1) hF _ _ _ hW hS (lv_sub hl [2, 1, 0] rfl)
def F_X8_all (a0 : Int32) (M : Mem) : Option Int32 := F_X8_all_4 a0 M FU (1 : Int32) (2 : Int32)
set_option maxHeartbeats 4000000 in
set_option maxRecDepth 100000 in
theorem c_X8_all {l : Launch} {G : GG} {a0 : Int32}  {M : Mem} {r : Int32} (hF : F_X8_all a0 M = some r) : Met l yX8_all (wz yX8_all cX8_all 3 (some .int)) (RM 0 0) (PreC G [.int a0] M) (QcI G r M) 0 0 (g_A G) := by
  rw [F_X8_all] at hF
  refine x_start (by decide) (Nat.le_of_ble_eq_true rfl) (lv := [(0, .int a0)]) rfl ?_
  intro p e s m below meth c cx hr hW hS ls hl
  obtain ⟨hx, hb, hml, hown, hts, hKK, hSS, hlk⟩ := id cx
  refine lv_iconst (v := (1 : Int32)) hx hb dX8_all_0 (by decide) ?_
  refine lv_istore_n (lv' := [(1, .int (1 : Int32)), (0, .int a0)]) hx hb dX8_all_1 rfl hl (by decide) rfl (fun ls hl => ?_)
  refine lv_iconst (v := (2 : Int32)) hx hb dX8_all_2 (by decide) ?_
  refine lv_istore_n (lv' := [(2, .int (2 : Int32)), (1, .int (1 : Int32)), (0, .int a0)]) hx hb dX8_all_3 rfl hl (by decide) rfl (fun ls hl => ?_)
  exact t_X8_all_4 cx hr FU (1 : Int32) (2 : Int32) hF _ _ _ hW hS (lv_sub hl [2, 1, 0] rfl)
def F_X8_divisor_4 (a0 : Int32) (a1 : Int32) (M : Mem) : Nat → Int32 → Int32 → Option Int32
  | 0, _, _ => none
  | n + 1, x2, x3 => (if x3 = 0 then some x2 else dv x3 (F_X8_divisor_4 a0 a1 M n x3 (x2 - x2 / x3 * x3)))
set_option maxHeartbeats 4000000 in
set_option maxRecDepth 100000 in
theorem t_X8_divisor_4 {p : Program} {l : Launch} {e : Env} {s : State} {m : MethodId} {args : Array Value} {below : List Frame} {meth : Method} {c : Code} {G : GG} {a0 : Int32} {a1 : Int32} (cx : Cx G cX8_divisor RX8 5 p s m args meth c) (hr : meth.sig.returnType = (some .int))   {M : Mem} {r : Int32} : ∀ (n : Nat) (x2 : Int32) (x3 : Int32), F_X8_divisor_4 a0 a1 M n x2 x3 = some r → ∀ (H : Heap) (locs : List Loc) (ls : Array Slot), WH G M H → va_S (g_A G) s.heap H locs → lv_has ls 5 [(2, .int x2), (3, .int x3)] → W p l e (RM 0 0) s m args below meth c H locs 0 0 (MQ below (QcI G r M) args s 0 0 (g_A G)) (F0 m 4 ls []) := by
  obtain ⟨hx, hb, hml, hown, hts, hKK, hSS, hlk⟩ := id cx
  intro n
  induction n with
  | zero =>
    intro x2 x3 hF H locs ls hW hS hl
    rw [F_X8_divisor_4] at hF
    cases hF
  | succ n ih =>
    intro x2 x3 hF H locs ls hW hS hl
    rw [F_X8_divisor_4] at hF
    refine lv_iload_n hx hb dX8_divisor_4 rfl (lv_at hl 1 rfl) ?_
    refine lv_if_eq (tgt := 21) hx hb dX8_divisor_5 (by decide) (fun c1 => ?_) (fun c1 => ?_)
    · have hF := it_p c1 hF
      refine lv_iload_n hx hb dX8_divisor_21 rfl (lv_at hl 0 rfl) ?_
      exact x_iret cx hr hW hS (Option.some.inj hF) rfl dX8_divisor_22
    · have hF := it_n c1 hF
      refine lv_iload_n hx hb dX8_divisor_8 rfl (lv_at hl 0 rfl) ?_
      refine lv_iload_n hx hb dX8_divisor_9 rfl (lv_at hl 1 rfl) ?_
      obtain ⟨d2, hF⟩ := dv_e hF
      refine lv_irem hx hb dX8_divisor_10 d2 ?_
      refine lv_istore (lv' := [(4, .int (x2 - x2 / x3 * x3)), (2, .int x2), (3, .int x3)]) hx hb dX8_divisor_11 hl (by decide) rfl (fun ls hl => ?_)
      refine lv_iload_n hx hb dX8_divisor_13 rfl (lv_at hl 2 rfl) ?_
      refine lv_istore_n (lv' := [(2, .int x3), (4, .int (x2 - x2 / x3 * x3)), (3, .int x3)]) hx hb dX8_divisor_14 rfl hl (by decide) rfl (fun ls hl => ?_)
      refine lv_iload hx hb dX8_divisor_15 (lv_at hl 1 rfl) ?_
      refine lv_istore_n (lv' := [(3, .int (x2 - x2 / x3 * x3)), (2, .int x3), (4, .int (x2 - x2 / x3 * x3))]) hx hb dX8_divisor_17 rfl hl (by decide) rfl (fun ls hl => ?_)
      refine lv_goto (tgt := 4) hx hb dX8_divisor_18 (by decide) ?_
      exact ih x3 (x2 - x2 / x3 * x3) hF _ _ _ hW hS (lv_sub hl [1, 0] rfl)
def F_X8_divisor (a0 : Int32) (a1 : Int32) (M : Mem) : Option Int32 := F_X8_divisor_4 a0 a1 M FU a0 a1
set_option maxHeartbeats 4000000 in
set_option maxRecDepth 100000 in
theorem c_X8_divisor {l : Launch} {G : GG} {a0 : Int32} {a1 : Int32}  {M : Mem} {r : Int32} (hF : F_X8_divisor a0 a1 M = some r) : Met l yX8_divisor (wz yX8_divisor cX8_divisor 5 (some .int)) (RM 0 0) (PreC G [.int a0, .int a1] M) (QcI G r M) 0 0 (g_A G) := by
  rw [F_X8_divisor] at hF
  refine x_start (by decide) (Nat.le_of_ble_eq_true rfl) (lv := [(0, .int a0), (1, .int a1)]) rfl ?_
  intro p e s m below meth c cx hr hW hS ls hl
  obtain ⟨hx, hb, hml, hown, hts, hKK, hSS, hlk⟩ := id cx
  refine lv_iload_n hx hb dX8_divisor_0 rfl (lv_at hl 0 rfl) ?_
  refine lv_istore_n (lv' := [(2, .int a0), (0, .int a0), (1, .int a1)]) hx hb dX8_divisor_1 rfl hl (by decide) rfl (fun ls hl => ?_)
  refine lv_iload_n hx hb dX8_divisor_2 rfl (lv_at hl 2 rfl) ?_
  refine lv_istore_n (lv' := [(3, .int a1), (2, .int a0), (0, .int a0), (1, .int a1)]) hx hb dX8_divisor_3 rfl hl (by decide) rfl (fun ls hl => ?_)
  exact t_X8_divisor_4 cx hr FU a0 a1 hF _ _ _ hW hS (lv_sub hl [1, 0] rfl)
def F_X8_odds (a1 : Int32) (M : Mem) : Option (Int32 × Mem) := (F_X8_in a1 (0 : Int32) (1 : Int32) M).bind (fun r2 => (if r2 = 0 then bn (F_X8_finds (-1000000001 : Int32) M) (fun r23 M24 => some (r23, M24)) else (F_X8_children M).bind (fun r5 => (F_X8_bits r5 M).bind (fun r7 => ix 51 (2 : Int32) (fun j8 => (F_X8_ways ((m_I M 50 j8) - r7) (0 : Int32) M).bind (fun r10 => (F_X8_ways r7 (0 : Int32) M).bind (fun r12 => (F_X8_all ((m_I M 50 j8) - r7) M).bind (fun r14 => (F_X8_all r7 M).bind (fun r16 => (F_X8_divisor (r10 * r12) (r14 * r16) M).bind (fun r18 => (if a1 = 0 then dv r18 (some (((r10 * r12) / r18), M)) else dv r18 (some (((r14 * r16) / r18), M)))))))))))))
set_option maxHeartbeats 4000000 in
set_option maxRecDepth 100000 in
theorem c_X8_odds {l : Launch} {G : GG} {a1 : Int32}  {M : Mem} {r : Int32} {M1 : Mem} (hF : F_X8_odds a1 M = some (r, M1)) : Met l yX8_odds (wz yX8_odds cX8_odds 7 (some .int)) (RM 3 65) (PreC G [.ref (g_ad G 49), .int a1] M) (QcI G r M1) 0 0 (g_A G) := by
  rw [F_X8_odds] at hF
  refine x_start (by decide) (Nat.le_of_ble_eq_true rfl) (lv := [(0, .ref (g_ad G 49)), (1, .int a1)]) rfl ?_
  intro p e s m below meth c cx hr hW hS ls hl
  obtain ⟨hx, hb, hml, hown, hts, hKK, hSS, hlk⟩ := id cx
  refine lv_iload_n hx hb dX8_odds_0 rfl (lv_at hl 1 rfl) ?_
  refine lv_iconst (v := (0 : Int32)) hx hb dX8_odds_1 (by decide) ?_
  refine lv_iconst (v := (1 : Int32)) hx hb dX8_odds_2 (by decide) ?_
  obtain ⟨r2, hc1, hF⟩ := bi_e hF
  refine x_goi (x_runS cx hW hS (c_X8_in (l := l) (G := G) hc1) cs_X8_57 (rest := []) ⟨Nat.le_of_ble_eq_true rfl, Nat.le_of_ble_eq_true rfl⟩ hl.1 rfl rfl (Nat.le_of_ble_eq_true rfl) ⟨Nat.zero_le _, Nat.zero_le _⟩ dX8_odds_3) hS (fun H locs hW hS => ?_)
  refine lv_if_ne (tgt := 16) hx hb dX8_odds_6 (by decide) (fun c3 => ?_) (fun c3 => ?_)
  · have hF := it_n c3 hF
    refine lv_aload_n hx hb dX8_odds_16 rfl (lv_at hl 0 rfl) ?_
    obtain ⟨r5, hc4, hF⟩ := bi_e hF
    refine x_goi (x_runV cx hW hS (c_X8_children (l := l) (G := G) hc4) cv_X8_145 kc_49 rfl (rest := []) ⟨Nat.le_of_ble_eq_true rfl, Nat.le_of_ble_eq_true rfl⟩ hl.1 rfl rfl (Nat.le_of_ble_eq_true rfl) ⟨Nat.zero_le _, Nat.zero_le _⟩ dX8_odds_17) hS (fun H locs hW hS => ?_)
    obtain ⟨r7, hc6, hF⟩ := bi_e hF
    refine x_goi (x_runS cx hW hS (c_X8_bits (l := l) (G := G) hc6) cs_X8_115 (rest := []) ⟨Nat.le_of_ble_eq_true rfl, Nat.le_of_ble_eq_true rfl⟩ hl.1 rfl rfl (Nat.le_of_ble_eq_true rfl) ⟨Nat.zero_le _, Nat.zero_le _⟩ dX8_odds_20) hS (fun H locs hW hS => ?_)
    refine lv_istore_n (lv' := [(2, .int r7), (0, .ref (g_ad G 49)), (1, .int a1)]) hx hb dX8_odds_23 rfl hl (by decide) rfl (fun ls hl => ?_)
    refine lv_aload_n hx hb dX8_odds_24 rfl (lv_at hl 1 rfl) ?_
    refine x_get cx hW kc_49 fk_X8_7 (v := .ref (g_ad G 50)) rfl dX8_odds_25 ?_
    refine lv_iconst (v := (2 : Int32)) hx hb dX8_odds_28 (by decide) ?_
    obtain ⟨j8, hj8, gj8, hF⟩ := ix_e hF
    refine x_iald cx hW kc_50 (by decide) hj8 gj8 dX8_odds_29 ?_
    refine lv_iload_n hx hb dX8_odds_30 rfl (lv_at hl 0 rfl) ?_
    refine lv_isub hx hb dX8_odds_31 ?_
    refine lv_istore_n (lv' := [(3, .int ((m_I M 50 j8) - r7)), (2, .int r7), (0, .ref (g_ad G 49)), (1, .int a1)]) hx hb dX8_odds_32 rfl hl (by decide) rfl (fun ls hl => ?_)
    refine lv_iload_n hx hb dX8_odds_33 rfl (lv_at hl 0 rfl) ?_
    refine lv_iconst (v := (0 : Int32)) hx hb dX8_odds_34 (by decide) ?_
    obtain ⟨r10, hc9, hF⟩ := bi_e hF
    refine x_goi (x_runS cx hW hS (c_X8_ways (l := l) (G := G) hc9) cs_X8_169 (rest := []) ⟨Nat.le_of_ble_eq_true rfl, Nat.le_of_ble_eq_true rfl⟩ hl.1 rfl rfl (Nat.le_of_ble_eq_true rfl) ⟨Nat.zero_le _, Nat.zero_le _⟩ dX8_odds_35) hS (fun H locs hW hS => ?_)
    refine lv_iload_n hx hb dX8_odds_38 rfl (lv_at hl 1 rfl) ?_
    refine lv_iconst (v := (0 : Int32)) hx hb dX8_odds_39 (by decide) ?_
    obtain ⟨r12, hc11, hF⟩ := bi_e hF
    refine x_goi (x_runS cx hW hS (c_X8_ways (l := l) (G := G) hc11) cs_X8_169 (rest := [.int r10]) ⟨Nat.le_of_ble_eq_true rfl, Nat.le_of_ble_eq_true rfl⟩ hl.1 rfl rfl (Nat.le_of_ble_eq_true rfl) ⟨Nat.zero_le _, Nat.zero_le _⟩ dX8_odds_40) hS (fun H locs hW hS => ?_)
    refine lv_imul hx hb dX8_odds_43 ?_
    refine lv_istore (lv' := [(4, .int (r10 * r12)), (3, .int ((m_I M 50 j8) - r7)), (2, .int r7), (0, .ref (g_ad G 49)), (1, .int a1)]) hx hb dX8_odds_44 hl (by decide) rfl (fun ls hl => ?_)
    refine lv_iload_n hx hb dX8_odds_46 rfl (lv_at hl 1 rfl) ?_
    obtain ⟨r14, hc13, hF⟩ := bi_e hF
    refine x_goi (x_runS cx hW hS (c_X8_all (l := l) (G := G) hc13) cs_X8_172 (rest := []) ⟨Nat.le_of_ble_eq_true rfl, Nat.le_of_ble_eq_true rfl⟩ hl.1 rfl rfl (Nat.le_of_ble_eq_true rfl) ⟨Nat.zero_le _, Nat.zero_le _⟩ dX8_odds_47) hS (fun H locs hW hS => ?_)
    refine lv_iload_n hx hb dX8_odds_50 rfl (lv_at hl 2 rfl) ?_
    obtain ⟨r16, hc15, hF⟩ := bi_e hF
    refine x_goi (x_runS cx hW hS (c_X8_all (l := l) (G := G) hc15) cs_X8_172 (rest := [.int r14]) ⟨Nat.le_of_ble_eq_true rfl, Nat.le_of_ble_eq_true rfl⟩ hl.1 rfl rfl (Nat.le_of_ble_eq_true rfl) ⟨Nat.zero_le _, Nat.zero_le _⟩ dX8_odds_51) hS (fun H locs hW hS => ?_)
    refine lv_imul hx hb dX8_odds_54 ?_
    refine lv_istore (lv' := [(5, .int (r14 * r16)), (4, .int (r10 * r12)), (3, .int ((m_I M 50 j8) - r7)), (2, .int r7), (0, .ref (g_ad G 49)), (1, .int a1)]) hx hb dX8_odds_55 hl (by decide) rfl (fun ls hl => ?_)
    refine lv_iload hx hb dX8_odds_57 (lv_at hl 1 rfl) ?_
    refine lv_iload hx hb dX8_odds_59 (lv_at hl 0 rfl) ?_
    obtain ⟨r18, hc17, hF⟩ := bi_e hF
    refine x_goi (x_runS cx hW hS (c_X8_divisor (l := l) (G := G) hc17) cs_X8_175 (rest := []) ⟨Nat.le_of_ble_eq_true rfl, Nat.le_of_ble_eq_true rfl⟩ hl.1 rfl rfl (Nat.le_of_ble_eq_true rfl) ⟨Nat.zero_le _, Nat.zero_le _⟩ dX8_odds_61) hS (fun H locs hW hS => ?_)
    refine lv_istore (lv' := [(6, .int r18), (5, .int (r14 * r16)), (4, .int (r10 * r12)), (3, .int ((m_I M 50 j8) - r7)), (2, .int r7), (0, .ref (g_ad G 49)), (1, .int a1)]) hx hb dX8_odds_64 hl (by decide) rfl (fun ls hl => ?_)
    refine lv_iload_n hx hb dX8_odds_66 rfl (lv_at hl 6 rfl) ?_
    refine lv_if_ne (tgt := 78) hx hb dX8_odds_67 (by decide) (fun c19 => ?_) (fun c19 => ?_)
    · have hF := it_n c19 hF
      refine lv_iload hx hb dX8_odds_78 (lv_at hl 1 rfl) ?_
      refine lv_iload hx hb dX8_odds_80 (lv_at hl 0 rfl) ?_
      obtain ⟨d20, hF⟩ := dv_e hF
      refine lv_idiv hx hb dX8_odds_82 d20 ?_
      exact x_iret cx hr hW hS (sp_1 hF) (sp_2 hF) dX8_odds_83
    · have hF := it_p c19 hF
      refine lv_iload hx hb dX8_odds_70 (lv_at hl 2 rfl) ?_
      refine lv_iload hx hb dX8_odds_72 (lv_at hl 0 rfl) ?_
      obtain ⟨d21, hF⟩ := dv_e hF
      refine lv_idiv hx hb dX8_odds_74 d21 ?_
      refine lv_goto (tgt := 83) hx hb dX8_odds_75 (by decide) ?_
      exact x_iret cx hr hW hS (sp_1 hF) (sp_2 hF) dX8_odds_83
  · have hF := it_p c3 hF
    refine lv_aload_n hx hb dX8_odds_9 rfl (lv_at hl 0 rfl) ?_
    refine x_ldc cx q_k_X8_56 dX8_odds_10 ?_
    obtain ⟨r23, M24, hc22, hF⟩ := bn_e hF
    refine x_goi (x_runV cx hW hS (c_X8_finds (l := l) (G := G) hc22) cv_X8_83 kc_49 rfl (rest := []) ⟨Nat.le_of_ble_eq_true rfl, Nat.le_of_ble_eq_true rfl⟩ hl.1 rfl rfl (Nat.le_of_ble_eq_true rfl) ⟨Nat.zero_le _, Nat.zero_le _⟩ dX8_odds_12) hS (fun H locs hW hS => ?_)
    exact x_iret cx hr hW hS (sp_1 hF) (sp_2 hF) dX8_odds_15
def F_X8_lots_30 (a1 : Int32) : Nat → Int32 → Int32 → Int32 → Mem → Option (Int32 × Mem)
  | 0, _, _, _, _ => none
  | n + 1, x2, x3, x4, M => (if a1 < x4 then some (x3, M) else (F_X8_ways x2 x4 M).bind (fun r10 => ix 51 (2 : Int32) (fun j11 => (F_X8_ways ((m_I M 50 j11) - x2) (a1 - x4) M).bind (fun r13 => F_X8_lots_30 a1 n x2 (x3 + (r10 * r13)) (x4 + 1) M))))
set_option maxHeartbeats 4000000 in
set_option maxRecDepth 100000 in
theorem t_X8_lots_30 {p : Program} {l : Launch} {e : Env} {s : State} {m : MethodId} {args : Array Value} {below : List Frame} {meth : Method} {c : Code} {G : GG} {a1 : Int32} (cx : Cx G cX8_lots RX8 5 p s m args meth c) (hr : meth.sig.returnType = (some .int))   {r : Int32} {M1 : Mem} : ∀ (n : Nat) (x2 : Int32) (x3 : Int32) (x4 : Int32) (M : Mem), F_X8_lots_30 a1 n x2 x3 x4 M = some (r, M1) → ∀ (H : Heap) (locs : List Loc) (ls : Array Slot), WH G M H → va_S (g_A G) s.heap H locs → lv_has ls 5 [(0, .ref (g_ad G 49)), (1, .int a1), (2, .int x2), (3, .int x3), (4, .int x4)] → W p l e (RM 3 65) s m args below meth c H locs 0 0 (MQ below (QcI G r M1) args s 0 0 (g_A G)) (F0 m 30 ls []) := by
  obtain ⟨hx, hb, hml, hown, hts, hKK, hSS, hlk⟩ := id cx
  intro n
  induction n with
  | zero =>
    intro x2 x3 x4 M hF H locs ls hW hS hl
    rw [F_X8_lots_30] at hF
    cases hF
  | succ n ih =>
    intro x2 x3 x4 M hF H locs ls hW hS hl
    rw [F_X8_lots_30] at hF
    refine lv_iload hx hb dX8_lots_30 (lv_at hl 4 rfl) ?_
    refine lv_iload_n hx hb dX8_lots_32 rfl (lv_at hl 1 rfl) ?_
    refine lv_icmp_gt (tgt := 67) hx hb dX8_lots_33 (by decide) (fun c8 => ?_) (fun c8 => ?_)
    · have hF := it_p c8 hF
      refine lv_iload_n hx hb dX8_lots_67 rfl (lv_at hl 3 rfl) ?_
      exact x_iret cx hr hW hS (sp_1 hF) (sp_2 hF) dX8_lots_68
    · have hF := it_n c8 hF
      refine lv_iload_n hx hb dX8_lots_36 rfl (lv_at hl 3 rfl) ?_
      refine lv_iload_n hx hb dX8_lots_37 rfl (lv_at hl 2 rfl) ?_
      refine lv_iload hx hb dX8_lots_38 (lv_at hl 4 rfl) ?_
      obtain ⟨r10, hc9, hF⟩ := bi_e hF
      refine x_goi (x_runS cx hW hS (c_X8_ways (l := l) (G := G) hc9) cs_X8_169 (rest := [.int x3]) ⟨Nat.le_of_ble_eq_true rfl, Nat.le_of_ble_eq_true rfl⟩ hl.1 rfl rfl (Nat.le_of_ble_eq_true rfl) ⟨Nat.zero_le _, Nat.zero_le _⟩ dX8_lots_40) hS (fun H locs hW hS => ?_)
      refine lv_aload_n hx hb dX8_lots_43 rfl (lv_at hl 0 rfl) ?_
      refine x_get cx hW kc_49 fk_X8_7 (v := .ref (g_ad G 50)) rfl dX8_lots_44 ?_
      refine lv_iconst (v := (2 : Int32)) hx hb dX8_lots_47 (by decide) ?_
      obtain ⟨j11, hj11, gj11, hF⟩ := ix_e hF
      refine x_iald cx hW kc_50 (by decide) hj11 gj11 dX8_lots_48 ?_
      refine lv_iload_n hx hb dX8_lots_49 rfl (lv_at hl 2 rfl) ?_
      refine lv_isub hx hb dX8_lots_50 ?_
      refine lv_iload_n hx hb dX8_lots_51 rfl (lv_at hl 1 rfl) ?_
      refine lv_iload hx hb dX8_lots_52 (lv_at hl 4 rfl) ?_
      refine lv_isub hx hb dX8_lots_54 ?_
      obtain ⟨r13, hc12, hF⟩ := bi_e hF
      refine x_goi (x_runS cx hW hS (c_X8_ways (l := l) (G := G) hc12) cs_X8_169 (rest := [.int r10, .int x3]) ⟨Nat.le_of_ble_eq_true rfl, Nat.le_of_ble_eq_true rfl⟩ hl.1 rfl rfl (Nat.le_of_ble_eq_true rfl) ⟨Nat.zero_le _, Nat.zero_le _⟩ dX8_lots_55) hS (fun H locs hW hS => ?_)
      refine lv_imul hx hb dX8_lots_58 ?_
      refine lv_iadd hx hb dX8_lots_59 ?_
      refine lv_istore_n (lv' := [(3, .int (x3 + (r10 * r13))), (0, .ref (g_ad G 49)), (1, .int a1), (2, .int x2), (4, .int x4)]) hx hb dX8_lots_60 rfl hl (by decide) rfl (fun ls hl => ?_)
      refine lv_iinc (v := (x4 + 1)) (lv' := [(4, .int (x4 + 1)), (3, .int (x3 + (r10 * r13))), (0, .ref (g_ad G 49)), (1, .int a1), (2, .int x2)]) hx hb dX8_lots_61 hl (k := 4) rfl rfl (by decide) rfl (fun ls hl => ?_)
      refine lv_goto (tgt := 30) hx hb dX8_lots_64 (by decide) ?_
      exact ih x2 (x3 + (r10 * r13)) (x4 + 1) M hF _ _ _ hW hS (lv_sub hl [2, 3, 4, 1, 0] rfl)
def F_X8_lots (a1 : Int32) (M : Mem) : Option (Int32 × Mem) := (F_X8_in a1 (0 : Int32) (8 : Int32) M).bind (fun r2 => (if r2 = 0 then bn (F_X8_finds (-1000000001 : Int32) M) (fun r15 M16 => some (r15, M16)) else (F_X8_children M).bind (fun r5 => (F_X8_bits r5 M).bind (fun r7 => F_X8_lots_30 a1 FU r7 (0 : Int32) (0 : Int32) M))))
set_option maxHeartbeats 4000000 in
set_option maxRecDepth 100000 in
theorem c_X8_lots {l : Launch} {G : GG} {a1 : Int32}  {M : Mem} {r : Int32} {M1 : Mem} (hF : F_X8_lots a1 M = some (r, M1)) : Met l yX8_lots (wz yX8_lots cX8_lots 5 (some .int)) (RM 3 65) (PreC G [.ref (g_ad G 49), .int a1] M) (QcI G r M1) 0 0 (g_A G) := by
  rw [F_X8_lots] at hF
  refine x_start (by decide) (Nat.le_of_ble_eq_true rfl) (lv := [(0, .ref (g_ad G 49)), (1, .int a1)]) rfl ?_
  intro p e s m below meth c cx hr hW hS ls hl
  obtain ⟨hx, hb, hml, hown, hts, hKK, hSS, hlk⟩ := id cx
  refine lv_iload_n hx hb dX8_lots_0 rfl (lv_at hl 1 rfl) ?_
  refine lv_iconst (v := (0 : Int32)) hx hb dX8_lots_1 (by decide) ?_
  refine lv_bipush (v := (8 : Int32)) hx hb dX8_lots_2 (by decide) ?_
  obtain ⟨r2, hc1, hF⟩ := bi_e hF
  refine x_goi (x_runS cx hW hS (c_X8_in (l := l) (G := G) hc1) cs_X8_57 (rest := []) ⟨Nat.le_of_ble_eq_true rfl, Nat.le_of_ble_eq_true rfl⟩ hl.1 rfl rfl (Nat.le_of_ble_eq_true rfl) ⟨Nat.zero_le _, Nat.zero_le _⟩ dX8_lots_4) hS (fun H locs hW hS => ?_)
  refine lv_if_ne (tgt := 17) hx hb dX8_lots_7 (by decide) (fun c3 => ?_) (fun c3 => ?_)
  · have hF := it_n c3 hF
    refine lv_aload_n hx hb dX8_lots_17 rfl (lv_at hl 0 rfl) ?_
    obtain ⟨r5, hc4, hF⟩ := bi_e hF
    refine x_goi (x_runV cx hW hS (c_X8_children (l := l) (G := G) hc4) cv_X8_145 kc_49 rfl (rest := []) ⟨Nat.le_of_ble_eq_true rfl, Nat.le_of_ble_eq_true rfl⟩ hl.1 rfl rfl (Nat.le_of_ble_eq_true rfl) ⟨Nat.zero_le _, Nat.zero_le _⟩ dX8_lots_18) hS (fun H locs hW hS => ?_)
    obtain ⟨r7, hc6, hF⟩ := bi_e hF
    refine x_goi (x_runS cx hW hS (c_X8_bits (l := l) (G := G) hc6) cs_X8_115 (rest := []) ⟨Nat.le_of_ble_eq_true rfl, Nat.le_of_ble_eq_true rfl⟩ hl.1 rfl rfl (Nat.le_of_ble_eq_true rfl) ⟨Nat.zero_le _, Nat.zero_le _⟩ dX8_lots_21) hS (fun H locs hW hS => ?_)
    refine lv_istore_n (lv' := [(2, .int r7), (0, .ref (g_ad G 49)), (1, .int a1)]) hx hb dX8_lots_24 rfl hl (by decide) rfl (fun ls hl => ?_)
    refine lv_iconst (v := (0 : Int32)) hx hb dX8_lots_25 (by decide) ?_
    refine lv_istore_n (lv' := [(3, .int (0 : Int32)), (2, .int r7), (0, .ref (g_ad G 49)), (1, .int a1)]) hx hb dX8_lots_26 rfl hl (by decide) rfl (fun ls hl => ?_)
    refine lv_iconst (v := (0 : Int32)) hx hb dX8_lots_27 (by decide) ?_
    refine lv_istore (lv' := [(4, .int (0 : Int32)), (3, .int (0 : Int32)), (2, .int r7), (0, .ref (g_ad G 49)), (1, .int a1)]) hx hb dX8_lots_28 hl (by decide) rfl (fun ls hl => ?_)
    exact t_X8_lots_30 cx hr FU r7 (0 : Int32) (0 : Int32) M hF _ _ _ hW hS (lv_sub hl [3, 4, 2, 1, 0] rfl)
  · have hF := it_p c3 hF
    refine lv_aload_n hx hb dX8_lots_10 rfl (lv_at hl 0 rfl) ?_
    refine x_ldc cx q_k_X8_56 dX8_lots_11 ?_
    obtain ⟨r15, M16, hc14, hF⟩ := bn_e hF
    refine x_goi (x_runV cx hW hS (c_X8_finds (l := l) (G := G) hc14) cv_X8_83 kc_49 rfl (rest := []) ⟨Nat.le_of_ble_eq_true rfl, Nat.le_of_ble_eq_true rfl⟩ hl.1 rfl rfl (Nat.le_of_ble_eq_true rfl) ⟨Nat.zero_le _, Nat.zero_le _⟩ dX8_lots_13) hS (fun H locs hW hS => ?_)
    exact x_iret cx hr hW hS (sp_1 hF) (sp_2 hF) dX8_lots_16
def F_X8_feed_38 (a1 : Int32) (a2 : Int32) : Nat → Int32 → Mem → Option (Int32 × Mem)
  | 0, _, _ => none
  | n + 1, x3, M => (if x3 < 0 then some ((m_I M 49 9), M) else ix 120 (m_I M 49 9) (fun j6 => pin (w_I M 58 j6 ((a1 >>> (((8 : Int32) * x3) &&& 31)) &&& (255 : Int32))) (fun M7 => pin (w_I M7 49 9 ((m_I M7 49 9) + (1 : Int32))) (fun M8 => F_X8_feed_38 a1 a2 n (x3 + (-1 : Int32)) M8))))
set_option maxHeartbeats 4000000 in
set_option maxRecDepth 100000 in
theorem t_X8_feed_38 {p : Program} {l : Launch} {e : Env} {s : State} {m : MethodId} {args : Array Value} {below : List Frame} {meth : Method} {c : Code} {G : GG} {a1 : Int32} {a2 : Int32} (cx : Cx G cX8_feed RX8 4 p s m args meth c) (hr : meth.sig.returnType = (some .int))   {r : Int32} {M1 : Mem} : ∀ (n : Nat) (x3 : Int32) (M : Mem), F_X8_feed_38 a1 a2 n x3 M = some (r, M1) → ∀ (H : Heap) (locs : List Loc) (ls : Array Slot), WH G M H → va_S (g_A G) s.heap H locs → lv_has ls 4 [(0, .ref (g_ad G 49)), (1, .int a1), (3, .int x3)] → W p l e (RM 1 22) s m args below meth c H locs 0 0 (MQ below (QcI G r M1) args s 0 0 (g_A G)) (F0 m 38 ls []) := by
  obtain ⟨hx, hb, hml, hown, hts, hKK, hSS, hlk⟩ := id cx
  intro n
  induction n with
  | zero =>
    intro x3 M hF H locs ls hW hS hl
    rw [F_X8_feed_38] at hF
    cases hF
  | succ n ih =>
    intro x3 M hF H locs ls hW hS hl
    rw [F_X8_feed_38] at hF
    refine lv_iload_n hx hb dX8_feed_38 rfl (lv_at hl 2 rfl) ?_
    refine lv_if_lt (tgt := 77) hx hb dX8_feed_39 (by decide) (fun c5 => ?_) (fun c5 => ?_)
    · have hF := it_p c5 hF
      refine lv_aload_n hx hb dX8_feed_77 rfl (lv_at hl 0 rfl) ?_
      refine x_get cx hW kc_49 fk_X8_178 (v := .int (m_I M 49 9)) rfl dX8_feed_78 ?_
      exact x_iret cx hr hW hS (sp_1 hF) (sp_2 hF) dX8_feed_81
    · have hF := it_n c5 hF
      refine lv_aload_n hx hb dX8_feed_42 rfl (lv_at hl 0 rfl) ?_
      refine x_get cx hW kc_49 fk_X8_34 (v := .ref (g_ad G 58)) rfl dX8_feed_43 ?_
      refine lv_aload_n hx hb dX8_feed_46 rfl (lv_at hl 0 rfl) ?_
      refine x_get cx hW kc_49 fk_X8_178 (v := .int (m_I M 49 9)) rfl dX8_feed_47 ?_
      refine lv_iload_n hx hb dX8_feed_50 rfl (lv_at hl 1 rfl) ?_
      refine lv_bipush (v := (8 : Int32)) hx hb dX8_feed_51 (by decide) ?_
      refine lv_iload_n hx hb dX8_feed_53 rfl (lv_at hl 2 rfl) ?_
      refine lv_imul hx hb dX8_feed_54 ?_
      refine lv_ishr hx hb dX8_feed_55 ?_
      refine lv_sipush (v := (255 : Int32)) hx hb dX8_feed_56 (by decide) ?_
      refine lv_iand hx hb dX8_feed_59 ?_
      obtain ⟨j6, hj6, gj6, hF⟩ := ix_e hF
      obtain ⟨M7, eM7, hF⟩ := pin_e hF
      refine x_iast cx hW hS kc_58 (by decide) hj6 gj6 eM7 dX8_feed_60 (fun H locs hW hS => ?_)
      refine lv_aload_n hx hb dX8_feed_61 rfl (lv_at hl 0 rfl) ?_
      refine lv_dup hx hb dX8_feed_62 rfl ?_
      refine x_get cx hW kc_49 fk_X8_178 (v := .int (m_I M7 49 9)) rfl dX8_feed_63 ?_
      refine lv_iconst (v := (1 : Int32)) hx hb dX8_feed_66 (by decide) ?_
      refine lv_iadd hx hb dX8_feed_67 ?_
      obtain ⟨M8, eM8, hF⟩ := pin_e hF
      refine x_puti cx hW hS kc_49 fk_X8_178 ft_6_9 (Nat.le_of_ble_eq_true rfl) fs_6_9 eM8 dX8_feed_68 (fun H locs hW hS => ?_)
      refine lv_iinc (v := (x3 + (-1 : Int32))) (lv' := [(3, .int (x3 + (-1 : Int32))), (0, .ref (g_ad G 49)), (1, .int a1)]) hx hb dX8_feed_71 hl (k := 2) rfl rfl (by decide) rfl (fun ls hl => ?_)
      refine lv_goto (tgt := 38) hx hb dX8_feed_74 (by decide) ?_
      exact ih (x3 + (-1 : Int32)) M8 hF _ _ _ hW hS (lv_sub hl [1, 2, 0] rfl)
def F_X8_feed (a1 : Int32) (a2 : Int32) (M : Mem) : Option (Int32 × Mem) := (F_X8_in a2 (1 : Int32) (4 : Int32) M).bind (fun r2 => (if r2 = 0 then bn (F_X8_finds (-1000000001 : Int32) M) (fun r13 M14 => some (r13, M14)) else (if ((m_I M 49 9) + a2) ≤ (120 : Int32) then F_X8_feed_38 a1 a2 FU (a2 - (1 : Int32)) M else bn (F_X8_finds (-1000000002 : Int32) M) (fun r10 M11 => some (r10, M11)))))
set_option maxHeartbeats 4000000 in
set_option maxRecDepth 100000 in
theorem c_X8_feed {l : Launch} {G : GG} {a1 : Int32} {a2 : Int32}  {M : Mem} {r : Int32} {M1 : Mem} (hF : F_X8_feed a1 a2 M = some (r, M1)) : Met l yX8_feed (wz yX8_feed cX8_feed 4 (some .int)) (RM 1 22) (PreC G [.ref (g_ad G 49), .int a1, .int a2] M) (QcI G r M1) 0 0 (g_A G) := by
  rw [F_X8_feed] at hF
  refine x_start (by decide) (Nat.le_of_ble_eq_true rfl) (lv := [(0, .ref (g_ad G 49)), (1, .int a1), (2, .int a2)]) rfl ?_
  intro p e s m below meth c cx hr hW hS ls hl
  obtain ⟨hx, hb, hml, hown, hts, hKK, hSS, hlk⟩ := id cx
  refine lv_iload_n hx hb dX8_feed_0 rfl (lv_at hl 2 rfl) ?_
  refine lv_iconst (v := (1 : Int32)) hx hb dX8_feed_1 (by decide) ?_
  refine lv_iconst (v := (4 : Int32)) hx hb dX8_feed_2 (by decide) ?_
  obtain ⟨r2, hc1, hF⟩ := bi_e hF
  refine x_goi (x_runS cx hW hS (c_X8_in (l := l) (G := G) hc1) cs_X8_57 (rest := []) ⟨Nat.le_of_ble_eq_true rfl, Nat.le_of_ble_eq_true rfl⟩ hl.1 rfl rfl (Nat.le_of_ble_eq_true rfl) ⟨Nat.zero_le _, Nat.zero_le _⟩ dX8_feed_3) hS (fun H locs hW hS => ?_)
  refine lv_if_ne (tgt := 16) hx hb dX8_feed_6 (by decide) (fun c3 => ?_) (fun c3 => ?_)
  · have hF := it_n c3 hF
    refine lv_aload_n hx hb dX8_feed_16 rfl (lv_at hl 0 rfl) ?_
    refine x_get cx hW kc_49 fk_X8_178 (v := .int (m_I M 49 9)) rfl dX8_feed_17 ?_
    refine lv_iload_n hx hb dX8_feed_20 rfl (lv_at hl 2 rfl) ?_
    refine lv_iadd hx hb dX8_feed_21 ?_
    refine lv_bipush (v := (120 : Int32)) hx hb dX8_feed_22 (by decide) ?_
    refine lv_icmp_le (tgt := 34) hx hb dX8_feed_24 (by decide) (fun c4 => ?_) (fun c4 => ?_)
    · have hF := it_p c4 hF
      refine lv_iload_n hx hb dX8_feed_34 rfl (lv_at hl 2 rfl) ?_
      refine lv_iconst (v := (1 : Int32)) hx hb dX8_feed_35 (by decide) ?_
      refine lv_isub hx hb dX8_feed_36 ?_
      refine lv_istore_n (lv' := [(3, .int (a2 - (1 : Int32))), (0, .ref (g_ad G 49)), (1, .int a1), (2, .int a2)]) hx hb dX8_feed_37 rfl hl (by decide) rfl (fun ls hl => ?_)
      exact t_X8_feed_38 cx hr FU (a2 - (1 : Int32)) M hF _ _ _ hW hS (lv_sub hl [1, 2, 0] rfl)
    · have hF := it_n c4 hF
      refine lv_aload_n hx hb dX8_feed_27 rfl (lv_at hl 0 rfl) ?_
      refine x_ldc cx q_k_X8_86 dX8_feed_28 ?_
      obtain ⟨r10, M11, hc9, hF⟩ := bn_e hF
      refine x_goi (x_runV cx hW hS (c_X8_finds (l := l) (G := G) hc9) cv_X8_83 kc_49 rfl (rest := []) ⟨Nat.le_of_ble_eq_true rfl, Nat.le_of_ble_eq_true rfl⟩ hl.1 rfl rfl (Nat.le_of_ble_eq_true rfl) ⟨Nat.zero_le _, Nat.zero_le _⟩ dX8_feed_30) hS (fun H locs hW hS => ?_)
      exact x_iret cx hr hW hS (sp_1 hF) (sp_2 hF) dX8_feed_33
  · have hF := it_p c3 hF
    refine lv_aload_n hx hb dX8_feed_9 rfl (lv_at hl 0 rfl) ?_
    refine x_ldc cx q_k_X8_56 dX8_feed_10 ?_
    obtain ⟨r13, M14, hc12, hF⟩ := bn_e hF
    refine x_goi (x_runV cx hW hS (c_X8_finds (l := l) (G := G) hc12) cv_X8_83 kc_49 rfl (rest := []) ⟨Nat.le_of_ble_eq_true rfl, Nat.le_of_ble_eq_true rfl⟩ hl.1 rfl rfl (Nat.le_of_ble_eq_true rfl) ⟨Nat.zero_le _, Nat.zero_le _⟩ dX8_feed_12) hS (fun H locs hW hS => ?_)
    exact x_iret cx hr hW hS (sp_1 hF) (sp_2 hF) dX8_feed_15
def F_X8_wipe (M : Mem) : Option (Int32 × Mem) := pin (w_I M 49 9 (0 : Int32)) (fun M1 => some ((m_I M 49 9), M1))
set_option maxHeartbeats 4000000 in
set_option maxRecDepth 100000 in
theorem c_X8_wipe {l : Launch} {G : GG}   {M : Mem} {r : Int32} {M1 : Mem} (hF : F_X8_wipe M = some (r, M1)) : Met l yX8_wipe (wz yX8_wipe cX8_wipe 2 (some .int)) (RM 0 0) (PreC G [.ref (g_ad G 49)] M) (QcI G r M1) 0 0 (g_A G) := by
  rw [F_X8_wipe] at hF
  refine x_start (by decide) (Nat.le_of_ble_eq_true rfl) (lv := [(0, .ref (g_ad G 49))]) rfl ?_
  intro p e s m below meth c cx hr hW hS ls hl
  obtain ⟨hx, hb, hml, hown, hts, hKK, hSS, hlk⟩ := id cx
  refine lv_aload_n hx hb dX8_wipe_0 rfl (lv_at hl 0 rfl) ?_
  refine x_get cx hW kc_49 fk_X8_178 (v := .int (m_I M 49 9)) rfl dX8_wipe_1 ?_
  refine lv_istore_n (lv' := [(1, .int (m_I M 49 9)), (0, .ref (g_ad G 49))]) hx hb dX8_wipe_4 rfl hl (by decide) rfl (fun ls hl => ?_)
  refine lv_aload_n hx hb dX8_wipe_5 rfl (lv_at hl 1 rfl) ?_
  refine lv_iconst (v := (0 : Int32)) hx hb dX8_wipe_6 (by decide) ?_
  obtain ⟨M1, eM1, hF⟩ := pin_e hF
  refine x_puti cx hW hS kc_49 fk_X8_178 ft_6_9 (Nat.le_of_ble_eq_true rfl) fs_6_9 eM1 dX8_wipe_7 (fun H locs hW hS => ?_)
  refine lv_iload_n hx hb dX8_wipe_10 rfl (lv_at hl 0 rfl) ?_
  exact x_iret cx hr hW hS (sp_1 hF) (sp_2 hF) dX8_wipe_11
def F_X8_byteAt (a1 : Int32) (M : Mem) : Option Int32 := (if (m_I M 49 9) ≤ a1 then some (-1 : Int32) else ix 120 a1 (fun j2 => some (m_I M 58 j2)))
set_option maxHeartbeats 4000000 in
set_option maxRecDepth 100000 in
theorem c_X8_byteAt {l : Launch} {G : GG} {a1 : Int32}  {M : Mem} {r : Int32} (hF : F_X8_byteAt a1 M = some r) : Met l yX8_byteAt (wz yX8_byteAt cX8_byteAt 2 (some .int)) (RM 0 0) (PreC G [.ref (g_ad G 49), .int a1] M) (QcI G r M) 0 0 (g_A G) := by
  rw [F_X8_byteAt] at hF
  refine x_start (by decide) (Nat.le_of_ble_eq_true rfl) (lv := [(0, .ref (g_ad G 49)), (1, .int a1)]) rfl ?_
  intro p e s m below meth c cx hr hW hS ls hl
  obtain ⟨hx, hb, hml, hown, hts, hKK, hSS, hlk⟩ := id cx
  refine lv_iload_n hx hb dX8_byteAt_0 rfl (lv_at hl 1 rfl) ?_
  refine lv_aload_n hx hb dX8_byteAt_1 rfl (lv_at hl 0 rfl) ?_
  refine x_get cx hW kc_49 fk_X8_178 (v := .int (m_I M 49 9)) rfl dX8_byteAt_2 ?_
  refine lv_icmp_ge (tgt := 17) hx hb dX8_byteAt_5 (by decide) (fun c1 => ?_) (fun c1 => ?_)
  · have hF := it_p c1 hF
    refine lv_iconst (v := (-1 : Int32)) hx hb dX8_byteAt_17 (by decide) ?_
    exact x_iret cx hr hW hS (Option.some.inj hF) rfl dX8_byteAt_18
  · have hF := it_n c1 hF
    refine lv_aload_n hx hb dX8_byteAt_8 rfl (lv_at hl 0 rfl) ?_
    refine x_get cx hW kc_49 fk_X8_34 (v := .ref (g_ad G 58)) rfl dX8_byteAt_9 ?_
    refine lv_iload_n hx hb dX8_byteAt_12 rfl (lv_at hl 1 rfl) ?_
    obtain ⟨j2, hj2, gj2, hF⟩ := ix_e hF
    refine x_iald cx hW kc_58 (by decide) hj2 gj2 dX8_byteAt_13 ?_
    refine lv_goto (tgt := 18) hx hb dX8_byteAt_14 (by decide) ?_
    exact x_iret cx hr hW hS (Option.some.inj hF) rfl dX8_byteAt_18
def F_X8_isLetter (a0 : Int32) (M : Mem) : Option Int32 := (F_X8_in a0 (97 : Int32) (122 : Int32) M).bind (fun r2 => zb r2 (some r2))
set_option maxHeartbeats 4000000 in
set_option maxRecDepth 100000 in
theorem c_X8_isLetter {l : Launch} {G : GG} {a0 : Int32}  {M : Mem} {r : Int32} (hF : F_X8_isLetter a0 M = some r) : Met l yX8_isLetter (wz yX8_isLetter cX8_isLetter 1 (some .boolean)) (RM 1 22) (PreC G [.int a0] M) (QcI G r M) 0 0 (g_A G) := by
  rw [F_X8_isLetter] at hF
  refine x_start (by decide) (Nat.le_of_ble_eq_true rfl) (lv := [(0, .int a0)]) rfl ?_
  intro p e s m below meth c cx hr hW hS ls hl
  obtain ⟨hx, hb, hml, hown, hts, hKK, hSS, hlk⟩ := id cx
  refine lv_iload_n hx hb dX8_isLetter_0 rfl (lv_at hl 0 rfl) ?_
  refine lv_bipush (v := (97 : Int32)) hx hb dX8_isLetter_1 (by decide) ?_
  refine lv_bipush (v := (122 : Int32)) hx hb dX8_isLetter_3 (by decide) ?_
  obtain ⟨r2, hc1, hF⟩ := bi_e hF
  refine x_goi (x_runS cx hW hS (c_X8_in (l := l) (G := G) hc1) cs_X8_57 (rest := []) ⟨Nat.le_of_ble_eq_true rfl, Nat.le_of_ble_eq_true rfl⟩ hl.1 rfl rfl (Nat.le_of_ble_eq_true rfl) ⟨Nat.zero_le _, Nat.zero_le _⟩ dX8_isLetter_5) hS (fun H locs hW hS => ?_)
  obtain ⟨z3, hF⟩ := zb_e hF
  exact x_zret cx hr (nz_b z3) hW hS (Option.some.inj hF) rfl dX8_isLetter_8
def F_X8_isDigit (a0 : Int32) (M : Mem) : Option Int32 := (F_X8_in a0 (48 : Int32) (57 : Int32) M).bind (fun r2 => zb r2 (some r2))
set_option maxHeartbeats 4000000 in
set_option maxRecDepth 100000 in
theorem c_X8_isDigit {l : Launch} {G : GG} {a0 : Int32}  {M : Mem} {r : Int32} (hF : F_X8_isDigit a0 M = some r) : Met l yX8_isDigit (wz yX8_isDigit cX8_isDigit 1 (some .boolean)) (RM 1 22) (PreC G [.int a0] M) (QcI G r M) 0 0 (g_A G) := by
  rw [F_X8_isDigit] at hF
  refine x_start (by decide) (Nat.le_of_ble_eq_true rfl) (lv := [(0, .int a0)]) rfl ?_
  intro p e s m below meth c cx hr hW hS ls hl
  obtain ⟨hx, hb, hml, hown, hts, hKK, hSS, hlk⟩ := id cx
  refine lv_iload_n hx hb dX8_isDigit_0 rfl (lv_at hl 0 rfl) ?_
  refine lv_bipush (v := (48 : Int32)) hx hb dX8_isDigit_1 (by decide) ?_
  refine lv_bipush (v := (57 : Int32)) hx hb dX8_isDigit_3 (by decide) ?_
  obtain ⟨r2, hc1, hF⟩ := bi_e hF
  refine x_goi (x_runS cx hW hS (c_X8_in (l := l) (G := G) hc1) cs_X8_57 (rest := []) ⟨Nat.le_of_ble_eq_true rfl, Nat.le_of_ble_eq_true rfl⟩ hl.1 rfl rfl (Nat.le_of_ble_eq_true rfl) ⟨Nat.zero_le _, Nat.zero_le _⟩ dX8_isDigit_5) hS (fun H locs hW hS => ?_)
  obtain ⟨z3, hF⟩ := zb_e hF
  exact x_zret cx hr (nz_b z3) hW hS (Option.some.inj hF) rfl dX8_isDigit_8
def F_X8_advance_207  : Nat → Mem → Option Mem
  | 0, _ => none
  | n + 1, M => (if (m_I M 49 10) = (2 : Int32) then (F_X8_byteAt (m_I M 49 12) M).bind (fun r23 => (F_X8_isDigit r23 M).bind (fun r25 => (if r25 = 0 then some M else (if (m_I M 49 14) ≤ (999 : Int32) then (F_X8_byteAt (m_I M 49 12) M).bind (fun r29 => pin (w_I M 49 14 ((((10 : Int32) * (m_I M 49 14)) + r29) - (48 : Int32))) (fun M30 => pin (w_I M30 49 12 ((m_I M30 49 12) + (1 : Int32))) (fun M31 => F_X8_advance_207 n M31))) else pin (w_I M 49 14 (10000 : Int32)) (fun M32 => pin (w_I M32 49 12 ((m_I M32 49 12) + (1 : Int32))) (fun M33 => F_X8_advance_207 n M33)))))) else some M)
set_option maxHeartbeats 4000000 in
set_option maxRecDepth 100000 in
theorem t_X8_advance_207 {p : Program} {l : Launch} {e : Env} {s : State} {m : MethodId} {args : Array Value} {below : List Frame} {meth : Method} {c : Code} {G : GG}  (cx : Cx G cX8_advance RX8 2 p s m args meth c) (hr : meth.sig.returnType = none)   {M1 : Mem} : ∀ (n : Nat) (M : Mem), F_X8_advance_207  n M = some M1 → ∀ (H : Heap) (locs : List Loc) (ls : Array Slot), WH G M H → va_S (g_A G) s.heap H locs → lv_has ls 2 [(0, .ref (g_ad G 49))] → W p l e (RM 2 42) s m args below meth c H locs 0 0 (MQ below (QcV G M1) args s 0 0 (g_A G)) (F0 m 207 ls []) := by
  obtain ⟨hx, hb, hml, hown, hts, hKK, hSS, hlk⟩ := id cx
  intro n
  induction n with
  | zero =>
    intro M hF H locs ls hW hS hl
    rw [F_X8_advance_207] at hF
    cases hF
  | succ n ih =>
    intro M hF H locs ls hW hS hl
    rw [F_X8_advance_207] at hF
    refine lv_aload_n hx hb dX8_advance_207 rfl (lv_at hl 0 rfl) ?_
    refine x_get cx hW kc_49 fk_X8_197 (v := .int (m_I M 49 10)) rfl dX8_advance_208 ?_
    refine lv_iconst (v := (2 : Int32)) hx hb dX8_advance_211 (by decide) ?_
    refine lv_icmp_ne (tgt := 281) hx hb dX8_advance_212 (by decide) (fun c21 => ?_) (fun c21 => ?_)
    · have hF := it_n c21 hF
      exact x_vret cx hr hW hS (Option.some.inj hF) dX8_advance_281
    · have hF := it_p c21 hF
      refine lv_aload_n hx hb dX8_advance_215 rfl (lv_at hl 0 rfl) ?_
      refine lv_aload_n hx hb dX8_advance_216 rfl (lv_at hl 0 rfl) ?_
      refine x_get cx hW kc_49 fk_X8_182 (v := .int (m_I M 49 12)) rfl dX8_advance_217 ?_
      obtain ⟨r23, hc22, hF⟩ := bi_e hF
      refine x_goi (x_runV cx hW hS (c_X8_byteAt (l := l) (G := G) hc22) cv_X8_188 kc_49 rfl (rest := []) ⟨Nat.le_of_ble_eq_true rfl, Nat.le_of_ble_eq_true rfl⟩ hl.1 rfl rfl (Nat.le_of_ble_eq_true rfl) ⟨Nat.zero_le _, Nat.zero_le _⟩ dX8_advance_220) hS (fun H locs hW hS => ?_)
      obtain ⟨r25, hc24, hF⟩ := bi_e hF
      refine x_goi (x_runS cx hW hS (c_X8_isDigit (l := l) (G := G) hc24) cs_X8_194 (rest := []) ⟨Nat.le_of_ble_eq_true rfl, Nat.le_of_ble_eq_true rfl⟩ hl.1 rfl rfl (Nat.le_of_ble_eq_true rfl) ⟨Nat.zero_le _, Nat.zero_le _⟩ dX8_advance_223) hS (fun H locs hW hS => ?_)
      refine lv_if_eq (tgt := 281) hx hb dX8_advance_226 (by decide) (fun c26 => ?_) (fun c26 => ?_)
      · have hF := it_p c26 hF
        exact x_vret cx hr hW hS (Option.some.inj hF) dX8_advance_281
      · have hF := it_n c26 hF
        refine lv_aload_n hx hb dX8_advance_229 rfl (lv_at hl 0 rfl) ?_
        refine lv_aload_n hx hb dX8_advance_230 rfl (lv_at hl 0 rfl) ?_
        refine x_get cx hW kc_49 fk_X8_204 (v := .int (m_I M 49 14)) rfl dX8_advance_231 ?_
        refine lv_sipush (v := (999 : Int32)) hx hb dX8_advance_234 (by decide) ?_
        refine lv_icmp_le (tgt := 246) hx hb dX8_advance_237 (by decide) (fun c27 => ?_) (fun c27 => ?_)
        · have hF := it_p c27 hF
          refine lv_bipush (v := (10 : Int32)) hx hb dX8_advance_246 (by decide) ?_
          refine lv_aload_n hx hb dX8_advance_248 rfl (lv_at hl 0 rfl) ?_
          refine x_get cx hW kc_49 fk_X8_204 (v := .int (m_I M 49 14)) rfl dX8_advance_249 ?_
          refine lv_imul hx hb dX8_advance_252 ?_
          refine lv_aload_n hx hb dX8_advance_253 rfl (lv_at hl 0 rfl) ?_
          refine lv_aload_n hx hb dX8_advance_254 rfl (lv_at hl 0 rfl) ?_
          refine x_get cx hW kc_49 fk_X8_182 (v := .int (m_I M 49 12)) rfl dX8_advance_255 ?_
          obtain ⟨r29, hc28, hF⟩ := bi_e hF
          refine x_goi (x_runV cx hW hS (c_X8_byteAt (l := l) (G := G) hc28) cv_X8_188 kc_49 rfl (rest := [.int ((10 : Int32) * (m_I M 49 14)), .ref (g_ad G 49)]) ⟨Nat.le_of_ble_eq_true rfl, Nat.le_of_ble_eq_true rfl⟩ hl.1 rfl rfl (Nat.le_of_ble_eq_true rfl) ⟨Nat.zero_le _, Nat.zero_le _⟩ dX8_advance_258) hS (fun H locs hW hS => ?_)
          refine lv_iadd hx hb dX8_advance_261 ?_
          refine lv_bipush (v := (48 : Int32)) hx hb dX8_advance_262 (by decide) ?_
          refine lv_isub hx hb dX8_advance_264 ?_
          obtain ⟨M30, eM30, hF⟩ := pin_e hF
          refine x_puti cx hW hS kc_49 fk_X8_204 ft_6_14 (Nat.le_of_ble_eq_true rfl) fs_6_14 eM30 dX8_advance_265 (fun H locs hW hS => ?_)
          refine lv_aload_n hx hb dX8_advance_268 rfl (lv_at hl 0 rfl) ?_
          refine lv_dup hx hb dX8_advance_269 rfl ?_
          refine x_get cx hW kc_49 fk_X8_182 (v := .int (m_I M30 49 12)) rfl dX8_advance_270 ?_
          refine lv_iconst (v := (1 : Int32)) hx hb dX8_advance_273 (by decide) ?_
          refine lv_iadd hx hb dX8_advance_274 ?_
          obtain ⟨M31, eM31, hF⟩ := pin_e hF
          refine x_puti cx hW hS kc_49 fk_X8_182 ft_6_12 (Nat.le_of_ble_eq_true rfl) fs_6_12 eM31 dX8_advance_275 (fun H locs hW hS => ?_)
          refine lv_goto (tgt := 207) hx hb dX8_advance_278 (by decide) ?_
          exact ih M31 hF _ _ _ hW hS (lv_sub hl [0] rfl)
        · have hF := it_n c27 hF
          refine lv_sipush (v := (10000 : Int32)) hx hb dX8_advance_240 (by decide) ?_
          refine lv_goto (tgt := 265) hx hb dX8_advance_243 (by decide) ?_
          obtain ⟨M32, eM32, hF⟩ := pin_e hF
          refine x_puti cx hW hS kc_49 fk_X8_204 ft_6_14 (Nat.le_of_ble_eq_true rfl) fs_6_14 eM32 dX8_advance_265 (fun H locs hW hS => ?_)
          refine lv_aload_n hx hb dX8_advance_268 rfl (lv_at hl 0 rfl) ?_
          refine lv_dup hx hb dX8_advance_269 rfl ?_
          refine x_get cx hW kc_49 fk_X8_182 (v := .int (m_I M32 49 12)) rfl dX8_advance_270 ?_
          refine lv_iconst (v := (1 : Int32)) hx hb dX8_advance_273 (by decide) ?_
          refine lv_iadd hx hb dX8_advance_274 ?_
          obtain ⟨M33, eM33, hF⟩ := pin_e hF
          refine x_puti cx hW hS kc_49 fk_X8_182 ft_6_12 (Nat.le_of_ble_eq_true rfl) fs_6_12 eM33 dX8_advance_275 (fun H locs hW hS => ?_)
          refine lv_goto (tgt := 207) hx hb dX8_advance_278 (by decide) ?_
          exact ih M33 hF _ _ _ hW hS (lv_sub hl [0] rfl)
def F_X8_advance_126  : Nat → Mem → Option Mem
  | 0, _ => none
  | n + 1, M => (if (m_I M 49 10) = (1 : Int32) then (F_X8_byteAt (m_I M 49 12) M).bind (fun r35 => (F_X8_isLetter r35 M).bind (fun r37 => (if r37 = 0 then F_X8_advance_207 FU M else (if (12 : Int32) ≤ ((m_I M 49 12) - (m_I M 49 11)) then pin (w_J M 49 13 (-1 : Int64)) (fun M40 => pin (w_I M40 49 12 ((m_I M40 49 12) + (1 : Int32))) (fun M41 => F_X8_advance_126 n M41)) else (F_X8_byteAt (m_I M 49 12) M).bind (fun r43 => pin (w_J M 49 13 ((((27 : Int64) * (m_J M 49 13)) + (r43.toInt64)) - (96 : Int64))) (fun M44 => pin (w_I M44 49 12 ((m_I M44 49 12) + (1 : Int32))) (fun M45 => F_X8_advance_126 n M45))))))) else F_X8_advance_207 FU M)
set_option maxHeartbeats 4000000 in
set_option maxRecDepth 100000 in
theorem t_X8_advance_126 {p : Program} {l : Launch} {e : Env} {s : State} {m : MethodId} {args : Array Value} {below : List Frame} {meth : Method} {c : Code} {G : GG}  (cx : Cx G cX8_advance RX8 2 p s m args meth c) (hr : meth.sig.returnType = none)   {M1 : Mem} : ∀ (n : Nat) (M : Mem), F_X8_advance_126  n M = some M1 → ∀ (H : Heap) (locs : List Loc) (ls : Array Slot), WH G M H → va_S (g_A G) s.heap H locs → lv_has ls 2 [(0, .ref (g_ad G 49))] → W p l e (RM 2 42) s m args below meth c H locs 0 0 (MQ below (QcV G M1) args s 0 0 (g_A G)) (F0 m 126 ls []) := by
  obtain ⟨hx, hb, hml, hown, hts, hKK, hSS, hlk⟩ := id cx
  intro n
  induction n with
  | zero =>
    intro M hF H locs ls hW hS hl
    rw [F_X8_advance_126] at hF
    cases hF
  | succ n ih =>
    intro M hF H locs ls hW hS hl
    rw [F_X8_advance_126] at hF
    refine lv_aload_n hx hb dX8_advance_126 rfl (lv_at hl 0 rfl) ?_
    refine x_get cx hW kc_49 fk_X8_197 (v := .int (m_I M 49 10)) rfl dX8_advance_127 ?_
    refine lv_iconst (v := (1 : Int32)) hx hb dX8_advance_130 (by decide) ?_
    refine lv_icmp_ne (tgt := 207) hx hb dX8_advance_131 (by decide) (fun c20 => ?_) (fun c20 => ?_)
    · have hF := it_n c20 hF
      exact t_X8_advance_207 cx hr FU M hF _ _ _ hW hS (lv_sub hl [0] rfl)
    · have hF := it_p c20 hF
      refine lv_aload_n hx hb dX8_advance_134 rfl (lv_at hl 0 rfl) ?_
      refine lv_aload_n hx hb dX8_advance_135 rfl (lv_at hl 0 rfl) ?_
      refine x_get cx hW kc_49 fk_X8_182 (v := .int (m_I M 49 12)) rfl dX8_advance_136 ?_
      obtain ⟨r35, hc34, hF⟩ := bi_e hF
      refine x_goi (x_runV cx hW hS (c_X8_byteAt (l := l) (G := G) hc34) cv_X8_188 kc_49 rfl (rest := []) ⟨Nat.le_of_ble_eq_true rfl, Nat.le_of_ble_eq_true rfl⟩ hl.1 rfl rfl (Nat.le_of_ble_eq_true rfl) ⟨Nat.zero_le _, Nat.zero_le _⟩ dX8_advance_139) hS (fun H locs hW hS => ?_)
      obtain ⟨r37, hc36, hF⟩ := bi_e hF
      refine x_goi (x_runS cx hW hS (c_X8_isLetter (l := l) (G := G) hc36) cs_X8_191 (rest := []) ⟨Nat.le_of_ble_eq_true rfl, Nat.le_of_ble_eq_true rfl⟩ hl.1 rfl rfl (Nat.le_of_ble_eq_true rfl) ⟨Nat.zero_le _, Nat.zero_le _⟩ dX8_advance_142) hS (fun H locs hW hS => ?_)
      refine lv_if_eq (tgt := 207) hx hb dX8_advance_145 (by decide) (fun c38 => ?_) (fun c38 => ?_)
      · have hF := it_p c38 hF
        exact t_X8_advance_207 cx hr FU M hF _ _ _ hW hS (lv_sub hl [0] rfl)
      · have hF := it_n c38 hF
        refine lv_aload_n hx hb dX8_advance_148 rfl (lv_at hl 0 rfl) ?_
        refine lv_aload_n hx hb dX8_advance_149 rfl (lv_at hl 0 rfl) ?_
        refine x_get cx hW kc_49 fk_X8_182 (v := .int (m_I M 49 12)) rfl dX8_advance_150 ?_
        refine lv_aload_n hx hb dX8_advance_153 rfl (lv_at hl 0 rfl) ?_
        refine x_get cx hW kc_49 fk_X8_185 (v := .int (m_I M 49 11)) rfl dX8_advance_154 ?_
        refine lv_isub hx hb dX8_advance_157 ?_
        refine lv_bipush (v := (12 : Int32)) hx hb dX8_advance_158 (by decide) ?_
        refine lv_icmp_ge (tgt := 188) hx hb dX8_advance_160 (by decide) (fun c39 => ?_) (fun c39 => ?_)
        · have hF := it_p c39 hF
          refine x_ldc2 cx q_l_X8_211 dX8_advance_188 ?_
          obtain ⟨M40, eM40, hF⟩ := pin_e hF
          refine x_putl cx hW hS kc_49 fk_X8_200 ft_6_13 (Nat.le_of_ble_eq_true rfl) fs_6_13 eM40 dX8_advance_191 (fun H locs hW hS => ?_)
          refine lv_aload_n hx hb dX8_advance_194 rfl (lv_at hl 0 rfl) ?_
          refine lv_dup hx hb dX8_advance_195 rfl ?_
          refine x_get cx hW kc_49 fk_X8_182 (v := .int (m_I M40 49 12)) rfl dX8_advance_196 ?_
          refine lv_iconst (v := (1 : Int32)) hx hb dX8_advance_199 (by decide) ?_
          refine lv_iadd hx hb dX8_advance_200 ?_
          obtain ⟨M41, eM41, hF⟩ := pin_e hF
          refine x_puti cx hW hS kc_49 fk_X8_182 ft_6_12 (Nat.le_of_ble_eq_true rfl) fs_6_12 eM41 dX8_advance_201 (fun H locs hW hS => ?_)
          refine lv_goto (tgt := 126) hx hb dX8_advance_204 (by decide) ?_
          exact ih M41 hF _ _ _ hW hS (lv_sub hl [0] rfl)
        · have hF := it_n c39 hF
          refine x_ldc2 cx q_l_X8_207 dX8_advance_163 ?_
          refine lv_aload_n hx hb dX8_advance_166 rfl (lv_at hl 0 rfl) ?_
          refine x_get cx hW kc_49 fk_X8_200 (v := .long (m_J M 49 13)) rfl dX8_advance_167 ?_
          refine lv_lmul hx hb dX8_advance_170 ?_
          refine lv_aload_n hx hb dX8_advance_171 rfl (lv_at hl 0 rfl) ?_
          refine lv_aload_n hx hb dX8_advance_172 rfl (lv_at hl 0 rfl) ?_
          refine x_get cx hW kc_49 fk_X8_182 (v := .int (m_I M 49 12)) rfl dX8_advance_173 ?_
          obtain ⟨r43, hc42, hF⟩ := bi_e hF
          refine x_goi (x_runV cx hW hS (c_X8_byteAt (l := l) (G := G) hc42) cv_X8_188 kc_49 rfl (rest := [.long ((27 : Int64) * (m_J M 49 13)), .ref (g_ad G 49)]) ⟨Nat.le_of_ble_eq_true rfl, Nat.le_of_ble_eq_true rfl⟩ hl.1 rfl rfl (Nat.le_of_ble_eq_true rfl) ⟨Nat.zero_le _, Nat.zero_le _⟩ dX8_advance_176) hS (fun H locs hW hS => ?_)
          refine lv_i2l hx hb dX8_advance_179 rfl ?_
          refine lv_ladd hx hb dX8_advance_180 ?_
          refine x_ldc2 cx q_l_X8_209 dX8_advance_181 ?_
          refine lv_lsub hx hb dX8_advance_184 ?_
          refine lv_goto (tgt := 191) hx hb dX8_advance_185 (by decide) ?_
          obtain ⟨M44, eM44, hF⟩ := pin_e hF
          refine x_putl cx hW hS kc_49 fk_X8_200 ft_6_13 (Nat.le_of_ble_eq_true rfl) fs_6_13 eM44 dX8_advance_191 (fun H locs hW hS => ?_)
          refine lv_aload_n hx hb dX8_advance_194 rfl (lv_at hl 0 rfl) ?_
          refine lv_dup hx hb dX8_advance_195 rfl ?_
          refine x_get cx hW kc_49 fk_X8_182 (v := .int (m_I M44 49 12)) rfl dX8_advance_196 ?_
          refine lv_iconst (v := (1 : Int32)) hx hb dX8_advance_199 (by decide) ?_
          refine lv_iadd hx hb dX8_advance_200 ?_
          obtain ⟨M45, eM45, hF⟩ := pin_e hF
          refine x_puti cx hW hS kc_49 fk_X8_182 ft_6_12 (Nat.le_of_ble_eq_true rfl) fs_6_12 eM45 dX8_advance_201 (fun H locs hW hS => ?_)
          refine lv_goto (tgt := 126) hx hb dX8_advance_204 (by decide) ?_
          exact ih M45 hF _ _ _ hW hS (lv_sub hl [0] rfl)
def F_X8_advance_83  (x1 : Int32) (t0 : Int32) (M : Mem) : Option Mem := pin (w_I M 49 10 t0) (fun M15 => pin (w_J M15 49 13 (0 : Int64)) (fun M16 => (if (m_I M16 49 10) = (2 : Int32) then pin (w_I M16 49 14 (0 : Int32)) (fun M47 => (if (m_I M47 49 10) = (3 : Int32) then pin (w_I M47 49 12 ((m_I M47 49 12) + (1 : Int32))) (fun M49 => F_X8_advance_126 FU M49) else F_X8_advance_126 FU M47)) else pin (w_I M16 49 14 x1) (fun M18 => (if (m_I M18 49 10) = (3 : Int32) then pin (w_I M18 49 12 ((m_I M18 49 12) + (1 : Int32))) (fun M46 => F_X8_advance_126 FU M46) else F_X8_advance_126 FU M18)))))
set_option maxHeartbeats 4000000 in
set_option maxRecDepth 100000 in
theorem t_X8_advance_83 {p : Program} {l : Launch} {e : Env} {s : State} {m : MethodId} {args : Array Value} {below : List Frame} {meth : Method} {c : Code} {G : GG}  (cx : Cx G cX8_advance RX8 2 p s m args meth c) (hr : meth.sig.returnType = none)   {M1 : Mem} : ∀ (x1 : Int32) (t0 : Int32) (M : Mem), F_X8_advance_83  x1 t0 M = some M1 → ∀ (H : Heap) (locs : List Loc) (ls : Array Slot), WH G M H → va_S (g_A G) s.heap H locs → lv_has ls 2 [(0, .ref (g_ad G 49)), (1, .int x1)] → W p l e (RM 2 42) s m args below meth c H locs 0 0 (MQ below (QcV G M1) args s 0 0 (g_A G)) (F0 m 83 ls [.int t0, .ref (g_ad G 49)]) := by
  obtain ⟨hx, hb, hml, hown, hts, hKK, hSS, hlk⟩ := id cx
  intro x1 t0 M hF H locs ls hW hS hl
  rw [F_X8_advance_83] at hF
  obtain ⟨M15, eM15, hF⟩ := pin_e hF
  refine x_puti cx hW hS kc_49 fk_X8_197 ft_6_10 (Nat.le_of_ble_eq_true rfl) fs_6_10 eM15 dX8_advance_83 (fun H locs hW hS => ?_)
  refine lv_aload_n hx hb dX8_advance_86 rfl (lv_at hl 0 rfl) ?_
  refine lv_lconst (v := (0 : Int64)) hx hb dX8_advance_87 (by decide) ?_
  obtain ⟨M16, eM16, hF⟩ := pin_e hF
  refine x_putl cx hW hS kc_49 fk_X8_200 ft_6_13 (Nat.le_of_ble_eq_true rfl) fs_6_13 eM16 dX8_advance_88 (fun H locs hW hS => ?_)
  refine lv_aload_n hx hb dX8_advance_91 rfl (lv_at hl 0 rfl) ?_
  refine lv_aload_n hx hb dX8_advance_92 rfl (lv_at hl 0 rfl) ?_
  refine x_get cx hW kc_49 fk_X8_197 (v := .int (m_I M16 49 10)) rfl dX8_advance_93 ?_
  refine lv_iconst (v := (2 : Int32)) hx hb dX8_advance_96 (by decide) ?_
  refine lv_icmp_ne (tgt := 104) hx hb dX8_advance_97 (by decide) (fun c17 => ?_) (fun c17 => ?_)
  · have hF := it_n c17 hF
    refine lv_iload_n hx hb dX8_advance_104 rfl (lv_at hl 1 rfl) ?_
    obtain ⟨M18, eM18, hF⟩ := pin_e hF
    refine x_puti cx hW hS kc_49 fk_X8_204 ft_6_14 (Nat.le_of_ble_eq_true rfl) fs_6_14 eM18 dX8_advance_105 (fun H locs hW hS => ?_)
    refine lv_aload_n hx hb dX8_advance_108 rfl (lv_at hl 0 rfl) ?_
    refine x_get cx hW kc_49 fk_X8_197 (v := .int (m_I M18 49 10)) rfl dX8_advance_109 ?_
    refine lv_iconst (v := (3 : Int32)) hx hb dX8_advance_112 (by decide) ?_
    refine lv_icmp_ne (tgt := 126) hx hb dX8_advance_113 (by decide) (fun c19 => ?_) (fun c19 => ?_)
    · have hF := it_n c19 hF
      exact t_X8_advance_126 cx hr FU M18 hF _ _ _ hW hS (lv_sub hl [0] rfl)
    · have hF := it_p c19 hF
      refine lv_aload_n hx hb dX8_advance_116 rfl (lv_at hl 0 rfl) ?_
      refine lv_dup hx hb dX8_advance_117 rfl ?_
      refine x_get cx hW kc_49 fk_X8_182 (v := .int (m_I M18 49 12)) rfl dX8_advance_118 ?_
      refine lv_iconst (v := (1 : Int32)) hx hb dX8_advance_121 (by decide) ?_
      refine lv_iadd hx hb dX8_advance_122 ?_
      obtain ⟨M46, eM46, hF⟩ := pin_e hF
      refine x_puti cx hW hS kc_49 fk_X8_182 ft_6_12 (Nat.le_of_ble_eq_true rfl) fs_6_12 eM46 dX8_advance_123 (fun H locs hW hS => ?_)
      exact t_X8_advance_126 cx hr FU M46 hF _ _ _ hW hS (lv_sub hl [0] rfl)
  · have hF := it_p c17 hF
    refine lv_iconst (v := (0 : Int32)) hx hb dX8_advance_100 (by decide) ?_
    refine lv_goto (tgt := 105) hx hb dX8_advance_101 (by decide) ?_
    obtain ⟨M47, eM47, hF⟩ := pin_e hF
    refine x_puti cx hW hS kc_49 fk_X8_204 ft_6_14 (Nat.le_of_ble_eq_true rfl) fs_6_14 eM47 dX8_advance_105 (fun H locs hW hS => ?_)
    refine lv_aload_n hx hb dX8_advance_108 rfl (lv_at hl 0 rfl) ?_
    refine x_get cx hW kc_49 fk_X8_197 (v := .int (m_I M47 49 10)) rfl dX8_advance_109 ?_
    refine lv_iconst (v := (3 : Int32)) hx hb dX8_advance_112 (by decide) ?_
    refine lv_icmp_ne (tgt := 126) hx hb dX8_advance_113 (by decide) (fun c48 => ?_) (fun c48 => ?_)
    · have hF := it_n c48 hF
      exact t_X8_advance_126 cx hr FU M47 hF _ _ _ hW hS (lv_sub hl [0] rfl)
    · have hF := it_p c48 hF
      refine lv_aload_n hx hb dX8_advance_116 rfl (lv_at hl 0 rfl) ?_
      refine lv_dup hx hb dX8_advance_117 rfl ?_
      refine x_get cx hW kc_49 fk_X8_182 (v := .int (m_I M47 49 12)) rfl dX8_advance_118 ?_
      refine lv_iconst (v := (1 : Int32)) hx hb dX8_advance_121 (by decide) ?_
      refine lv_iadd hx hb dX8_advance_122 ?_
      obtain ⟨M49, eM49, hF⟩ := pin_e hF
      refine x_puti cx hW hS kc_49 fk_X8_182 ft_6_12 (Nat.le_of_ble_eq_true rfl) fs_6_12 eM49 dX8_advance_123 (fun H locs hW hS => ?_)
      exact t_X8_advance_126 cx hr FU M49 hF _ _ _ hW hS (lv_sub hl [0] rfl)
def F_X8_advance_8  : Nat → Mem → Option Mem
  | 0, _ => none
  | n + 1, M => (F_X8_byteAt (m_I M 49 11) M).bind (fun r3 => (if r3 = (32 : Int32) then pin (w_I M 49 11 ((m_I M 49 11) + (1 : Int32))) (fun M50 => F_X8_advance_8 n M50) else pin (w_I M 49 12 (m_I M 49 11)) (fun M5 => (F_X8_byteAt (m_I M5 49 11) M5).bind (fun r7 => (if 0 ≤ r7 then (F_X8_isLetter r7 M5).bind (fun r10 => (if r10 = 0 then (F_X8_isDigit r7 M5).bind (fun r13 => (if r13 = 0 then F_X8_advance_83 r7 (3 : Int32) M5 else F_X8_advance_83 r7 (2 : Int32) M5)) else F_X8_advance_83 r7 (1 : Int32) M5)) else F_X8_advance_83 r7 (0 : Int32) M5)))))
set_option maxHeartbeats 4000000 in
set_option maxRecDepth 100000 in
theorem t_X8_advance_8 {p : Program} {l : Launch} {e : Env} {s : State} {m : MethodId} {args : Array Value} {below : List Frame} {meth : Method} {c : Code} {G : GG}  (cx : Cx G cX8_advance RX8 2 p s m args meth c) (hr : meth.sig.returnType = none)   {M1 : Mem} : ∀ (n : Nat) (M : Mem), F_X8_advance_8  n M = some M1 → ∀ (H : Heap) (locs : List Loc) (ls : Array Slot), WH G M H → va_S (g_A G) s.heap H locs → lv_has ls 2 [(0, .ref (g_ad G 49))] → W p l e (RM 2 42) s m args below meth c H locs 0 0 (MQ below (QcV G M1) args s 0 0 (g_A G)) (F0 m 8 ls []) := by
  obtain ⟨hx, hb, hml, hown, hts, hKK, hSS, hlk⟩ := id cx
  intro n
  induction n with
  | zero =>
    intro M hF H locs ls hW hS hl
    rw [F_X8_advance_8] at hF
    cases hF
  | succ n ih =>
    intro M hF H locs ls hW hS hl
    rw [F_X8_advance_8] at hF
    refine lv_aload_n hx hb dX8_advance_8 rfl (lv_at hl 0 rfl) ?_
    refine lv_aload_n hx hb dX8_advance_9 rfl (lv_at hl 0 rfl) ?_
    refine x_get cx hW kc_49 fk_X8_185 (v := .int (m_I M 49 11)) rfl dX8_advance_10 ?_
    obtain ⟨r3, hc2, hF⟩ := bi_e hF
    refine x_goi (x_runV cx hW hS (c_X8_byteAt (l := l) (G := G) hc2) cv_X8_188 kc_49 rfl (rest := []) ⟨Nat.le_of_ble_eq_true rfl, Nat.le_of_ble_eq_true rfl⟩ hl.1 rfl rfl (Nat.le_of_ble_eq_true rfl) ⟨Nat.zero_le _, Nat.zero_le _⟩ dX8_advance_13) hS (fun H locs hW hS => ?_)
    refine lv_bipush (v := (32 : Int32)) hx hb dX8_advance_16 (by decide) ?_
    refine lv_icmp_ne (tgt := 34) hx hb dX8_advance_18 (by decide) (fun c4 => ?_) (fun c4 => ?_)
    · have hF := it_n c4 hF
      refine lv_aload_n hx hb dX8_advance_34 rfl (lv_at hl 0 rfl) ?_
      refine lv_aload_n hx hb dX8_advance_35 rfl (lv_at hl 0 rfl) ?_
      refine x_get cx hW kc_49 fk_X8_185 (v := .int (m_I M 49 11)) rfl dX8_advance_36 ?_
      obtain ⟨M5, eM5, hF⟩ := pin_e hF
      refine x_puti cx hW hS kc_49 fk_X8_182 ft_6_12 (Nat.le_of_ble_eq_true rfl) fs_6_12 eM5 dX8_advance_39 (fun H locs hW hS => ?_)
      refine lv_aload_n hx hb dX8_advance_42 rfl (lv_at hl 0 rfl) ?_
      refine lv_aload_n hx hb dX8_advance_43 rfl (lv_at hl 0 rfl) ?_
      refine x_get cx hW kc_49 fk_X8_185 (v := .int (m_I M5 49 11)) rfl dX8_advance_44 ?_
      obtain ⟨r7, hc6, hF⟩ := bi_e hF
      refine x_goi (x_runV cx hW hS (c_X8_byteAt (l := l) (G := G) hc6) cv_X8_188 kc_49 rfl (rest := []) ⟨Nat.le_of_ble_eq_true rfl, Nat.le_of_ble_eq_true rfl⟩ hl.1 rfl rfl (Nat.le_of_ble_eq_true rfl) ⟨Nat.zero_le _, Nat.zero_le _⟩ dX8_advance_47) hS (fun H locs hW hS => ?_)
      refine lv_istore_n (lv' := [(1, .int r7), (0, .ref (g_ad G 49))]) hx hb dX8_advance_50 rfl hl (by decide) rfl (fun ls hl => ?_)
      refine lv_aload_n hx hb dX8_advance_51 rfl (lv_at hl 1 rfl) ?_
      refine lv_iload_n hx hb dX8_advance_52 rfl (lv_at hl 0 rfl) ?_
      refine lv_if_ge (tgt := 60) hx hb dX8_advance_53 (by decide) (fun c8 => ?_) (fun c8 => ?_)
      · have hF := it_p c8 hF
        refine lv_iload_n hx hb dX8_advance_60 rfl (lv_at hl 0 rfl) ?_
        obtain ⟨r10, hc9, hF⟩ := bi_e hF
        refine x_goi (x_runS cx hW hS (c_X8_isLetter (l := l) (G := G) hc9) cs_X8_191 (rest := [.ref (g_ad G 49)]) ⟨Nat.le_of_ble_eq_true rfl, Nat.le_of_ble_eq_true rfl⟩ hl.1 rfl rfl (Nat.le_of_ble_eq_true rfl) ⟨Nat.zero_le _, Nat.zero_le _⟩ dX8_advance_61) hS (fun H locs hW hS => ?_)
        refine lv_if_eq (tgt := 71) hx hb dX8_advance_64 (by decide) (fun c11 => ?_) (fun c11 => ?_)
        · have hF := it_p c11 hF
          refine lv_iload_n hx hb dX8_advance_71 rfl (lv_at hl 0 rfl) ?_
          obtain ⟨r13, hc12, hF⟩ := bi_e hF
          refine x_goi (x_runS cx hW hS (c_X8_isDigit (l := l) (G := G) hc12) cs_X8_194 (rest := [.ref (g_ad G 49)]) ⟨Nat.le_of_ble_eq_true rfl, Nat.le_of_ble_eq_true rfl⟩ hl.1 rfl rfl (Nat.le_of_ble_eq_true rfl) ⟨Nat.zero_le _, Nat.zero_le _⟩ dX8_advance_72) hS (fun H locs hW hS => ?_)
          refine lv_if_eq (tgt := 82) hx hb dX8_advance_75 (by decide) (fun c14 => ?_) (fun c14 => ?_)
          · have hF := it_p c14 hF
            refine lv_iconst (v := (3 : Int32)) hx hb dX8_advance_82 (by decide) ?_
            exact t_X8_advance_83 cx hr r7 (3 : Int32) M5 hF _ _ _ hW hS (lv_sub hl [1, 0] rfl)
          · have hF := it_n c14 hF
            refine lv_iconst (v := (2 : Int32)) hx hb dX8_advance_78 (by decide) ?_
            refine lv_goto (tgt := 83) hx hb dX8_advance_79 (by decide) ?_
            exact t_X8_advance_83 cx hr r7 (2 : Int32) M5 hF _ _ _ hW hS (lv_sub hl [1, 0] rfl)
        · have hF := it_n c11 hF
          refine lv_iconst (v := (1 : Int32)) hx hb dX8_advance_67 (by decide) ?_
          refine lv_goto (tgt := 83) hx hb dX8_advance_68 (by decide) ?_
          exact t_X8_advance_83 cx hr r7 (1 : Int32) M5 hF _ _ _ hW hS (lv_sub hl [1, 0] rfl)
      · have hF := it_n c8 hF
        refine lv_iconst (v := (0 : Int32)) hx hb dX8_advance_56 (by decide) ?_
        refine lv_goto (tgt := 83) hx hb dX8_advance_57 (by decide) ?_
        exact t_X8_advance_83 cx hr r7 (0 : Int32) M5 hF _ _ _ hW hS (lv_sub hl [1, 0] rfl)
    · have hF := it_p c4 hF
      refine lv_aload_n hx hb dX8_advance_21 rfl (lv_at hl 0 rfl) ?_
      refine lv_dup hx hb dX8_advance_22 rfl ?_
      refine x_get cx hW kc_49 fk_X8_185 (v := .int (m_I M 49 11)) rfl dX8_advance_23 ?_
      refine lv_iconst (v := (1 : Int32)) hx hb dX8_advance_26 (by decide) ?_
      refine lv_iadd hx hb dX8_advance_27 ?_
      obtain ⟨M50, eM50, hF⟩ := pin_e hF
      refine x_puti cx hW hS kc_49 fk_X8_185 ft_6_11 (Nat.le_of_ble_eq_true rfl) fs_6_11 eM50 dX8_advance_28 (fun H locs hW hS => ?_)
      refine lv_goto (tgt := 8) hx hb dX8_advance_31 (by decide) ?_
      exact ih M50 hF _ _ _ hW hS (lv_sub hl [0] rfl)
def F_X8_advance (M : Mem) : Option Mem := pin (w_I M 49 11 (m_I M 49 12)) (fun M1 => F_X8_advance_8 FU M1)
set_option maxHeartbeats 4000000 in
set_option maxRecDepth 100000 in
theorem c_X8_advance {l : Launch} {G : GG}   {M : Mem} {M1 : Mem} (hF : F_X8_advance M = some M1) : Met l yX8_advance (wz yX8_advance cX8_advance 2 none) (RM 2 42) (PreC G [.ref (g_ad G 49)] M) (QcV G M1) 0 0 (g_A G) := by
  rw [F_X8_advance] at hF
  refine x_start (by decide) (Nat.le_of_ble_eq_true rfl) (lv := [(0, .ref (g_ad G 49))]) rfl ?_
  intro p e s m below meth c cx hr hW hS ls hl
  obtain ⟨hx, hb, hml, hown, hts, hKK, hSS, hlk⟩ := id cx
  refine lv_aload_n hx hb dX8_advance_0 rfl (lv_at hl 0 rfl) ?_
  refine lv_aload_n hx hb dX8_advance_1 rfl (lv_at hl 0 rfl) ?_
  refine x_get cx hW kc_49 fk_X8_182 (v := .int (m_I M 49 12)) rfl dX8_advance_2 ?_
  obtain ⟨M1, eM1, hF⟩ := pin_e hF
  refine x_puti cx hW hS kc_49 fk_X8_185 ft_6_11 (Nat.le_of_ble_eq_true rfl) fs_6_11 eM1 dX8_advance_5 (fun H locs hW hS => ?_)
  exact t_X8_advance_8 cx hr FU M1 hF _ _ _ hW hS (lv_sub hl [0] rfl)
def F_X8_isWord (a1 : Int64) (M : Mem) : Option Int32 := (if (m_I M 49 10) = (1 : Int32) then (if (lg_cmp (m_J M 49 13) a1) = 0 then some (1 : Int32) else some (0 : Int32)) else some (0 : Int32))
set_option maxHeartbeats 4000000 in
set_option maxRecDepth 100000 in
theorem c_X8_isWord {l : Launch} {G : GG} {a1 : Int64}  {M : Mem} {r : Int32} (hF : F_X8_isWord a1 M = some r) : Met l yX8_isWord (wz yX8_isWord cX8_isWord 3 (some .boolean)) (RM 0 0) (PreC G [.ref (g_ad G 49), .long a1] M) (QcI G r M) 0 0 (g_A G) := by
  rw [F_X8_isWord] at hF
  refine x_start (by decide) (Nat.le_of_ble_eq_true rfl) (lv := [(0, .ref (g_ad G 49)), (1, .long a1)]) rfl ?_
  intro p e s m below meth c cx hr hW hS ls hl
  obtain ⟨hx, hb, hml, hown, hts, hKK, hSS, hlk⟩ := id cx
  refine lv_aload_n hx hb dX8_isWord_0 rfl (lv_at hl 0 rfl) ?_
  refine x_get cx hW kc_49 fk_X8_197 (v := .int (m_I M 49 10)) rfl dX8_isWord_1 ?_
  refine lv_iconst (v := (1 : Int32)) hx hb dX8_isWord_4 (by decide) ?_
  refine lv_icmp_ne (tgt := 21) hx hb dX8_isWord_5 (by decide) (fun c1 => ?_) (fun c1 => ?_)
  · have hF := it_n c1 hF
    refine lv_iconst (v := (0 : Int32)) hx hb dX8_isWord_21 (by decide) ?_
    exact x_zret cx hr (by decide) hW hS (Option.some.inj hF) rfl dX8_isWord_22
  · have hF := it_p c1 hF
    refine lv_aload_n hx hb dX8_isWord_8 rfl (lv_at hl 0 rfl) ?_
    refine x_get cx hW kc_49 fk_X8_200 (v := .long (m_J M 49 13)) rfl dX8_isWord_9 ?_
    refine lv_lload_n hx hb dX8_isWord_12 rfl (lv_at hl 1 rfl) ?_
    refine W.lcmp hx hb dX8_isWord_13 ?_
    refine lv_if_ne (tgt := 21) hx hb dX8_isWord_14 (by decide) (fun c2 => ?_) (fun c2 => ?_)
    · have hF := it_n c2 hF
      refine lv_iconst (v := (0 : Int32)) hx hb dX8_isWord_21 (by decide) ?_
      exact x_zret cx hr (by decide) hW hS (Option.some.inj hF) rfl dX8_isWord_22
    · have hF := it_p c2 hF
      refine lv_iconst (v := (1 : Int32)) hx hb dX8_isWord_17 (by decide) ?_
      refine lv_goto (tgt := 22) hx hb dX8_isWord_18 (by decide) ?_
      exact x_zret cx hr (by decide) hW hS (Option.some.inj hF) rfl dX8_isWord_22
def F_X8_kindHere (M : Mem) : Option Int32 := (F_X8_isWord (233793143982 : Int64) M).bind (fun r2 => (if r2 = 0 then (F_X8_isWord (10360367 : Int64) M).bind (fun r5 => (if r5 = 0 then (F_X8_isWord (14092 : Int64) M).bind (fun r8 => (if r8 = 0 then (F_X8_isWord (1758676 : Int64) M).bind (fun r11 => (if r11 = 0 then (F_X8_isWord (239329775 : Int64) M).bind (fun r14 => (if r14 = 0 then (F_X8_isWord (10792986 : Int64) M).bind (fun r17 => (if r17 = 0 then some (-1 : Int32) else some (5 : Int32))) else some (4 : Int32))) else some (3 : Int32))) else some (2 : Int32))) else some (1 : Int32))) else some (0 : Int32)))
set_option maxHeartbeats 4000000 in
set_option maxRecDepth 100000 in
theorem c_X8_kindHere {l : Launch} {G : GG}   {M : Mem} {r : Int32} (hF : F_X8_kindHere M = some r) : Met l yX8_kindHere (wz yX8_kindHere cX8_kindHere 1 (some .int)) (RM 1 22) (PreC G [.ref (g_ad G 49)] M) (QcI G r M) 0 0 (g_A G) := by
  rw [F_X8_kindHere] at hF
  refine x_start (by decide) (Nat.le_of_ble_eq_true rfl) (lv := [(0, .ref (g_ad G 49))]) rfl ?_
  intro p e s m below meth c cx hr hW hS ls hl
  obtain ⟨hx, hb, hml, hown, hts, hKK, hSS, hlk⟩ := id cx
  refine lv_aload_n hx hb dX8_kindHere_0 rfl (lv_at hl 0 rfl) ?_
  refine x_ldc2 cx q_l_X8_213 dX8_kindHere_1 ?_
  obtain ⟨r2, hc1, hF⟩ := bi_e hF
  refine x_goi (x_runV cx hW hS (c_X8_isWord (l := l) (G := G) hc1) cv_X8_215 kc_49 rfl (rest := []) ⟨Nat.le_of_ble_eq_true rfl, Nat.le_of_ble_eq_true rfl⟩ hl.1 rfl rfl (Nat.le_of_ble_eq_true rfl) ⟨Nat.zero_le _, Nat.zero_le _⟩ dX8_kindHere_4) hS (fun H locs hW hS => ?_)
  refine lv_if_eq (tgt := 14) hx hb dX8_kindHere_7 (by decide) (fun c3 => ?_) (fun c3 => ?_)
  · have hF := it_p c3 hF
    refine lv_aload_n hx hb dX8_kindHere_14 rfl (lv_at hl 0 rfl) ?_
    refine x_ldc2 cx q_l_X8_219 dX8_kindHere_15 ?_
    obtain ⟨r5, hc4, hF⟩ := bi_e hF
    refine x_goi (x_runV cx hW hS (c_X8_isWord (l := l) (G := G) hc4) cv_X8_215 kc_49 rfl (rest := []) ⟨Nat.le_of_ble_eq_true rfl, Nat.le_of_ble_eq_true rfl⟩ hl.1 rfl rfl (Nat.le_of_ble_eq_true rfl) ⟨Nat.zero_le _, Nat.zero_le _⟩ dX8_kindHere_18) hS (fun H locs hW hS => ?_)
    refine lv_if_eq (tgt := 28) hx hb dX8_kindHere_21 (by decide) (fun c6 => ?_) (fun c6 => ?_)
    · have hF := it_p c6 hF
      refine lv_aload_n hx hb dX8_kindHere_28 rfl (lv_at hl 0 rfl) ?_
      refine x_ldc2 cx q_l_X8_221 dX8_kindHere_29 ?_
      obtain ⟨r8, hc7, hF⟩ := bi_e hF
      refine x_goi (x_runV cx hW hS (c_X8_isWord (l := l) (G := G) hc7) cv_X8_215 kc_49 rfl (rest := []) ⟨Nat.le_of_ble_eq_true rfl, Nat.le_of_ble_eq_true rfl⟩ hl.1 rfl rfl (Nat.le_of_ble_eq_true rfl) ⟨Nat.zero_le _, Nat.zero_le _⟩ dX8_kindHere_32) hS (fun H locs hW hS => ?_)
      refine lv_if_eq (tgt := 42) hx hb dX8_kindHere_35 (by decide) (fun c9 => ?_) (fun c9 => ?_)
      · have hF := it_p c9 hF
        refine lv_aload_n hx hb dX8_kindHere_42 rfl (lv_at hl 0 rfl) ?_
        refine x_ldc2 cx q_l_X8_223 dX8_kindHere_43 ?_
        obtain ⟨r11, hc10, hF⟩ := bi_e hF
        refine x_goi (x_runV cx hW hS (c_X8_isWord (l := l) (G := G) hc10) cv_X8_215 kc_49 rfl (rest := []) ⟨Nat.le_of_ble_eq_true rfl, Nat.le_of_ble_eq_true rfl⟩ hl.1 rfl rfl (Nat.le_of_ble_eq_true rfl) ⟨Nat.zero_le _, Nat.zero_le _⟩ dX8_kindHere_46) hS (fun H locs hW hS => ?_)
        refine lv_if_eq (tgt := 56) hx hb dX8_kindHere_49 (by decide) (fun c12 => ?_) (fun c12 => ?_)
        · have hF := it_p c12 hF
          refine lv_aload_n hx hb dX8_kindHere_56 rfl (lv_at hl 0 rfl) ?_
          refine x_ldc2 cx q_l_X8_225 dX8_kindHere_57 ?_
          obtain ⟨r14, hc13, hF⟩ := bi_e hF
          refine x_goi (x_runV cx hW hS (c_X8_isWord (l := l) (G := G) hc13) cv_X8_215 kc_49 rfl (rest := []) ⟨Nat.le_of_ble_eq_true rfl, Nat.le_of_ble_eq_true rfl⟩ hl.1 rfl rfl (Nat.le_of_ble_eq_true rfl) ⟨Nat.zero_le _, Nat.zero_le _⟩ dX8_kindHere_60) hS (fun H locs hW hS => ?_)
          refine lv_if_eq (tgt := 70) hx hb dX8_kindHere_63 (by decide) (fun c15 => ?_) (fun c15 => ?_)
          · have hF := it_p c15 hF
            refine lv_aload_n hx hb dX8_kindHere_70 rfl (lv_at hl 0 rfl) ?_
            refine x_ldc2 cx q_l_X8_227 dX8_kindHere_71 ?_
            obtain ⟨r17, hc16, hF⟩ := bi_e hF
            refine x_goi (x_runV cx hW hS (c_X8_isWord (l := l) (G := G) hc16) cv_X8_215 kc_49 rfl (rest := []) ⟨Nat.le_of_ble_eq_true rfl, Nat.le_of_ble_eq_true rfl⟩ hl.1 rfl rfl (Nat.le_of_ble_eq_true rfl) ⟨Nat.zero_le _, Nat.zero_le _⟩ dX8_kindHere_74) hS (fun H locs hW hS => ?_)
            refine lv_if_eq (tgt := 84) hx hb dX8_kindHere_77 (by decide) (fun c18 => ?_) (fun c18 => ?_)
            · have hF := it_p c18 hF
              refine lv_iconst (v := (-1 : Int32)) hx hb dX8_kindHere_84 (by decide) ?_
              exact x_iret cx hr hW hS (Option.some.inj hF) rfl dX8_kindHere_85
            · have hF := it_n c18 hF
              refine lv_iconst (v := (5 : Int32)) hx hb dX8_kindHere_80 (by decide) ?_
              refine lv_goto (tgt := 85) hx hb dX8_kindHere_81 (by decide) ?_
              exact x_iret cx hr hW hS (Option.some.inj hF) rfl dX8_kindHere_85
          · have hF := it_n c15 hF
            refine lv_iconst (v := (4 : Int32)) hx hb dX8_kindHere_66 (by decide) ?_
            refine lv_goto (tgt := 85) hx hb dX8_kindHere_67 (by decide) ?_
            exact x_iret cx hr hW hS (Option.some.inj hF) rfl dX8_kindHere_85
        · have hF := it_n c12 hF
          refine lv_iconst (v := (3 : Int32)) hx hb dX8_kindHere_52 (by decide) ?_
          refine lv_goto (tgt := 85) hx hb dX8_kindHere_53 (by decide) ?_
          exact x_iret cx hr hW hS (Option.some.inj hF) rfl dX8_kindHere_85
      · have hF := it_n c9 hF
        refine lv_iconst (v := (2 : Int32)) hx hb dX8_kindHere_38 (by decide) ?_
        refine lv_goto (tgt := 85) hx hb dX8_kindHere_39 (by decide) ?_
        exact x_iret cx hr hW hS (Option.some.inj hF) rfl dX8_kindHere_85
    · have hF := it_n c6 hF
      refine lv_iconst (v := (1 : Int32)) hx hb dX8_kindHere_24 (by decide) ?_
      refine lv_goto (tgt := 85) hx hb dX8_kindHere_25 (by decide) ?_
      exact x_iret cx hr hW hS (Option.some.inj hF) rfl dX8_kindHere_85
  · have hF := it_n c3 hF
    refine lv_iconst (v := (0 : Int32)) hx hb dX8_kindHere_10 (by decide) ?_
    refine lv_goto (tgt := 85) hx hb dX8_kindHere_11 (by decide) ?_
    exact x_iret cx hr hW hS (Option.some.inj hF) rfl dX8_kindHere_85
def F_X8_wantNumber (a1 : Int32) (a2 : Int32) (M : Mem) : Option (Int32 × Mem) := (if (m_I M 49 15) = 0 then pin (w_I M 49 15 (0 : Int32)) (fun M2 => (if (m_I M2 49 15) = 0 then some ((m_I M 49 14), M2) else (F_X8_advance M2).bind (fun M5 => some ((m_I M 49 14), M5)))) else (if (m_I M 49 10) = (2 : Int32) then (F_X8_in (m_I M 49 14) a1 a2 M).bind (fun r12 => (if r12 = 0 then pin (w_I M 49 15 (0 : Int32)) (fun M14 => (if (m_I M14 49 15) = 0 then some ((m_I M 49 14), M14) else (F_X8_advance M14).bind (fun M17 => some ((m_I M 49 14), M17)))) else pin (w_I M 49 15 (1 : Int32)) (fun M18 => (if (m_I M18 49 15) = 0 then some ((m_I M 49 14), M18) else (F_X8_advance M18).bind (fun M21 => some ((m_I M 49 14), M21)))))) else pin (w_I M 49 15 (0 : Int32)) (fun M7 => (if (m_I M7 49 15) = 0 then some ((m_I M 49 14), M7) else (F_X8_advance M7).bind (fun M10 => some ((m_I M 49 14), M10))))))
set_option maxHeartbeats 4000000 in
set_option maxRecDepth 100000 in
theorem c_X8_wantNumber {l : Launch} {G : GG} {a1 : Int32} {a2 : Int32}  {M : Mem} {r : Int32} {M1 : Mem} (hF : F_X8_wantNumber a1 a2 M = some (r, M1)) : Met l yX8_wantNumber (wz yX8_wantNumber cX8_wantNumber 4 (some .int)) (RM 3 63) (PreC G [.ref (g_ad G 49), .int a1, .int a2] M) (QcI G r M1) 0 0 (g_A G) := by
  rw [F_X8_wantNumber] at hF
  refine x_start (by decide) (Nat.le_of_ble_eq_true rfl) (lv := [(0, .ref (g_ad G 49)), (1, .int a1), (2, .int a2)]) rfl ?_
  intro p e s m below meth c cx hr hW hS ls hl
  obtain ⟨hx, hb, hml, hown, hts, hKK, hSS, hlk⟩ := id cx
  refine lv_aload_n hx hb dX8_wantNumber_0 rfl (lv_at hl 0 rfl) ?_
  refine x_get cx hW kc_49 fk_X8_204 (v := .int (m_I M 49 14)) rfl dX8_wantNumber_1 ?_
  refine lv_istore_n (lv' := [(3, .int (m_I M 49 14)), (0, .ref (g_ad G 49)), (1, .int a1), (2, .int a2)]) hx hb dX8_wantNumber_4 rfl hl (by decide) rfl (fun ls hl => ?_)
  refine lv_aload_n hx hb dX8_wantNumber_5 rfl (lv_at hl 1 rfl) ?_
  refine lv_aload_n hx hb dX8_wantNumber_6 rfl (lv_at hl 1 rfl) ?_
  refine x_get cx hW kc_49 fk_X8_229 (v := .int (m_I M 49 15)) rfl dX8_wantNumber_7 ?_
  refine lv_if_eq (tgt := 34) hx hb dX8_wantNumber_10 (by decide) (fun c1 => ?_) (fun c1 => ?_)
  · have hF := it_p c1 hF
    refine lv_iconst (v := (0 : Int32)) hx hb dX8_wantNumber_34 (by decide) ?_
    obtain ⟨M2, eM2, hF⟩ := pin_e hF
    refine x_putz cx hW hS kc_49 fk_X8_229 ft_6_15 (by decide) (Nat.le_of_ble_eq_true rfl) fs_6_15 eM2 dX8_wantNumber_35 (fun H locs hW hS => ?_)
    refine lv_aload_n hx hb dX8_wantNumber_38 rfl (lv_at hl 1 rfl) ?_
    refine x_get cx hW kc_49 fk_X8_229 (v := .int (m_I M2 49 15)) rfl dX8_wantNumber_39 ?_
    refine lv_if_eq (tgt := 49) hx hb dX8_wantNumber_42 (by decide) (fun c3 => ?_) (fun c3 => ?_)
    · have hF := it_p c3 hF
      refine lv_iload_n hx hb dX8_wantNumber_49 rfl (lv_at hl 0 rfl) ?_
      exact x_iret cx hr hW hS (sp_1 hF) (sp_2 hF) dX8_wantNumber_50
    · have hF := it_n c3 hF
      refine lv_aload_n hx hb dX8_wantNumber_45 rfl (lv_at hl 1 rfl) ?_
      obtain ⟨M5, hc4, hF⟩ := bi_e hF
      refine x_gov (x_runV cx hW hS (c_X8_advance (l := l) (G := G) hc4) cv_X8_233 kc_49 rfl (rest := []) ⟨Nat.le_of_ble_eq_true rfl, Nat.le_of_ble_eq_true rfl⟩ hl.1 rfl rfl (Nat.le_of_ble_eq_true rfl) ⟨Nat.zero_le _, Nat.zero_le _⟩ dX8_wantNumber_46) hS (fun H locs hW hS => ?_)
      refine lv_iload_n hx hb dX8_wantNumber_49 rfl (lv_at hl 0 rfl) ?_
      exact x_iret cx hr hW hS (sp_1 hF) (sp_2 hF) dX8_wantNumber_50
  · have hF := it_n c1 hF
    refine lv_aload_n hx hb dX8_wantNumber_13 rfl (lv_at hl 1 rfl) ?_
    refine x_get cx hW kc_49 fk_X8_197 (v := .int (m_I M 49 10)) rfl dX8_wantNumber_14 ?_
    refine lv_iconst (v := (2 : Int32)) hx hb dX8_wantNumber_17 (by decide) ?_
    refine lv_icmp_ne (tgt := 34) hx hb dX8_wantNumber_18 (by decide) (fun c6 => ?_) (fun c6 => ?_)
    · have hF := it_n c6 hF
      refine lv_iconst (v := (0 : Int32)) hx hb dX8_wantNumber_34 (by decide) ?_
      obtain ⟨M7, eM7, hF⟩ := pin_e hF
      refine x_putz cx hW hS kc_49 fk_X8_229 ft_6_15 (by decide) (Nat.le_of_ble_eq_true rfl) fs_6_15 eM7 dX8_wantNumber_35 (fun H locs hW hS => ?_)
      refine lv_aload_n hx hb dX8_wantNumber_38 rfl (lv_at hl 1 rfl) ?_
      refine x_get cx hW kc_49 fk_X8_229 (v := .int (m_I M7 49 15)) rfl dX8_wantNumber_39 ?_
      refine lv_if_eq (tgt := 49) hx hb dX8_wantNumber_42 (by decide) (fun c8 => ?_) (fun c8 => ?_)
      · have hF := it_p c8 hF
        refine lv_iload_n hx hb dX8_wantNumber_49 rfl (lv_at hl 0 rfl) ?_
        exact x_iret cx hr hW hS (sp_1 hF) (sp_2 hF) dX8_wantNumber_50
      · have hF := it_n c8 hF
        refine lv_aload_n hx hb dX8_wantNumber_45 rfl (lv_at hl 1 rfl) ?_
        obtain ⟨M10, hc9, hF⟩ := bi_e hF
        refine x_gov (x_runV cx hW hS (c_X8_advance (l := l) (G := G) hc9) cv_X8_233 kc_49 rfl (rest := []) ⟨Nat.le_of_ble_eq_true rfl, Nat.le_of_ble_eq_true rfl⟩ hl.1 rfl rfl (Nat.le_of_ble_eq_true rfl) ⟨Nat.zero_le _, Nat.zero_le _⟩ dX8_wantNumber_46) hS (fun H locs hW hS => ?_)
        refine lv_iload_n hx hb dX8_wantNumber_49 rfl (lv_at hl 0 rfl) ?_
        exact x_iret cx hr hW hS (sp_1 hF) (sp_2 hF) dX8_wantNumber_50
    · have hF := it_p c6 hF
      refine lv_iload_n hx hb dX8_wantNumber_21 rfl (lv_at hl 0 rfl) ?_
      refine lv_iload_n hx hb dX8_wantNumber_22 rfl (lv_at hl 2 rfl) ?_
      refine lv_iload_n hx hb dX8_wantNumber_23 rfl (lv_at hl 3 rfl) ?_
      obtain ⟨r12, hc11, hF⟩ := bi_e hF
      refine x_goi (x_runS cx hW hS (c_X8_in (l := l) (G := G) hc11) cs_X8_57 (rest := [.ref (g_ad G 49)]) ⟨Nat.le_of_ble_eq_true rfl, Nat.le_of_ble_eq_true rfl⟩ hl.1 rfl rfl (Nat.le_of_ble_eq_true rfl) ⟨Nat.zero_le _, Nat.zero_le _⟩ dX8_wantNumber_24) hS (fun H locs hW hS => ?_)
      refine lv_if_eq (tgt := 34) hx hb dX8_wantNumber_27 (by decide) (fun c13 => ?_) (fun c13 => ?_)
      · have hF := it_p c13 hF
        refine lv_iconst (v := (0 : Int32)) hx hb dX8_wantNumber_34 (by decide) ?_
        obtain ⟨M14, eM14, hF⟩ := pin_e hF
        refine x_putz cx hW hS kc_49 fk_X8_229 ft_6_15 (by decide) (Nat.le_of_ble_eq_true rfl) fs_6_15 eM14 dX8_wantNumber_35 (fun H locs hW hS => ?_)
        refine lv_aload_n hx hb dX8_wantNumber_38 rfl (lv_at hl 1 rfl) ?_
        refine x_get cx hW kc_49 fk_X8_229 (v := .int (m_I M14 49 15)) rfl dX8_wantNumber_39 ?_
        refine lv_if_eq (tgt := 49) hx hb dX8_wantNumber_42 (by decide) (fun c15 => ?_) (fun c15 => ?_)
        · have hF := it_p c15 hF
          refine lv_iload_n hx hb dX8_wantNumber_49 rfl (lv_at hl 0 rfl) ?_
          exact x_iret cx hr hW hS (sp_1 hF) (sp_2 hF) dX8_wantNumber_50
        · have hF := it_n c15 hF
          refine lv_aload_n hx hb dX8_wantNumber_45 rfl (lv_at hl 1 rfl) ?_
          obtain ⟨M17, hc16, hF⟩ := bi_e hF
          refine x_gov (x_runV cx hW hS (c_X8_advance (l := l) (G := G) hc16) cv_X8_233 kc_49 rfl (rest := []) ⟨Nat.le_of_ble_eq_true rfl, Nat.le_of_ble_eq_true rfl⟩ hl.1 rfl rfl (Nat.le_of_ble_eq_true rfl) ⟨Nat.zero_le _, Nat.zero_le _⟩ dX8_wantNumber_46) hS (fun H locs hW hS => ?_)
          refine lv_iload_n hx hb dX8_wantNumber_49 rfl (lv_at hl 0 rfl) ?_
          exact x_iret cx hr hW hS (sp_1 hF) (sp_2 hF) dX8_wantNumber_50
      · have hF := it_n c13 hF
        refine lv_iconst (v := (1 : Int32)) hx hb dX8_wantNumber_30 (by decide) ?_
        refine lv_goto (tgt := 35) hx hb dX8_wantNumber_31 (by decide) ?_
        obtain ⟨M18, eM18, hF⟩ := pin_e hF
        refine x_putz cx hW hS kc_49 fk_X8_229 ft_6_15 (by decide) (Nat.le_of_ble_eq_true rfl) fs_6_15 eM18 dX8_wantNumber_35 (fun H locs hW hS => ?_)
        refine lv_aload_n hx hb dX8_wantNumber_38 rfl (lv_at hl 1 rfl) ?_
        refine x_get cx hW kc_49 fk_X8_229 (v := .int (m_I M18 49 15)) rfl dX8_wantNumber_39 ?_
        refine lv_if_eq (tgt := 49) hx hb dX8_wantNumber_42 (by decide) (fun c19 => ?_) (fun c19 => ?_)
        · have hF := it_p c19 hF
          refine lv_iload_n hx hb dX8_wantNumber_49 rfl (lv_at hl 0 rfl) ?_
          exact x_iret cx hr hW hS (sp_1 hF) (sp_2 hF) dX8_wantNumber_50
        · have hF := it_n c19 hF
          refine lv_aload_n hx hb dX8_wantNumber_45 rfl (lv_at hl 1 rfl) ?_
          obtain ⟨M21, hc20, hF⟩ := bi_e hF
          refine x_gov (x_runV cx hW hS (c_X8_advance (l := l) (G := G) hc20) cv_X8_233 kc_49 rfl (rest := []) ⟨Nat.le_of_ble_eq_true rfl, Nat.le_of_ble_eq_true rfl⟩ hl.1 rfl rfl (Nat.le_of_ble_eq_true rfl) ⟨Nat.zero_le _, Nat.zero_le _⟩ dX8_wantNumber_46) hS (fun H locs hW hS => ?_)
          refine lv_iload_n hx hb dX8_wantNumber_49 rfl (lv_at hl 0 rfl) ?_
          exact x_iret cx hr hW hS (sp_1 hF) (sp_2 hF) dX8_wantNumber_50
def F_X8_mayWant (a1 : Int64) (a3 : Int32) (a4 : Int32) (a5 : Int32) (M : Mem) : Option (Int32 × Mem) := (if (m_I M 49 15) = 0 then some (a5, M) else (F_X8_isWord a1 M).bind (fun r3 => (if r3 = 0 then some (a5, M) else (F_X8_advance M).bind (fun M6 => bn (F_X8_wantNumber a3 a4 M6) (fun r8 M9 => some (r8, M9))))))
set_option maxHeartbeats 4000000 in
set_option maxRecDepth 100000 in
theorem c_X8_mayWant {l : Launch} {G : GG} {a1 : Int64} {a3 : Int32} {a4 : Int32} {a5 : Int32}  {M : Mem} {r : Int32} {M1 : Mem} (hF : F_X8_mayWant a1 a3 a4 a5 M = some (r, M1)) : Met l yX8_mayWant (wz yX8_mayWant cX8_mayWant 6 (some .int)) (RM 4 86) (PreC G [.ref (g_ad G 49), .long a1, .int a3, .int a4, .int a5] M) (QcI G r M1) 0 0 (g_A G) := by
  rw [F_X8_mayWant] at hF
  refine x_start (by decide) (Nat.le_of_ble_eq_true rfl) (lv := [(0, .ref (g_ad G 49)), (1, .long a1), (3, .int a3), (4, .int a4), (5, .int a5)]) rfl ?_
  intro p e s m below meth c cx hr hW hS ls hl
  obtain ⟨hx, hb, hml, hown, hts, hKK, hSS, hlk⟩ := id cx
  refine lv_aload_n hx hb dX8_mayWant_0 rfl (lv_at hl 0 rfl) ?_
  refine x_get cx hW kc_49 fk_X8_229 (v := .int (m_I M 49 15)) rfl dX8_mayWant_1 ?_
  refine lv_if_eq (tgt := 15) hx hb dX8_mayWant_4 (by decide) (fun c1 => ?_) (fun c1 => ?_)
  · have hF := it_p c1 hF
    refine lv_iload hx hb dX8_mayWant_15 (lv_at hl 4 rfl) ?_
    exact x_iret cx hr hW hS (sp_1 hF) (sp_2 hF) dX8_mayWant_17
  · have hF := it_n c1 hF
    refine lv_aload_n hx hb dX8_mayWant_7 rfl (lv_at hl 0 rfl) ?_
    refine lv_lload_n hx hb dX8_mayWant_8 rfl (lv_at hl 1 rfl) ?_
    obtain ⟨r3, hc2, hF⟩ := bi_e hF
    refine x_goi (x_runV cx hW hS (c_X8_isWord (l := l) (G := G) hc2) cv_X8_215 kc_49 rfl (rest := []) ⟨Nat.le_of_ble_eq_true rfl, Nat.le_of_ble_eq_true rfl⟩ hl.1 rfl rfl (Nat.le_of_ble_eq_true rfl) ⟨Nat.zero_le _, Nat.zero_le _⟩ dX8_mayWant_9) hS (fun H locs hW hS => ?_)
    refine lv_if_ne (tgt := 18) hx hb dX8_mayWant_12 (by decide) (fun c4 => ?_) (fun c4 => ?_)
    · have hF := it_n c4 hF
      refine lv_aload_n hx hb dX8_mayWant_18 rfl (lv_at hl 0 rfl) ?_
      obtain ⟨M6, hc5, hF⟩ := bi_e hF
      refine x_gov (x_runV cx hW hS (c_X8_advance (l := l) (G := G) hc5) cv_X8_233 kc_49 rfl (rest := []) ⟨Nat.le_of_ble_eq_true rfl, Nat.le_of_ble_eq_true rfl⟩ hl.1 rfl rfl (Nat.le_of_ble_eq_true rfl) ⟨Nat.zero_le _, Nat.zero_le _⟩ dX8_mayWant_19) hS (fun H locs hW hS => ?_)
      refine lv_aload_n hx hb dX8_mayWant_22 rfl (lv_at hl 0 rfl) ?_
      refine lv_iload_n hx hb dX8_mayWant_23 rfl (lv_at hl 2 rfl) ?_
      refine lv_iload hx hb dX8_mayWant_24 (lv_at hl 3 rfl) ?_
      obtain ⟨r8, M9, hc7, hF⟩ := bn_e hF
      refine x_goi (x_runV cx hW hS (c_X8_wantNumber (l := l) (G := G) hc7) cv_X8_236 kc_49 rfl (rest := []) ⟨Nat.le_of_ble_eq_true rfl, Nat.le_of_ble_eq_true rfl⟩ hl.1 rfl rfl (Nat.le_of_ble_eq_true rfl) ⟨Nat.zero_le _, Nat.zero_le _⟩ dX8_mayWant_26) hS (fun H locs hW hS => ?_)
      exact x_iret cx hr hW hS (sp_1 hF) (sp_2 hF) dX8_mayWant_29
    · have hF := it_p c4 hF
      refine lv_iload hx hb dX8_mayWant_15 (lv_at hl 4 rfl) ?_
      exact x_iret cx hr hW hS (sp_1 hF) (sp_2 hF) dX8_mayWant_17
def F_X8_wantPerson_17 (a1 : Int32) (t0 : Int32) (M : Mem) : Option Mem := zb t0 (pin (w_I M 49 15 t0) (fun M4 => (if (m_I M4 49 15) = 0 then some M4 else (F_X8_advance M4).bind (fun M7 => bn (F_X8_mayWant (464141 : Int64) (0 : Int32) (20 : Int32) (5 : Int32) M7) (fun r9 M10 => bn (F_X8_mayWant (8930039 : Int64) (0 : Int32) (999 : Int32) (10 : Int32) M10) (fun r12 M13 => bn (F_X8_mayWant (276647 : Int64) (0 : Int32) (99 : Int32) (50 : Int32) M13) (fun r15 M16 => (if (m_I M16 49 15) = 0 then some M16 else (F_X8_adds a1 r9 r12 r15 M16).bind (fun M19 => some M19)))))))))
set_option maxHeartbeats 4000000 in
set_option maxRecDepth 100000 in
theorem t_X8_wantPerson_17 {p : Program} {l : Launch} {e : Env} {s : State} {m : MethodId} {args : Array Value} {below : List Frame} {meth : Method} {c : Code} {G : GG} {a1 : Int32} (cx : Cx G cX8_wantPerson RX8 5 p s m args meth c) (hr : meth.sig.returnType = none)   {M1 : Mem} : ∀ (t0 : Int32) (M : Mem), F_X8_wantPerson_17 a1 t0 M = some M1 → ∀ (H : Heap) (locs : List Loc) (ls : Array Slot), WH G M H → va_S (g_A G) s.heap H locs → lv_has ls 5 [(0, .ref (g_ad G 49)), (1, .int a1)] → W p l e (RM 5 111) s m args below meth c H locs 0 0 (MQ below (QcV G M1) args s 0 0 (g_A G)) (F0 m 17 ls [.int t0, .ref (g_ad G 49)]) := by
  obtain ⟨hx, hb, hml, hown, hts, hKK, hSS, hlk⟩ := id cx
  intro t0 M hF H locs ls hW hS hl
  rw [F_X8_wantPerson_17] at hF
  obtain ⟨z3, hF⟩ := zb_e hF
  obtain ⟨M4, eM4, hF⟩ := pin_e hF
  refine x_putz cx hW hS kc_49 fk_X8_229 ft_6_15 z3 (Nat.le_of_ble_eq_true rfl) fs_6_15 eM4 dX8_wantPerson_17 (fun H locs hW hS => ?_)
  refine lv_aload_n hx hb dX8_wantPerson_20 rfl (lv_at hl 0 rfl) ?_
  refine x_get cx hW kc_49 fk_X8_229 (v := .int (m_I M4 49 15)) rfl dX8_wantPerson_21 ?_
  refine lv_if_ne (tgt := 28) hx hb dX8_wantPerson_24 (by decide) (fun c5 => ?_) (fun c5 => ?_)
  · have hF := it_n c5 hF
    refine lv_aload_n hx hb dX8_wantPerson_28 rfl (lv_at hl 0 rfl) ?_
    obtain ⟨M7, hc6, hF⟩ := bi_e hF
    refine x_gov (x_runV cx hW hS (c_X8_advance (l := l) (G := G) hc6) cv_X8_233 kc_49 rfl (rest := []) ⟨Nat.le_of_ble_eq_true rfl, Nat.le_of_ble_eq_true rfl⟩ hl.1 rfl rfl (Nat.le_of_ble_eq_true rfl) ⟨Nat.zero_le _, Nat.zero_le _⟩ dX8_wantPerson_29) hS (fun H locs hW hS => ?_)
    refine lv_aload_n hx hb dX8_wantPerson_32 rfl (lv_at hl 0 rfl) ?_
    refine x_ldc2 cx q_l_X8_239 dX8_wantPerson_33 ?_
    refine lv_iconst (v := (0 : Int32)) hx hb dX8_wantPerson_36 (by decide) ?_
    refine lv_bipush (v := (20 : Int32)) hx hb dX8_wantPerson_37 (by decide) ?_
    refine lv_iconst (v := (5 : Int32)) hx hb dX8_wantPerson_39 (by decide) ?_
    obtain ⟨r9, M10, hc8, hF⟩ := bn_e hF
    refine x_goi (x_runV cx hW hS (c_X8_mayWant (l := l) (G := G) hc8) cv_X8_241 kc_49 rfl (rest := []) ⟨Nat.le_of_ble_eq_true rfl, Nat.le_of_ble_eq_true rfl⟩ hl.1 rfl rfl (Nat.le_of_ble_eq_true rfl) ⟨Nat.zero_le _, Nat.zero_le _⟩ dX8_wantPerson_40) hS (fun H locs hW hS => ?_)
    refine lv_istore_n (lv' := [(2, .int r9), (0, .ref (g_ad G 49)), (1, .int a1)]) hx hb dX8_wantPerson_43 rfl hl (by decide) rfl (fun ls hl => ?_)
    refine lv_aload_n hx hb dX8_wantPerson_44 rfl (lv_at hl 1 rfl) ?_
    refine x_ldc2 cx q_l_X8_245 dX8_wantPerson_45 ?_
    refine lv_iconst (v := (0 : Int32)) hx hb dX8_wantPerson_48 (by decide) ?_
    refine lv_sipush (v := (999 : Int32)) hx hb dX8_wantPerson_49 (by decide) ?_
    refine lv_bipush (v := (10 : Int32)) hx hb dX8_wantPerson_52 (by decide) ?_
    obtain ⟨r12, M13, hc11, hF⟩ := bn_e hF
    refine x_goi (x_runV cx hW hS (c_X8_mayWant (l := l) (G := G) hc11) cv_X8_241 kc_49 rfl (rest := []) ⟨Nat.le_of_ble_eq_true rfl, Nat.le_of_ble_eq_true rfl⟩ hl.1 rfl rfl (Nat.le_of_ble_eq_true rfl) ⟨Nat.zero_le _, Nat.zero_le _⟩ dX8_wantPerson_54) hS (fun H locs hW hS => ?_)
    refine lv_istore_n (lv' := [(3, .int r12), (2, .int r9), (0, .ref (g_ad G 49)), (1, .int a1)]) hx hb dX8_wantPerson_57 rfl hl (by decide) rfl (fun ls hl => ?_)
    refine lv_aload_n hx hb dX8_wantPerson_58 rfl (lv_at hl 2 rfl) ?_
    refine x_ldc2 cx q_l_X8_247 dX8_wantPerson_59 ?_
    refine lv_iconst (v := (0 : Int32)) hx hb dX8_wantPerson_62 (by decide) ?_
    refine lv_bipush (v := (99 : Int32)) hx hb dX8_wantPerson_63 (by decide) ?_
    refine lv_bipush (v := (50 : Int32)) hx hb dX8_wantPerson_65 (by decide) ?_
    obtain ⟨r15, M16, hc14, hF⟩ := bn_e hF
    refine x_goi (x_runV cx hW hS (c_X8_mayWant (l := l) (G := G) hc14) cv_X8_241 kc_49 rfl (rest := []) ⟨Nat.le_of_ble_eq_true rfl, Nat.le_of_ble_eq_true rfl⟩ hl.1 rfl rfl (Nat.le_of_ble_eq_true rfl) ⟨Nat.zero_le _, Nat.zero_le _⟩ dX8_wantPerson_67) hS (fun H locs hW hS => ?_)
    refine lv_istore (lv' := [(4, .int r15), (3, .int r12), (2, .int r9), (0, .ref (g_ad G 49)), (1, .int a1)]) hx hb dX8_wantPerson_70 hl (by decide) rfl (fun ls hl => ?_)
    refine lv_aload_n hx hb dX8_wantPerson_72 rfl (lv_at hl 3 rfl) ?_
    refine x_get cx hW kc_49 fk_X8_229 (v := .int (m_I M16 49 15)) rfl dX8_wantPerson_73 ?_
    refine lv_if_eq (tgt := 88) hx hb dX8_wantPerson_76 (by decide) (fun c17 => ?_) (fun c17 => ?_)
    · have hF := it_p c17 hF
      exact x_vret cx hr hW hS (Option.some.inj hF) dX8_wantPerson_88
    · have hF := it_n c17 hF
      refine lv_aload_n hx hb dX8_wantPerson_79 rfl (lv_at hl 3 rfl) ?_
      refine lv_iload_n hx hb dX8_wantPerson_80 rfl (lv_at hl 4 rfl) ?_
      refine lv_iload_n hx hb dX8_wantPerson_81 rfl (lv_at hl 2 rfl) ?_
      refine lv_iload_n hx hb dX8_wantPerson_82 rfl (lv_at hl 1 rfl) ?_
      refine lv_iload hx hb dX8_wantPerson_83 (lv_at hl 0 rfl) ?_
      obtain ⟨M19, hc18, hF⟩ := bi_e hF
      refine x_gov (x_runV cx hW hS (c_X8_adds (l := l) (G := G) hc18) cv_X8_87 kc_49 rfl (rest := []) ⟨Nat.le_of_ble_eq_true rfl, Nat.le_of_ble_eq_true rfl⟩ hl.1 rfl rfl (Nat.le_of_ble_eq_true rfl) ⟨Nat.zero_le _, Nat.zero_le _⟩ dX8_wantPerson_85) hS (fun H locs hW hS => ?_)
      exact x_vret cx hr hW hS (Option.some.inj hF) dX8_wantPerson_88
  · have hF := it_p c5 hF
    exact x_vret cx hr hW hS (Option.some.inj hF) dX8_wantPerson_27
def F_X8_wantPerson (a1 : Int32) (M : Mem) : Option Mem := ix 51 (2 : Int32) (fun j1 => (if (8 : Int32) ≤ (m_I M 50 j1) then F_X8_wantPerson_17 a1 (0 : Int32) M else F_X8_wantPerson_17 a1 (1 : Int32) M))
set_option maxHeartbeats 4000000 in
set_option maxRecDepth 100000 in
theorem c_X8_wantPerson {l : Launch} {G : GG} {a1 : Int32}  {M : Mem} {M1 : Mem} (hF : F_X8_wantPerson a1 M = some M1) : Met l yX8_wantPerson (wz yX8_wantPerson cX8_wantPerson 5 none) (RM 5 111) (PreC G [.ref (g_ad G 49), .int a1] M) (QcV G M1) 0 0 (g_A G) := by
  rw [F_X8_wantPerson] at hF
  refine x_start (by decide) (Nat.le_of_ble_eq_true rfl) (lv := [(0, .ref (g_ad G 49)), (1, .int a1)]) rfl ?_
  intro p e s m below meth c cx hr hW hS ls hl
  obtain ⟨hx, hb, hml, hown, hts, hKK, hSS, hlk⟩ := id cx
  refine lv_aload_n hx hb dX8_wantPerson_0 rfl (lv_at hl 0 rfl) ?_
  refine lv_aload_n hx hb dX8_wantPerson_1 rfl (lv_at hl 0 rfl) ?_
  refine x_get cx hW kc_49 fk_X8_7 (v := .ref (g_ad G 50)) rfl dX8_wantPerson_2 ?_
  refine lv_iconst (v := (2 : Int32)) hx hb dX8_wantPerson_5 (by decide) ?_
  obtain ⟨j1, hj1, gj1, hF⟩ := ix_e hF
  refine x_iald cx hW kc_50 (by decide) hj1 gj1 dX8_wantPerson_6 ?_
  refine lv_bipush (v := (8 : Int32)) hx hb dX8_wantPerson_7 (by decide) ?_
  refine lv_icmp_ge (tgt := 16) hx hb dX8_wantPerson_9 (by decide) (fun c2 => ?_) (fun c2 => ?_)
  · have hF := it_p c2 hF
    refine lv_iconst (v := (0 : Int32)) hx hb dX8_wantPerson_16 (by decide) ?_
    exact t_X8_wantPerson_17 cx hr (0 : Int32) M hF _ _ _ hW hS (lv_sub hl [0, 1] rfl)
  · have hF := it_n c2 hF
    refine lv_iconst (v := (1 : Int32)) hx hb dX8_wantPerson_12 (by decide) ?_
    refine lv_goto (tgt := 17) hx hb dX8_wantPerson_13 (by decide) ?_
    exact t_X8_wantPerson_17 cx hr (1 : Int32) M hF _ _ _ hW hS (lv_sub hl [0, 1] rfl)
def F_X8_wantSlip_41  (x1 : Int32) (t0 : Int32) (M : Mem) : Option Mem := zb t0 (pin (w_I M 49 15 t0) (fun M9 => (if (m_I M9 49 15) = 0 then some M9 else (F_X8_advance M9).bind (fun M12 => ix 51 (2 : Int32) (fun j13 => bn (F_X8_wantNumber (0 : Int32) ((m_I M12 50 j13) - (1 : Int32)) M12) (fun r15 M16 => (if (m_I M16 49 15) = 0 then some M16 else (F_X8_whoHas r15 M16).bind (fun r19 => (F_X8_swaps x1 r19 M16).bind (fun M21 => some M21)))))))))
set_option maxHeartbeats 4000000 in
set_option maxRecDepth 100000 in
theorem t_X8_wantSlip_41 {p : Program} {l : Launch} {e : Env} {s : State} {m : MethodId} {args : Array Value} {below : List Frame} {meth : Method} {c : Code} {G : GG}  (cx : Cx G cX8_wantSlip RX8 3 p s m args meth c) (hr : meth.sig.returnType = none)   {M1 : Mem} : ∀ (x1 : Int32) (t0 : Int32) (M : Mem), F_X8_wantSlip_41  x1 t0 M = some M1 → ∀ (H : Heap) (locs : List Loc) (ls : Array Slot), WH G M H → va_S (g_A G) s.heap H locs → lv_has ls 3 [(0, .ref (g_ad G 49)), (1, .int x1)] → W p l e (RM 4 86) s m args below meth c H locs 0 0 (MQ below (QcV G M1) args s 0 0 (g_A G)) (F0 m 41 ls [.int t0, .ref (g_ad G 49)]) := by
  obtain ⟨hx, hb, hml, hown, hts, hKK, hSS, hlk⟩ := id cx
  intro x1 t0 M hF H locs ls hW hS hl
  rw [F_X8_wantSlip_41] at hF
  obtain ⟨z8, hF⟩ := zb_e hF
  obtain ⟨M9, eM9, hF⟩ := pin_e hF
  refine x_putz cx hW hS kc_49 fk_X8_229 ft_6_15 z8 (Nat.le_of_ble_eq_true rfl) fs_6_15 eM9 dX8_wantSlip_41 (fun H locs hW hS => ?_)
  refine lv_aload_n hx hb dX8_wantSlip_44 rfl (lv_at hl 0 rfl) ?_
  refine x_get cx hW kc_49 fk_X8_229 (v := .int (m_I M9 49 15)) rfl dX8_wantSlip_45 ?_
  refine lv_if_ne (tgt := 52) hx hb dX8_wantSlip_48 (by decide) (fun c10 => ?_) (fun c10 => ?_)
  · have hF := it_n c10 hF
    refine lv_aload_n hx hb dX8_wantSlip_52 rfl (lv_at hl 0 rfl) ?_
    obtain ⟨M12, hc11, hF⟩ := bi_e hF
    refine x_gov (x_runV cx hW hS (c_X8_advance (l := l) (G := G) hc11) cv_X8_233 kc_49 rfl (rest := []) ⟨Nat.le_of_ble_eq_true rfl, Nat.le_of_ble_eq_true rfl⟩ hl.1 rfl rfl (Nat.le_of_ble_eq_true rfl) ⟨Nat.zero_le _, Nat.zero_le _⟩ dX8_wantSlip_53) hS (fun H locs hW hS => ?_)
    refine lv_aload_n hx hb dX8_wantSlip_56 rfl (lv_at hl 0 rfl) ?_
    refine lv_iconst (v := (0 : Int32)) hx hb dX8_wantSlip_57 (by decide) ?_
    refine lv_aload_n hx hb dX8_wantSlip_58 rfl (lv_at hl 0 rfl) ?_
    refine x_get cx hW kc_49 fk_X8_7 (v := .ref (g_ad G 50)) rfl dX8_wantSlip_59 ?_
    refine lv_iconst (v := (2 : Int32)) hx hb dX8_wantSlip_62 (by decide) ?_
    obtain ⟨j13, hj13, gj13, hF⟩ := ix_e hF
    refine x_iald cx hW kc_50 (by decide) hj13 gj13 dX8_wantSlip_63 ?_
    refine lv_iconst (v := (1 : Int32)) hx hb dX8_wantSlip_64 (by decide) ?_
    refine lv_isub hx hb dX8_wantSlip_65 ?_
    obtain ⟨r15, M16, hc14, hF⟩ := bn_e hF
    refine x_goi (x_runV cx hW hS (c_X8_wantNumber (l := l) (G := G) hc14) cv_X8_236 kc_49 rfl (rest := []) ⟨Nat.le_of_ble_eq_true rfl, Nat.le_of_ble_eq_true rfl⟩ hl.1 rfl rfl (Nat.le_of_ble_eq_true rfl) ⟨Nat.zero_le _, Nat.zero_le _⟩ dX8_wantSlip_66) hS (fun H locs hW hS => ?_)
    refine lv_istore_n (lv' := [(2, .int r15), (0, .ref (g_ad G 49)), (1, .int x1)]) hx hb dX8_wantSlip_69 rfl hl (by decide) rfl (fun ls hl => ?_)
    refine lv_aload_n hx hb dX8_wantSlip_70 rfl (lv_at hl 1 rfl) ?_
    refine x_get cx hW kc_49 fk_X8_229 (v := .int (m_I M16 49 15)) rfl dX8_wantSlip_71 ?_
    refine lv_if_eq (tgt := 87) hx hb dX8_wantSlip_74 (by decide) (fun c17 => ?_) (fun c17 => ?_)
    · have hF := it_p c17 hF
      exact x_vret cx hr hW hS (Option.some.inj hF) dX8_wantSlip_87
    · have hF := it_n c17 hF
      refine lv_aload_n hx hb dX8_wantSlip_77 rfl (lv_at hl 1 rfl) ?_
      refine lv_iload_n hx hb dX8_wantSlip_78 rfl (lv_at hl 2 rfl) ?_
      refine lv_aload_n hx hb dX8_wantSlip_79 rfl (lv_at hl 1 rfl) ?_
      refine lv_iload_n hx hb dX8_wantSlip_80 rfl (lv_at hl 0 rfl) ?_
      obtain ⟨r19, hc18, hF⟩ := bi_e hF
      refine x_goi (x_runV cx hW hS (c_X8_whoHas (l := l) (G := G) hc18) cv_X8_155 kc_49 rfl (rest := [.int x1, .ref (g_ad G 49)]) ⟨Nat.le_of_ble_eq_true rfl, Nat.le_of_ble_eq_true rfl⟩ hl.1 rfl rfl (Nat.le_of_ble_eq_true rfl) ⟨Nat.zero_le _, Nat.zero_le _⟩ dX8_wantSlip_81) hS (fun H locs hW hS => ?_)
      obtain ⟨M21, hc20, hF⟩ := bi_e hF
      refine x_gov (x_runV cx hW hS (c_X8_swaps (l := l) (G := G) hc20) cv_X8_107 kc_49 rfl (rest := []) ⟨Nat.le_of_ble_eq_true rfl, Nat.le_of_ble_eq_true rfl⟩ hl.1 rfl rfl (Nat.le_of_ble_eq_true rfl) ⟨Nat.zero_le _, Nat.zero_le _⟩ dX8_wantSlip_84) hS (fun H locs hW hS => ?_)
      exact x_vret cx hr hW hS (Option.some.inj hF) dX8_wantSlip_87
  · have hF := it_p c10 hF
    exact x_vret cx hr hW hS (Option.some.inj hF) dX8_wantSlip_51
def F_X8_wantSlip (M : Mem) : Option Mem := (F_X8_advance M).bind (fun M2 => ix 51 (2 : Int32) (fun j3 => bn (F_X8_wantNumber (0 : Int32) ((m_I M2 50 j3) - (1 : Int32)) M2) (fun r5 M6 => (if (m_I M6 49 15) = 0 then F_X8_wantSlip_41 r5 (0 : Int32) M6 else (F_X8_isWord (262 : Int64) M6).bind (fun r23 => (if r23 = 0 then F_X8_wantSlip_41 r5 (0 : Int32) M6 else F_X8_wantSlip_41 r5 (1 : Int32) M6))))))
set_option maxHeartbeats 4000000 in
set_option maxRecDepth 100000 in
theorem c_X8_wantSlip {l : Launch} {G : GG}   {M : Mem} {M1 : Mem} (hF : F_X8_wantSlip M = some M1) : Met l yX8_wantSlip (wz yX8_wantSlip cX8_wantSlip 3 none) (RM 4 86) (PreC G [.ref (g_ad G 49)] M) (QcV G M1) 0 0 (g_A G) := by
  rw [F_X8_wantSlip] at hF
  refine x_start (by decide) (Nat.le_of_ble_eq_true rfl) (lv := [(0, .ref (g_ad G 49))]) rfl ?_
  intro p e s m below meth c cx hr hW hS ls hl
  obtain ⟨hx, hb, hml, hown, hts, hKK, hSS, hlk⟩ := id cx
  refine lv_aload_n hx hb dX8_wantSlip_0 rfl (lv_at hl 0 rfl) ?_
  obtain ⟨M2, hc1, hF⟩ := bi_e hF
  refine x_gov (x_runV cx hW hS (c_X8_advance (l := l) (G := G) hc1) cv_X8_233 kc_49 rfl (rest := []) ⟨Nat.le_of_ble_eq_true rfl, Nat.le_of_ble_eq_true rfl⟩ hl.1 rfl rfl (Nat.le_of_ble_eq_true rfl) ⟨Nat.zero_le _, Nat.zero_le _⟩ dX8_wantSlip_1) hS (fun H locs hW hS => ?_)
  refine lv_aload_n hx hb dX8_wantSlip_4 rfl (lv_at hl 0 rfl) ?_
  refine lv_iconst (v := (0 : Int32)) hx hb dX8_wantSlip_5 (by decide) ?_
  refine lv_aload_n hx hb dX8_wantSlip_6 rfl (lv_at hl 0 rfl) ?_
  refine x_get cx hW kc_49 fk_X8_7 (v := .ref (g_ad G 50)) rfl dX8_wantSlip_7 ?_
  refine lv_iconst (v := (2 : Int32)) hx hb dX8_wantSlip_10 (by decide) ?_
  obtain ⟨j3, hj3, gj3, hF⟩ := ix_e hF
  refine x_iald cx hW kc_50 (by decide) hj3 gj3 dX8_wantSlip_11 ?_
  refine lv_iconst (v := (1 : Int32)) hx hb dX8_wantSlip_12 (by decide) ?_
  refine lv_isub hx hb dX8_wantSlip_13 ?_
  obtain ⟨r5, M6, hc4, hF⟩ := bn_e hF
  refine x_goi (x_runV cx hW hS (c_X8_wantNumber (l := l) (G := G) hc4) cv_X8_236 kc_49 rfl (rest := []) ⟨Nat.le_of_ble_eq_true rfl, Nat.le_of_ble_eq_true rfl⟩ hl.1 rfl rfl (Nat.le_of_ble_eq_true rfl) ⟨Nat.zero_le _, Nat.zero_le _⟩ dX8_wantSlip_14) hS (fun H locs hW hS => ?_)
  refine lv_istore_n (lv' := [(1, .int r5), (0, .ref (g_ad G 49))]) hx hb dX8_wantSlip_17 rfl hl (by decide) rfl (fun ls hl => ?_)
  refine lv_aload_n hx hb dX8_wantSlip_18 rfl (lv_at hl 1 rfl) ?_
  refine lv_aload_n hx hb dX8_wantSlip_19 rfl (lv_at hl 1 rfl) ?_
  refine x_get cx hW kc_49 fk_X8_229 (v := .int (m_I M6 49 15)) rfl dX8_wantSlip_20 ?_
  refine lv_if_eq (tgt := 40) hx hb dX8_wantSlip_23 (by decide) (fun c7 => ?_) (fun c7 => ?_)
  · have hF := it_p c7 hF
    refine lv_iconst (v := (0 : Int32)) hx hb dX8_wantSlip_40 (by decide) ?_
    exact t_X8_wantSlip_41 cx hr r5 (0 : Int32) M6 hF _ _ _ hW hS (lv_sub hl [1, 0] rfl)
  · have hF := it_n c7 hF
    refine lv_aload_n hx hb dX8_wantSlip_26 rfl (lv_at hl 1 rfl) ?_
    refine x_ldc2 cx q_l_X8_249 dX8_wantSlip_27 ?_
    obtain ⟨r23, hc22, hF⟩ := bi_e hF
    refine x_goi (x_runV cx hW hS (c_X8_isWord (l := l) (G := G) hc22) cv_X8_215 kc_49 rfl (rest := [.ref (g_ad G 49)]) ⟨Nat.le_of_ble_eq_true rfl, Nat.le_of_ble_eq_true rfl⟩ hl.1 rfl rfl (Nat.le_of_ble_eq_true rfl) ⟨Nat.zero_le _, Nat.zero_le _⟩ dX8_wantSlip_30) hS (fun H locs hW hS => ?_)
    refine lv_if_eq (tgt := 40) hx hb dX8_wantSlip_33 (by decide) (fun c24 => ?_) (fun c24 => ?_)
    · have hF := it_p c24 hF
      refine lv_iconst (v := (0 : Int32)) hx hb dX8_wantSlip_40 (by decide) ?_
      exact t_X8_wantSlip_41 cx hr r5 (0 : Int32) M6 hF _ _ _ hW hS (lv_sub hl [1, 0] rfl)
    · have hF := it_n c24 hF
      refine lv_iconst (v := (1 : Int32)) hx hb dX8_wantSlip_36 (by decide) ?_
      refine lv_goto (tgt := 41) hx hb dX8_wantSlip_37 (by decide) ?_
      exact t_X8_wantSlip_41 cx hr r5 (1 : Int32) M6 hF _ _ _ hW hS (lv_sub hl [1, 0] rfl)
def F_X8_wantItem (M : Mem) : Option Mem := (F_X8_kindHere M).bind (fun r2 => (if r2 < 0 then (F_X8_isWord (382984 : Int64) M).bind (fun r5 => (if r5 = 0 then pin (w_I M 49 15 (0 : Int32)) (fun M7 => some M7) else (F_X8_wantSlip M).bind (fun M9 => some M9))) else (F_X8_kindHere M).bind (fun r11 => (F_X8_wantPerson r11 M).bind (fun M13 => some M13))))
set_option maxHeartbeats 4000000 in
set_option maxRecDepth 100000 in
theorem c_X8_wantItem {l : Launch} {G : GG}   {M : Mem} {M1 : Mem} (hF : F_X8_wantItem M = some M1) : Met l yX8_wantItem (wz yX8_wantItem cX8_wantItem 1 none) (RM 6 135) (PreC G [.ref (g_ad G 49)] M) (QcV G M1) 0 0 (g_A G) := by
  rw [F_X8_wantItem] at hF
  refine x_start (by decide) (Nat.le_of_ble_eq_true rfl) (lv := [(0, .ref (g_ad G 49))]) rfl ?_
  intro p e s m below meth c cx hr hW hS ls hl
  obtain ⟨hx, hb, hml, hown, hts, hKK, hSS, hlk⟩ := id cx
  refine lv_aload_n hx hb dX8_wantItem_0 rfl (lv_at hl 0 rfl) ?_
  obtain ⟨r2, hc1, hF⟩ := bi_e hF
  refine x_goi (x_runV cx hW hS (c_X8_kindHere (l := l) (G := G) hc1) cv_X8_251 kc_49 rfl (rest := []) ⟨Nat.le_of_ble_eq_true rfl, Nat.le_of_ble_eq_true rfl⟩ hl.1 rfl rfl (Nat.le_of_ble_eq_true rfl) ⟨Nat.zero_le _, Nat.zero_le _⟩ dX8_wantItem_1) hS (fun H locs hW hS => ?_)
  refine lv_if_lt (tgt := 18) hx hb dX8_wantItem_4 (by decide) (fun c3 => ?_) (fun c3 => ?_)
  · have hF := it_p c3 hF
    refine lv_aload_n hx hb dX8_wantItem_18 rfl (lv_at hl 0 rfl) ?_
    refine x_ldc2 cx q_l_X8_258 dX8_wantItem_19 ?_
    obtain ⟨r5, hc4, hF⟩ := bi_e hF
    refine x_goi (x_runV cx hW hS (c_X8_isWord (l := l) (G := G) hc4) cv_X8_215 kc_49 rfl (rest := []) ⟨Nat.le_of_ble_eq_true rfl, Nat.le_of_ble_eq_true rfl⟩ hl.1 rfl rfl (Nat.le_of_ble_eq_true rfl) ⟨Nat.zero_le _, Nat.zero_le _⟩ dX8_wantItem_22) hS (fun H locs hW hS => ?_)
    refine lv_if_eq (tgt := 35) hx hb dX8_wantItem_25 (by decide) (fun c6 => ?_) (fun c6 => ?_)
    · have hF := it_p c6 hF
      refine lv_aload_n hx hb dX8_wantItem_35 rfl (lv_at hl 0 rfl) ?_
      refine lv_iconst (v := (0 : Int32)) hx hb dX8_wantItem_36 (by decide) ?_
      obtain ⟨M7, eM7, hF⟩ := pin_e hF
      refine x_putz cx hW hS kc_49 fk_X8_229 ft_6_15 (by decide) (Nat.le_of_ble_eq_true rfl) fs_6_15 eM7 dX8_wantItem_37 (fun H locs hW hS => ?_)
      exact x_vret cx hr hW hS (Option.some.inj hF) dX8_wantItem_40
    · have hF := it_n c6 hF
      refine lv_aload_n hx hb dX8_wantItem_28 rfl (lv_at hl 0 rfl) ?_
      obtain ⟨M9, hc8, hF⟩ := bi_e hF
      refine x_gov (x_runV cx hW hS (c_X8_wantSlip (l := l) (G := G) hc8) cv_X8_260 kc_49 rfl (rest := []) ⟨Nat.le_of_ble_eq_true rfl, Nat.le_of_ble_eq_true rfl⟩ hl.1 rfl rfl (Nat.le_of_ble_eq_true rfl) ⟨Nat.zero_le _, Nat.zero_le _⟩ dX8_wantItem_29) hS (fun H locs hW hS => ?_)
      refine lv_goto (tgt := 40) hx hb dX8_wantItem_32 (by decide) ?_
      exact x_vret cx hr hW hS (Option.some.inj hF) dX8_wantItem_40
  · have hF := it_n c3 hF
    refine lv_aload_n hx hb dX8_wantItem_7 rfl (lv_at hl 0 rfl) ?_
    refine lv_aload_n hx hb dX8_wantItem_8 rfl (lv_at hl 0 rfl) ?_
    obtain ⟨r11, hc10, hF⟩ := bi_e hF
    refine x_goi (x_runV cx hW hS (c_X8_kindHere (l := l) (G := G) hc10) cv_X8_251 kc_49 rfl (rest := [.ref (g_ad G 49)]) ⟨Nat.le_of_ble_eq_true rfl, Nat.le_of_ble_eq_true rfl⟩ hl.1 rfl rfl (Nat.le_of_ble_eq_true rfl) ⟨Nat.zero_le _, Nat.zero_le _⟩ dX8_wantItem_9) hS (fun H locs hW hS => ?_)
    obtain ⟨M13, hc12, hF⟩ := bi_e hF
    refine x_gov (x_runV cx hW hS (c_X8_wantPerson (l := l) (G := G) hc12) cv_X8_254 kc_49 rfl (rest := []) ⟨Nat.le_of_ble_eq_true rfl, Nat.le_of_ble_eq_true rfl⟩ hl.1 rfl rfl (Nat.le_of_ble_eq_true rfl) ⟨Nat.zero_le _, Nat.zero_le _⟩ dX8_wantItem_12) hS (fun H locs hW hS => ?_)
    refine lv_goto (tgt := 40) hx hb dX8_wantItem_15 (by decide) ?_
    exact x_vret cx hr hW hS (Option.some.inj hF) dX8_wantItem_40
def F_X8_village_91  (x1 : Int32) (t0 : Int32) (M : Mem) : Option (Int32 × Mem) := zb t0 (pin (w_I M 49 15 t0) (fun M8 => pin (w_I M8 49 9 (0 : Int32)) (fun M9 => (if (m_I M9 49 15) = 0 then (F_X8_moveAll (0 : Int32) 64 M9).bind (fun M12 => some (((-1 : Int32) - (m_I M12 49 11)), M12)) else some (x1, M9)))))
set_option maxHeartbeats 4000000 in
set_option maxRecDepth 100000 in
theorem t_X8_village_91 {p : Program} {l : Launch} {e : Env} {s : State} {m : MethodId} {args : Array Value} {below : List Frame} {meth : Method} {c : Code} {G : GG}  (cx : Cx G cX8_village RX8 3 p s m args meth c) (hr : meth.sig.returnType = (some .int))   {r : Int32} {M1 : Mem} : ∀ (x1 : Int32) (t0 : Int32) (M : Mem), F_X8_village_91  x1 t0 M = some (r, M1) → ∀ (H : Heap) (locs : List Loc) (ls : Array Slot), WH G M H → va_S (g_A G) s.heap H locs → lv_has ls 3 [(0, .ref (g_ad G 49)), (1, .int x1)] → W p l e (RM 7 155) s m args below meth c H locs 0 0 (MQ below (QcI G r M1) args s 0 0 (g_A G)) (F0 m 91 ls [.int t0, .ref (g_ad G 49)]) := by
  obtain ⟨hx, hb, hml, hown, hts, hKK, hSS, hlk⟩ := id cx
  intro x1 t0 M hF H locs ls hW hS hl
  rw [F_X8_village_91] at hF
  obtain ⟨z7, hF⟩ := zb_e hF
  obtain ⟨M8, eM8, hF⟩ := pin_e hF
  refine x_putz cx hW hS kc_49 fk_X8_229 ft_6_15 z7 (Nat.le_of_ble_eq_true rfl) fs_6_15 eM8 dX8_village_91 (fun H locs hW hS => ?_)
  refine lv_aload_n hx hb dX8_village_94 rfl (lv_at hl 0 rfl) ?_
  refine lv_iconst (v := (0 : Int32)) hx hb dX8_village_95 (by decide) ?_
  obtain ⟨M9, eM9, hF⟩ := pin_e hF
  refine x_puti cx hW hS kc_49 fk_X8_178 ft_6_9 (Nat.le_of_ble_eq_true rfl) fs_6_9 eM9 dX8_village_96 (fun H locs hW hS => ?_)
  refine lv_aload_n hx hb dX8_village_99 rfl (lv_at hl 0 rfl) ?_
  refine x_get cx hW kc_49 fk_X8_229 (v := .int (m_I M9 49 15)) rfl dX8_village_100 ?_
  refine lv_if_ne (tgt := 122) hx hb dX8_village_103 (by decide) (fun c10 => ?_) (fun c10 => ?_)
  · have hF := it_n c10 hF
    refine lv_iload_n hx hb dX8_village_122 rfl (lv_at hl 1 rfl) ?_
    exact x_iret cx hr hW hS (sp_1 hF) (sp_2 hF) dX8_village_123
  · have hF := it_p c10 hF
    refine lv_aload_n hx hb dX8_village_106 rfl (lv_at hl 0 rfl) ?_
    refine lv_iconst (v := (0 : Int32)) hx hb dX8_village_107 (by decide) ?_
    refine lv_aload_n hx hb dX8_village_108 rfl (lv_at hl 0 rfl) ?_
    refine x_get cx hW kc_49 fk_X8_53 (v := .ref (g_ad G 64)) rfl dX8_village_109 ?_
    obtain ⟨M12, hc11, hF⟩ := bi_e hF
    refine x_gov (x_runV cx hW hS (c_X8_moveAll (l := l) (G := G) kc_64 hc11) cv_X8_161 kc_49 rfl (rest := []) ⟨Nat.le_of_ble_eq_true rfl, Nat.le_of_ble_eq_true rfl⟩ hl.1 rfl rfl (Nat.le_of_ble_eq_true rfl) ⟨Nat.zero_le _, Nat.zero_le _⟩ dX8_village_112) hS (fun H locs hW hS => ?_)
    refine lv_iconst (v := (-1 : Int32)) hx hb dX8_village_115 (by decide) ?_
    refine lv_aload_n hx hb dX8_village_116 rfl (lv_at hl 0 rfl) ?_
    refine x_get cx hW kc_49 fk_X8_185 (v := .int (m_I M12 49 11)) rfl dX8_village_117 ?_
    refine lv_isub hx hb dX8_village_120 ?_
    exact x_iret cx hr hW hS (sp_1 hF) (sp_2 hF) dX8_village_121
def F_X8_village_23  : Nat → Int32 → Int32 → Mem → Option (Int32 × Mem)
  | 0, _, _, _ => none
  | n + 1, x1, x2, M => (if x2 = 0 then (if (m_I M 49 15) = 0 then F_X8_village_91 x1 (0 : Int32) M else (if (m_I M 49 10) = 0 then F_X8_village_91 x1 (1 : Int32) M else F_X8_village_91 x1 (0 : Int32) M)) else (F_X8_advance M).bind (fun M15 => (F_X8_wantItem M15).bind (fun M17 => (if (m_I M17 49 15) = 0 then F_X8_village_23 n (x1 + 1) (0 : Int32) M17 else (if (m_I M17 49 10) = (3 : Int32) then (if (m_I M17 49 14) = (59 : Int32) then F_X8_village_23 n (x1 + 1) (1 : Int32) M17 else F_X8_village_23 n (x1 + 1) (0 : Int32) M17) else F_X8_village_23 n (x1 + 1) (0 : Int32) M17)))))
set_option maxHeartbeats 4000000 in
set_option maxRecDepth 100000 in
theorem t_X8_village_23 {p : Program} {l : Launch} {e : Env} {s : State} {m : MethodId} {args : Array Value} {below : List Frame} {meth : Method} {c : Code} {G : GG}  (cx : Cx G cX8_village RX8 3 p s m args meth c) (hr : meth.sig.returnType = (some .int))   {r : Int32} {M1 : Mem} : ∀ (n : Nat) (x1 : Int32) (x2 : Int32) (M : Mem), F_X8_village_23  n x1 x2 M = some (r, M1) → ∀ (H : Heap) (locs : List Loc) (ls : Array Slot), WH G M H → va_S (g_A G) s.heap H locs → lv_has ls 3 [(0, .ref (g_ad G 49)), (1, .int x1), (2, .int x2)] → W p l e (RM 7 155) s m args below meth c H locs 0 0 (MQ below (QcI G r M1) args s 0 0 (g_A G)) (F0 m 23 ls []) := by
  obtain ⟨hx, hb, hml, hown, hts, hKK, hSS, hlk⟩ := id cx
  intro n
  induction n with
  | zero =>
    intro x1 x2 M hF H locs ls hW hS hl
    rw [F_X8_village_23] at hF
    cases hF
  | succ n ih =>
    intro x1 x2 M hF H locs ls hW hS hl
    rw [F_X8_village_23] at hF
    refine lv_iload_n hx hb dX8_village_23 rfl (lv_at hl 2 rfl) ?_
    refine lv_if_eq (tgt := 71) hx hb dX8_village_24 (by decide) (fun c5 => ?_) (fun c5 => ?_)
    · have hF := it_p c5 hF
      refine lv_aload_n hx hb dX8_village_71 rfl (lv_at hl 0 rfl) ?_
      refine lv_aload_n hx hb dX8_village_72 rfl (lv_at hl 0 rfl) ?_
      refine x_get cx hW kc_49 fk_X8_229 (v := .int (m_I M 49 15)) rfl dX8_village_73 ?_
      refine lv_if_eq (tgt := 90) hx hb dX8_village_76 (by decide) (fun c6 => ?_) (fun c6 => ?_)
      · have hF := it_p c6 hF
        refine lv_iconst (v := (0 : Int32)) hx hb dX8_village_90 (by decide) ?_
        exact t_X8_village_91 cx hr x1 (0 : Int32) M hF _ _ _ hW hS (lv_sub hl [0, 1] rfl)
      · have hF := it_n c6 hF
        refine lv_aload_n hx hb dX8_village_79 rfl (lv_at hl 0 rfl) ?_
        refine x_get cx hW kc_49 fk_X8_197 (v := .int (m_I M 49 10)) rfl dX8_village_80 ?_
        refine lv_if_ne (tgt := 90) hx hb dX8_village_83 (by decide) (fun c13 => ?_) (fun c13 => ?_)
        · have hF := it_n c13 hF
          refine lv_iconst (v := (0 : Int32)) hx hb dX8_village_90 (by decide) ?_
          exact t_X8_village_91 cx hr x1 (0 : Int32) M hF _ _ _ hW hS (lv_sub hl [0, 1] rfl)
        · have hF := it_p c13 hF
          refine lv_iconst (v := (1 : Int32)) hx hb dX8_village_86 (by decide) ?_
          refine lv_goto (tgt := 91) hx hb dX8_village_87 (by decide) ?_
          exact t_X8_village_91 cx hr x1 (1 : Int32) M hF _ _ _ hW hS (lv_sub hl [0, 1] rfl)
    · have hF := it_n c5 hF
      refine lv_aload_n hx hb dX8_village_27 rfl (lv_at hl 0 rfl) ?_
      obtain ⟨M15, hc14, hF⟩ := bi_e hF
      refine x_gov (x_runV cx hW hS (c_X8_advance (l := l) (G := G) hc14) cv_X8_233 kc_49 rfl (rest := []) ⟨Nat.le_of_ble_eq_true rfl, Nat.le_of_ble_eq_true rfl⟩ hl.1 rfl rfl (Nat.le_of_ble_eq_true rfl) ⟨Nat.zero_le _, Nat.zero_le _⟩ dX8_village_28) hS (fun H locs hW hS => ?_)
      refine lv_aload_n hx hb dX8_village_31 rfl (lv_at hl 0 rfl) ?_
      obtain ⟨M17, hc16, hF⟩ := bi_e hF
      refine x_gov (x_runV cx hW hS (c_X8_wantItem (l := l) (G := G) hc16) cv_X8_263 kc_49 rfl (rest := []) ⟨Nat.le_of_ble_eq_true rfl, Nat.le_of_ble_eq_true rfl⟩ hl.1 rfl rfl (Nat.le_of_ble_eq_true rfl) ⟨Nat.zero_le _, Nat.zero_le _⟩ dX8_village_32) hS (fun H locs hW hS => ?_)
      refine lv_iinc (v := (x1 + 1)) (lv' := [(1, .int (x1 + 1)), (0, .ref (g_ad G 49)), (2, .int x2)]) hx hb dX8_village_35 hl (k := 1) rfl rfl (by decide) rfl (fun ls hl => ?_)
      refine lv_aload_n hx hb dX8_village_38 rfl (lv_at hl 1 rfl) ?_
      refine x_get cx hW kc_49 fk_X8_229 (v := .int (m_I M17 49 15)) rfl dX8_village_39 ?_
      refine lv_if_eq (tgt := 66) hx hb dX8_village_42 (by decide) (fun c18 => ?_) (fun c18 => ?_)
      · have hF := it_p c18 hF
        refine lv_iconst (v := (0 : Int32)) hx hb dX8_village_66 (by decide) ?_
        refine lv_istore_n (lv' := [(2, .int (0 : Int32)), (1, .int (x1 + 1)), (0, .ref (g_ad G 49))]) hx hb dX8_village_67 rfl hl (by decide) rfl (fun ls hl => ?_)
        refine lv_goto (tgt := 23) hx hb dX8_village_68 (by decide) ?_
        exact ih (x1 + 1) (0 : Int32) M17 hF _ _ _ hW hS (lv_sub hl [2, 1, 0] rfl)
      · have hF := it_n c18 hF
        refine lv_aload_n hx hb dX8_village_45 rfl (lv_at hl 1 rfl) ?_
        refine x_get cx hW kc_49 fk_X8_197 (v := .int (m_I M17 49 10)) rfl dX8_village_46 ?_
        refine lv_iconst (v := (3 : Int32)) hx hb dX8_village_49 (by decide) ?_
        refine lv_icmp_ne (tgt := 66) hx hb dX8_village_50 (by decide) (fun c19 => ?_) (fun c19 => ?_)
        · have hF := it_n c19 hF
          refine lv_iconst (v := (0 : Int32)) hx hb dX8_village_66 (by decide) ?_
          refine lv_istore_n (lv' := [(2, .int (0 : Int32)), (1, .int (x1 + 1)), (0, .ref (g_ad G 49))]) hx hb dX8_village_67 rfl hl (by decide) rfl (fun ls hl => ?_)
          refine lv_goto (tgt := 23) hx hb dX8_village_68 (by decide) ?_
          exact ih (x1 + 1) (0 : Int32) M17 hF _ _ _ hW hS (lv_sub hl [2, 1, 0] rfl)
        · have hF := it_p c19 hF
          refine lv_aload_n hx hb dX8_village_53 rfl (lv_at hl 1 rfl) ?_
          refine x_get cx hW kc_49 fk_X8_204 (v := .int (m_I M17 49 14)) rfl dX8_village_54 ?_
          refine lv_bipush (v := (59 : Int32)) hx hb dX8_village_57 (by decide) ?_
          refine lv_icmp_ne (tgt := 66) hx hb dX8_village_59 (by decide) (fun c20 => ?_) (fun c20 => ?_)
          · have hF := it_n c20 hF
            refine lv_iconst (v := (0 : Int32)) hx hb dX8_village_66 (by decide) ?_
            refine lv_istore_n (lv' := [(2, .int (0 : Int32)), (1, .int (x1 + 1)), (0, .ref (g_ad G 49))]) hx hb dX8_village_67 rfl hl (by decide) rfl (fun ls hl => ?_)
            refine lv_goto (tgt := 23) hx hb dX8_village_68 (by decide) ?_
            exact ih (x1 + 1) (0 : Int32) M17 hF _ _ _ hW hS (lv_sub hl [2, 1, 0] rfl)
          · have hF := it_p c20 hF
            refine lv_iconst (v := (1 : Int32)) hx hb dX8_village_62 (by decide) ?_
            refine lv_goto (tgt := 67) hx hb dX8_village_63 (by decide) ?_
            refine lv_istore_n (lv' := [(2, .int (1 : Int32)), (1, .int (x1 + 1)), (0, .ref (g_ad G 49))]) hx hb dX8_village_67 rfl hl (by decide) rfl (fun ls hl => ?_)
            refine lv_goto (tgt := 23) hx hb dX8_village_68 (by decide) ?_
            exact ih (x1 + 1) (1 : Int32) M17 hF _ _ _ hW hS (lv_sub hl [2, 1, 0] rfl)
def F_X8_village (M : Mem) : Option (Int32 × Mem) := (F_X8_moveAll (1 : Int32) 64 M).bind (fun M2 => pin (w_I M2 49 12 (0 : Int32)) (fun M3 => pin (w_I M3 49 15 (1 : Int32)) (fun M4 => F_X8_village_23 FU (0 : Int32) (1 : Int32) M4)))
set_option maxHeartbeats 4000000 in
set_option maxRecDepth 100000 in
theorem c_X8_village {l : Launch} {G : GG}   {M : Mem} {r : Int32} {M1 : Mem} (hF : F_X8_village M = some (r, M1)) : Met l yX8_village (wz yX8_village cX8_village 3 (some .int)) (RM 7 155) (PreC G [.ref (g_ad G 49)] M) (QcI G r M1) 0 0 (g_A G) := by
  rw [F_X8_village] at hF
  refine x_start (by decide) (Nat.le_of_ble_eq_true rfl) (lv := [(0, .ref (g_ad G 49))]) rfl ?_
  intro p e s m below meth c cx hr hW hS ls hl
  obtain ⟨hx, hb, hml, hown, hts, hKK, hSS, hlk⟩ := id cx
  refine lv_aload_n hx hb dX8_village_0 rfl (lv_at hl 0 rfl) ?_
  refine lv_iconst (v := (1 : Int32)) hx hb dX8_village_1 (by decide) ?_
  refine lv_aload_n hx hb dX8_village_2 rfl (lv_at hl 0 rfl) ?_
  refine x_get cx hW kc_49 fk_X8_53 (v := .ref (g_ad G 64)) rfl dX8_village_3 ?_
  obtain ⟨M2, hc1, hF⟩ := bi_e hF
  refine x_gov (x_runV cx hW hS (c_X8_moveAll (l := l) (G := G) kc_64 hc1) cv_X8_161 kc_49 rfl (rest := []) ⟨Nat.le_of_ble_eq_true rfl, Nat.le_of_ble_eq_true rfl⟩ hl.1 rfl rfl (Nat.le_of_ble_eq_true rfl) ⟨Nat.zero_le _, Nat.zero_le _⟩ dX8_village_6) hS (fun H locs hW hS => ?_)
  refine lv_aload_n hx hb dX8_village_9 rfl (lv_at hl 0 rfl) ?_
  refine lv_iconst (v := (0 : Int32)) hx hb dX8_village_10 (by decide) ?_
  obtain ⟨M3, eM3, hF⟩ := pin_e hF
  refine x_puti cx hW hS kc_49 fk_X8_182 ft_6_12 (Nat.le_of_ble_eq_true rfl) fs_6_12 eM3 dX8_village_11 (fun H locs hW hS => ?_)
  refine lv_aload_n hx hb dX8_village_14 rfl (lv_at hl 0 rfl) ?_
  refine lv_iconst (v := (1 : Int32)) hx hb dX8_village_15 (by decide) ?_
  obtain ⟨M4, eM4, hF⟩ := pin_e hF
  refine x_putz cx hW hS kc_49 fk_X8_229 ft_6_15 (by decide) (Nat.le_of_ble_eq_true rfl) fs_6_15 eM4 dX8_village_16 (fun H locs hW hS => ?_)
  refine lv_iconst (v := (0 : Int32)) hx hb dX8_village_19 (by decide) ?_
  refine lv_istore_n (lv' := [(1, .int (0 : Int32)), (0, .ref (g_ad G 49))]) hx hb dX8_village_20 rfl hl (by decide) rfl (fun ls hl => ?_)
  refine lv_iconst (v := (1 : Int32)) hx hb dX8_village_21 (by decide) ?_
  refine lv_istore_n (lv' := [(2, .int (1 : Int32)), (1, .int (0 : Int32)), (0, .ref (g_ad G 49))]) hx hb dX8_village_22 rfl hl (by decide) rfl (fun ls hl => ?_)
  exact t_X8_village_23 cx hr FU (0 : Int32) (1 : Int32) M4 hF _ _ _ hW hS (lv_sub hl [2, 1, 0] rfl)
def F_X8_isSheet (a0 : Int32) (M : Mem) : Option Int32 := (F_X8_in a0 (0 : Int32) (3 : Int32) M).bind (fun r2 => zb r2 (some r2))
set_option maxHeartbeats 4000000 in
set_option maxRecDepth 100000 in
theorem c_X8_isSheet {l : Launch} {G : GG} {a0 : Int32}  {M : Mem} {r : Int32} (hF : F_X8_isSheet a0 M = some r) : Met l yX8_isSheet (wz yX8_isSheet cX8_isSheet 1 (some .boolean)) (RM 1 22) (PreC G [.int a0] M) (QcI G r M) 0 0 (g_A G) := by
  rw [F_X8_isSheet] at hF
  refine x_start (by decide) (Nat.le_of_ble_eq_true rfl) (lv := [(0, .int a0)]) rfl ?_
  intro p e s m below meth c cx hr hW hS ls hl
  obtain ⟨hx, hb, hml, hown, hts, hKK, hSS, hlk⟩ := id cx
  refine lv_iload_n hx hb dX8_isSheet_0 rfl (lv_at hl 0 rfl) ?_
  refine lv_iconst (v := (0 : Int32)) hx hb dX8_isSheet_1 (by decide) ?_
  refine lv_iconst (v := (3 : Int32)) hx hb dX8_isSheet_2 (by decide) ?_
  obtain ⟨r2, hc1, hF⟩ := bi_e hF
  refine x_goi (x_runS cx hW hS (c_X8_in (l := l) (G := G) hc1) cs_X8_57 (rest := []) ⟨Nat.le_of_ble_eq_true rfl, Nat.le_of_ble_eq_true rfl⟩ hl.1 rfl rfl (Nat.le_of_ble_eq_true rfl) ⟨Nat.zero_le _, Nat.zero_le _⟩ dX8_isSheet_3) hS (fun H locs hW hS => ?_)
  obtain ⟨z3, hF⟩ := zb_e hF
  exact x_zret cx hr (nz_b z3) hW hS (Option.some.inj hF) rfl dX8_isSheet_6
def F_X8_narrow (a0 : Int32) (a1 : Int64) (M : Mem) : Option Int64 := (if a0 = (8 : Int32) then some ((a1 <<< ((56 : Int32).toInt64 &&& 63)) >>> ((56 : Int32).toInt64 &&& 63)) else (if a0 = (16 : Int32) then some ((a1 <<< ((48 : Int32).toInt64 &&& 63)) >>> ((48 : Int32).toInt64 &&& 63)) else some a1))
set_option maxHeartbeats 4000000 in
set_option maxRecDepth 100000 in
theorem c_X8_narrow {l : Launch} {G : GG} {a0 : Int32} {a1 : Int64}  {M : Mem} {r : Int64} (hF : F_X8_narrow a0 a1 M = some r) : Met l yX8_narrow (wz yX8_narrow cX8_narrow 3 (some .long)) (RM 0 0) (PreC G [.int a0, .long a1] M) (QcL G r M) 0 0 (g_A G) := by
  rw [F_X8_narrow] at hF
  refine x_start (by decide) (Nat.le_of_ble_eq_true rfl) (lv := [(0, .int a0), (1, .long a1)]) rfl ?_
  intro p e s m below meth c cx hr hW hS ls hl
  obtain ⟨hx, hb, hml, hown, hts, hKK, hSS, hlk⟩ := id cx
  refine lv_iload_n hx hb dX8_narrow_0 rfl (lv_at hl 0 rfl) ?_
  refine lv_bipush (v := (8 : Int32)) hx hb dX8_narrow_1 (by decide) ?_
  refine lv_icmp_ne (tgt := 16) hx hb dX8_narrow_3 (by decide) (fun c1 => ?_) (fun c1 => ?_)
  · have hF := it_n c1 hF
    refine lv_iload_n hx hb dX8_narrow_16 rfl (lv_at hl 0 rfl) ?_
    refine lv_bipush (v := (16 : Int32)) hx hb dX8_narrow_17 (by decide) ?_
    refine lv_icmp_ne (tgt := 32) hx hb dX8_narrow_19 (by decide) (fun c2 => ?_) (fun c2 => ?_)
    · have hF := it_n c2 hF
      refine lv_lload_n hx hb dX8_narrow_32 rfl (lv_at hl 1 rfl) ?_
      exact x_lret cx hr hW hS (Option.some.inj hF) rfl dX8_narrow_33
    · have hF := it_p c2 hF
      refine lv_lload_n hx hb dX8_narrow_22 rfl (lv_at hl 1 rfl) ?_
      refine lv_bipush (v := (48 : Int32)) hx hb dX8_narrow_23 (by decide) ?_
      refine lv_lshl hx hb dX8_narrow_25 rfl ?_
      refine lv_bipush (v := (48 : Int32)) hx hb dX8_narrow_26 (by decide) ?_
      refine lv_lshr hx hb dX8_narrow_28 rfl ?_
      refine lv_goto (tgt := 33) hx hb dX8_narrow_29 (by decide) ?_
      exact x_lret cx hr hW hS (Option.some.inj hF) rfl dX8_narrow_33
  · have hF := it_p c1 hF
    refine lv_lload_n hx hb dX8_narrow_6 rfl (lv_at hl 1 rfl) ?_
    refine lv_bipush (v := (56 : Int32)) hx hb dX8_narrow_7 (by decide) ?_
    refine lv_lshl hx hb dX8_narrow_9 rfl ?_
    refine lv_bipush (v := (56 : Int32)) hx hb dX8_narrow_10 (by decide) ?_
    refine lv_lshr hx hb dX8_narrow_12 rfl ?_
    refine lv_goto (tgt := 33) hx hb dX8_narrow_13 (by decide) ?_
    exact x_lret cx hr hW hS (Option.some.inj hF) rfl dX8_narrow_33
def F_X8_sheet_86 (a1 : Int32) (a2 : Int32) (a3 : Int32) : Nat → Int32 → Mem → Option (Int32 × Mem)
  | 0, _, _ => none
  | n + 1, x4, M => (if (40 : Int32) ≤ x4 then ix 4 a1 (fun j16 => some ((m_I M 60 j16), M)) else ix 160 (((40 : Int32) * a1) + x4) (fun j17 => pin (w_J M 61 j17 (0 : Int64)) (fun M18 => F_X8_sheet_86 a1 a2 a3 n (x4 + 1) M18)))
set_option maxHeartbeats 4000000 in
set_option maxRecDepth 100000 in
theorem t_X8_sheet_86 {p : Program} {l : Launch} {e : Env} {s : State} {m : MethodId} {args : Array Value} {below : List Frame} {meth : Method} {c : Code} {G : GG} {a1 : Int32} {a2 : Int32} {a3 : Int32} (cx : Cx G cX8_sheet RX8 5 p s m args meth c) (hr : meth.sig.returnType = (some .int))   {r : Int32} {M1 : Mem} : ∀ (n : Nat) (x4 : Int32) (M : Mem), F_X8_sheet_86 a1 a2 a3 n x4 M = some (r, M1) → ∀ (H : Heap) (locs : List Loc) (ls : Array Slot), WH G M H → va_S (g_A G) s.heap H locs → lv_has ls 5 [(0, .ref (g_ad G 49)), (1, .int a1), (4, .int x4)] → W p l e (RM 2 42) s m args below meth c H locs 0 0 (MQ below (QcI G r M1) args s 0 0 (g_A G)) (F0 m 86 ls []) := by
  obtain ⟨hx, hb, hml, hown, hts, hKK, hSS, hlk⟩ := id cx
  intro n
  induction n with
  | zero =>
    intro x4 M hF H locs ls hW hS hl
    rw [F_X8_sheet_86] at hF
    cases hF
  | succ n ih =>
    intro x4 M hF H locs ls hW hS hl
    rw [F_X8_sheet_86] at hF
    refine lv_iload hx hb dX8_sheet_86 (lv_at hl 2 rfl) ?_
    refine lv_bipush (v := (40 : Int32)) hx hb dX8_sheet_88 (by decide) ?_
    refine lv_icmp_ge (tgt := 112) hx hb dX8_sheet_90 (by decide) (fun c15 => ?_) (fun c15 => ?_)
    · have hF := it_p c15 hF
      refine lv_aload_n hx hb dX8_sheet_112 rfl (lv_at hl 0 rfl) ?_
      refine x_get cx hW kc_49 fk_X8_40 (v := .ref (g_ad G 60)) rfl dX8_sheet_113 ?_
      refine lv_iload_n hx hb dX8_sheet_116 rfl (lv_at hl 1 rfl) ?_
      obtain ⟨j16, hj16, gj16, hF⟩ := ix_e hF
      refine x_iald cx hW kc_60 (by decide) hj16 gj16 dX8_sheet_117 ?_
      exact x_iret cx hr hW hS (sp_1 hF) (sp_2 hF) dX8_sheet_118
    · have hF := it_n c15 hF
      refine lv_aload_n hx hb dX8_sheet_93 rfl (lv_at hl 0 rfl) ?_
      refine x_get cx hW kc_49 fk_X8_43 (v := .ref (g_ad G 61)) rfl dX8_sheet_94 ?_
      refine lv_bipush (v := (40 : Int32)) hx hb dX8_sheet_97 (by decide) ?_
      refine lv_iload_n hx hb dX8_sheet_99 rfl (lv_at hl 1 rfl) ?_
      refine lv_imul hx hb dX8_sheet_100 ?_
      refine lv_iload hx hb dX8_sheet_101 (lv_at hl 2 rfl) ?_
      refine lv_iadd hx hb dX8_sheet_103 ?_
      refine lv_lconst (v := (0 : Int64)) hx hb dX8_sheet_104 (by decide) ?_
      obtain ⟨j17, hj17, gj17, hF⟩ := ix_e hF
      obtain ⟨M18, eM18, hF⟩ := pin_e hF
      refine x_last cx hW hS kc_61 (by decide) hj17 gj17 eM18 dX8_sheet_105 (fun H locs hW hS => ?_)
      refine lv_iinc (v := (x4 + 1)) (lv' := [(4, .int (x4 + 1)), (0, .ref (g_ad G 49)), (1, .int a1)]) hx hb dX8_sheet_106 hl (k := 2) rfl rfl (by decide) rfl (fun ls hl => ?_)
      refine lv_goto (tgt := 86) hx hb dX8_sheet_109 (by decide) ?_
      exact ih (x4 + 1) M18 hF _ _ _ hW hS (lv_sub hl [1, 2, 0] rfl)
def F_X8_sheet_36 (a1 : Int32) (a2 : Int32) (a3 : Int32) (M : Mem) : Option (Int32 × Mem) := (if 0 ≤ a3 then (if a3 ≤ (40 : Int32) then ix 4 a1 (fun j10 => pin (w_I M 59 j10 a2) (fun M11 => (if a2 = 0 then ix 4 a1 (fun j19 => pin (w_I M11 60 j19 (0 : Int32)) (fun M20 => F_X8_sheet_86 a1 a2 a3 FU (0 : Int32) M20)) else ix 4 a1 (fun j13 => pin (w_I M11 60 j13 a3) (fun M14 => F_X8_sheet_86 a1 a2 a3 FU (0 : Int32) M14))))) else bn (F_X8_finds (-1000000001 : Int32) M) (fun r22 M23 => some (r22, M23))) else bn (F_X8_finds (-1000000007 : Int32) M) (fun r25 M26 => some (r25, M26)))
set_option maxHeartbeats 4000000 in
set_option maxRecDepth 100000 in
theorem t_X8_sheet_36 {p : Program} {l : Launch} {e : Env} {s : State} {m : MethodId} {args : Array Value} {below : List Frame} {meth : Method} {c : Code} {G : GG} {a1 : Int32} {a2 : Int32} {a3 : Int32} (cx : Cx G cX8_sheet RX8 5 p s m args meth c) (hr : meth.sig.returnType = (some .int))   {r : Int32} {M1 : Mem} : ∀ (M : Mem), F_X8_sheet_36 a1 a2 a3 M = some (r, M1) → ∀ (H : Heap) (locs : List Loc) (ls : Array Slot), WH G M H → va_S (g_A G) s.heap H locs → lv_has ls 5 [(0, .ref (g_ad G 49)), (1, .int a1), (2, .int a2), (3, .int a3)] → W p l e (RM 2 42) s m args below meth c H locs 0 0 (MQ below (QcI G r M1) args s 0 0 (g_A G)) (F0 m 36 ls []) := by
  obtain ⟨hx, hb, hml, hown, hts, hKK, hSS, hlk⟩ := id cx
  intro M hF H locs ls hW hS hl
  rw [F_X8_sheet_36] at hF
  refine lv_iload_n hx hb dX8_sheet_36 rfl (lv_at hl 3 rfl) ?_
  refine lv_if_ge (tgt := 48) hx hb dX8_sheet_37 (by decide) (fun c8 => ?_) (fun c8 => ?_)
  · have hF := it_p c8 hF
    refine lv_iload_n hx hb dX8_sheet_48 rfl (lv_at hl 3 rfl) ?_
    refine lv_bipush (v := (40 : Int32)) hx hb dX8_sheet_49 (by decide) ?_
    refine lv_icmp_le (tgt := 61) hx hb dX8_sheet_51 (by decide) (fun c9 => ?_) (fun c9 => ?_)
    · have hF := it_p c9 hF
      refine lv_aload_n hx hb dX8_sheet_61 rfl (lv_at hl 0 rfl) ?_
      refine x_get cx hW kc_49 fk_X8_37 (v := .ref (g_ad G 59)) rfl dX8_sheet_62 ?_
      refine lv_iload_n hx hb dX8_sheet_65 rfl (lv_at hl 1 rfl) ?_
      refine lv_iload_n hx hb dX8_sheet_66 rfl (lv_at hl 2 rfl) ?_
      obtain ⟨j10, hj10, gj10, hF⟩ := ix_e hF
      obtain ⟨M11, eM11, hF⟩ := pin_e hF
      refine x_iast cx hW hS kc_59 (by decide) hj10 gj10 eM11 dX8_sheet_67 (fun H locs hW hS => ?_)
      refine lv_aload_n hx hb dX8_sheet_68 rfl (lv_at hl 0 rfl) ?_
      refine x_get cx hW kc_49 fk_X8_40 (v := .ref (g_ad G 60)) rfl dX8_sheet_69 ?_
      refine lv_iload_n hx hb dX8_sheet_72 rfl (lv_at hl 1 rfl) ?_
      refine lv_iload_n hx hb dX8_sheet_73 rfl (lv_at hl 2 rfl) ?_
      refine lv_if_ne (tgt := 81) hx hb dX8_sheet_74 (by decide) (fun c12 => ?_) (fun c12 => ?_)
      · have hF := it_n c12 hF
        refine lv_iload_n hx hb dX8_sheet_81 rfl (lv_at hl 3 rfl) ?_
        obtain ⟨j13, hj13, gj13, hF⟩ := ix_e hF
        obtain ⟨M14, eM14, hF⟩ := pin_e hF
        refine x_iast cx hW hS kc_60 (by decide) hj13 gj13 eM14 dX8_sheet_82 (fun H locs hW hS => ?_)
        refine lv_iconst (v := (0 : Int32)) hx hb dX8_sheet_83 (by decide) ?_
        refine lv_istore (lv' := [(4, .int (0 : Int32)), (0, .ref (g_ad G 49)), (1, .int a1), (2, .int a2), (3, .int a3)]) hx hb dX8_sheet_84 hl (by decide) rfl (fun ls hl => ?_)
        exact t_X8_sheet_86 cx hr FU (0 : Int32) M14 hF _ _ _ hW hS (lv_sub hl [1, 2, 0] rfl)
      · have hF := it_p c12 hF
        refine lv_iconst (v := (0 : Int32)) hx hb dX8_sheet_77 (by decide) ?_
        refine lv_goto (tgt := 82) hx hb dX8_sheet_78 (by decide) ?_
        obtain ⟨j19, hj19, gj19, hF⟩ := ix_e hF
        obtain ⟨M20, eM20, hF⟩ := pin_e hF
        refine x_iast cx hW hS kc_60 (by decide) hj19 gj19 eM20 dX8_sheet_82 (fun H locs hW hS => ?_)
        refine lv_iconst (v := (0 : Int32)) hx hb dX8_sheet_83 (by decide) ?_
        refine lv_istore (lv' := [(4, .int (0 : Int32)), (0, .ref (g_ad G 49)), (1, .int a1), (2, .int a2), (3, .int a3)]) hx hb dX8_sheet_84 hl (by decide) rfl (fun ls hl => ?_)
        exact t_X8_sheet_86 cx hr FU (0 : Int32) M20 hF _ _ _ hW hS (lv_sub hl [1, 2, 0] rfl)
    · have hF := it_n c9 hF
      refine lv_aload_n hx hb dX8_sheet_54 rfl (lv_at hl 0 rfl) ?_
      refine x_ldc cx q_k_X8_56 dX8_sheet_55 ?_
      obtain ⟨r22, M23, hc21, hF⟩ := bn_e hF
      refine x_goi (x_runV cx hW hS (c_X8_finds (l := l) (G := G) hc21) cv_X8_83 kc_49 rfl (rest := []) ⟨Nat.le_of_ble_eq_true rfl, Nat.le_of_ble_eq_true rfl⟩ hl.1 rfl rfl (Nat.le_of_ble_eq_true rfl) ⟨Nat.zero_le _, Nat.zero_le _⟩ dX8_sheet_57) hS (fun H locs hW hS => ?_)
      exact x_iret cx hr hW hS (sp_1 hF) (sp_2 hF) dX8_sheet_60
  · have hF := it_n c8 hF
    refine lv_aload_n hx hb dX8_sheet_40 rfl (lv_at hl 0 rfl) ?_
    refine x_ldcw cx q_k_X8_269 dX8_sheet_41 ?_
    obtain ⟨r25, M26, hc24, hF⟩ := bn_e hF
    refine x_goi (x_runV cx hW hS (c_X8_finds (l := l) (G := G) hc24) cv_X8_83 kc_49 rfl (rest := []) ⟨Nat.le_of_ble_eq_true rfl, Nat.le_of_ble_eq_true rfl⟩ hl.1 rfl rfl (Nat.le_of_ble_eq_true rfl) ⟨Nat.zero_le _, Nat.zero_le _⟩ dX8_sheet_44) hS (fun H locs hW hS => ?_)
    exact x_iret cx hr hW hS (sp_1 hF) (sp_2 hF) dX8_sheet_47
def F_X8_sheet (a1 : Int32) (a2 : Int32) (a3 : Int32) (M : Mem) : Option (Int32 × Mem) := (F_X8_isSheet a1 M).bind (fun r2 => (if r2 = 0 then bn (F_X8_finds (-1000000001 : Int32) M) (fun r5 M6 => some (r5, M6)) else (if a2 = 0 then F_X8_sheet_36 a1 a2 a3 M else (if a2 = (8 : Int32) then F_X8_sheet_36 a1 a2 a3 M else (if a2 = (16 : Int32) then F_X8_sheet_36 a1 a2 a3 M else (if a2 = (64 : Int32) then F_X8_sheet_36 a1 a2 a3 M else bn (F_X8_finds (-1000000001 : Int32) M) (fun r31 M32 => some (r31, M32))))))))
set_option maxHeartbeats 4000000 in
set_option maxRecDepth 100000 in
theorem c_X8_sheet {l : Launch} {G : GG} {a1 : Int32} {a2 : Int32} {a3 : Int32}  {M : Mem} {r : Int32} {M1 : Mem} (hF : F_X8_sheet a1 a2 a3 M = some (r, M1)) : Met l yX8_sheet (wz yX8_sheet cX8_sheet 5 (some .int)) (RM 2 42) (PreC G [.ref (g_ad G 49), .int a1, .int a2, .int a3] M) (QcI G r M1) 0 0 (g_A G) := by
  rw [F_X8_sheet] at hF
  refine x_start (by decide) (Nat.le_of_ble_eq_true rfl) (lv := [(0, .ref (g_ad G 49)), (1, .int a1), (2, .int a2), (3, .int a3)]) rfl ?_
  intro p e s m below meth c cx hr hW hS ls hl
  obtain ⟨hx, hb, hml, hown, hts, hKK, hSS, hlk⟩ := id cx
  refine lv_iload_n hx hb dX8_sheet_0 rfl (lv_at hl 1 rfl) ?_
  obtain ⟨r2, hc1, hF⟩ := bi_e hF
  refine x_goi (x_runS cx hW hS (c_X8_isSheet (l := l) (G := G) hc1) cs_X8_266 (rest := []) ⟨Nat.le_of_ble_eq_true rfl, Nat.le_of_ble_eq_true rfl⟩ hl.1 rfl rfl (Nat.le_of_ble_eq_true rfl) ⟨Nat.zero_le _, Nat.zero_le _⟩ dX8_sheet_1) hS (fun H locs hW hS => ?_)
  refine lv_if_eq (tgt := 29) hx hb dX8_sheet_4 (by decide) (fun c3 => ?_) (fun c3 => ?_)
  · have hF := it_p c3 hF
    refine lv_aload_n hx hb dX8_sheet_29 rfl (lv_at hl 0 rfl) ?_
    refine x_ldc cx q_k_X8_56 dX8_sheet_30 ?_
    obtain ⟨r5, M6, hc4, hF⟩ := bn_e hF
    refine x_goi (x_runV cx hW hS (c_X8_finds (l := l) (G := G) hc4) cv_X8_83 kc_49 rfl (rest := []) ⟨Nat.le_of_ble_eq_true rfl, Nat.le_of_ble_eq_true rfl⟩ hl.1 rfl rfl (Nat.le_of_ble_eq_true rfl) ⟨Nat.zero_le _, Nat.zero_le _⟩ dX8_sheet_32) hS (fun H locs hW hS => ?_)
    exact x_iret cx hr hW hS (sp_1 hF) (sp_2 hF) dX8_sheet_35
  · have hF := it_n c3 hF
    refine lv_iload_n hx hb dX8_sheet_7 rfl (lv_at hl 2 rfl) ?_
    refine lv_if_eq (tgt := 36) hx hb dX8_sheet_8 (by decide) (fun c7 => ?_) (fun c7 => ?_)
    · have hF := it_p c7 hF
      exact t_X8_sheet_36 cx hr M hF _ _ _ hW hS (lv_sub hl [0, 1, 2, 3] rfl)
    · have hF := it_n c7 hF
      refine lv_iload_n hx hb dX8_sheet_11 rfl (lv_at hl 2 rfl) ?_
      refine lv_bipush (v := (8 : Int32)) hx hb dX8_sheet_12 (by decide) ?_
      refine lv_icmp_eq (tgt := 36) hx hb dX8_sheet_14 (by decide) (fun c27 => ?_) (fun c27 => ?_)
      · have hF := it_p c27 hF
        exact t_X8_sheet_36 cx hr M hF _ _ _ hW hS (lv_sub hl [0, 1, 2, 3] rfl)
      · have hF := it_n c27 hF
        refine lv_iload_n hx hb dX8_sheet_17 rfl (lv_at hl 2 rfl) ?_
        refine lv_bipush (v := (16 : Int32)) hx hb dX8_sheet_18 (by decide) ?_
        refine lv_icmp_eq (tgt := 36) hx hb dX8_sheet_20 (by decide) (fun c28 => ?_) (fun c28 => ?_)
        · have hF := it_p c28 hF
          exact t_X8_sheet_36 cx hr M hF _ _ _ hW hS (lv_sub hl [0, 1, 2, 3] rfl)
        · have hF := it_n c28 hF
          refine lv_iload_n hx hb dX8_sheet_23 rfl (lv_at hl 2 rfl) ?_
          refine lv_bipush (v := (64 : Int32)) hx hb dX8_sheet_24 (by decide) ?_
          refine lv_icmp_eq (tgt := 36) hx hb dX8_sheet_26 (by decide) (fun c29 => ?_) (fun c29 => ?_)
          · have hF := it_p c29 hF
            exact t_X8_sheet_36 cx hr M hF _ _ _ hW hS (lv_sub hl [0, 1, 2, 3] rfl)
          · have hF := it_n c29 hF
            refine lv_aload_n hx hb dX8_sheet_29 rfl (lv_at hl 0 rfl) ?_
            refine x_ldc cx q_k_X8_56 dX8_sheet_30 ?_
            obtain ⟨r31, M32, hc30, hF⟩ := bn_e hF
            refine x_goi (x_runV cx hW hS (c_X8_finds (l := l) (G := G) hc30) cv_X8_83 kc_49 rfl (rest := []) ⟨Nat.le_of_ble_eq_true rfl, Nat.le_of_ble_eq_true rfl⟩ hl.1 rfl rfl (Nat.le_of_ble_eq_true rfl) ⟨Nat.zero_le _, Nat.zero_le _⟩ dX8_sheet_32) hS (fun H locs hW hS => ?_)
            exact x_iret cx hr hW hS (sp_1 hF) (sp_2 hF) dX8_sheet_35
def F_X8_write (a1 : Int32) (a2 : Int32) (a3 : Int64) (M : Mem) : Option (Int64 × Mem) := (F_X8_isSheet a1 M).bind (fun r2 => (if r2 = 0 then bn (F_X8_finds (-1000000001 : Int32) M) (fun r23 M24 => some ((r23.toInt64), M24)) else ix 4 a1 (fun j4 => (if (m_I M 59 j4) = 0 then bn (F_X8_finds (-1000000006 : Int32) M) (fun r20 M21 => some ((r20.toInt64), M21)) else ix 4 a1 (fun j6 => (F_X8_in a2 (0 : Int32) ((m_I M 60 j6) - (1 : Int32)) M).bind (fun r8 => (if r8 = 0 then bn (F_X8_finds (-1000000001 : Int32) M) (fun r17 M18 => some ((r17.toInt64), M18)) else ix 160 (((40 : Int32) * a1) + a2) (fun j10 => ix 4 a1 (fun j11 => (F_X8_narrow (m_I M 59 j11) a3 M).bind (fun r13 => ix 160 (((40 : Int32) * a1) + a2) (fun j14 => pin (w_J M 61 j14 r13) (fun M15 => some ((m_J M 61 j10), M15)))))))))))))
set_option maxHeartbeats 4000000 in
set_option maxRecDepth 100000 in
theorem c_X8_write {l : Launch} {G : GG} {a1 : Int32} {a2 : Int32} {a3 : Int64}  {M : Mem} {r : Int64} {M1 : Mem} (hF : F_X8_write a1 a2 a3 M = some (r, M1)) : Met l yX8_write (wz yX8_write cX8_write 7 (some .long)) (RM 2 42) (PreC G [.ref (g_ad G 49), .int a1, .int a2, .long a3] M) (QcL G r M1) 0 0 (g_A G) := by
  rw [F_X8_write] at hF
  refine x_start (by decide) (Nat.le_of_ble_eq_true rfl) (lv := [(0, .ref (g_ad G 49)), (1, .int a1), (2, .int a2), (3, .long a3)]) rfl ?_
  intro p e s m below meth c cx hr hW hS ls hl
  obtain ⟨hx, hb, hml, hown, hts, hKK, hSS, hlk⟩ := id cx
  refine lv_iload_n hx hb dX8_write_0 rfl (lv_at hl 1 rfl) ?_
  obtain ⟨r2, hc1, hF⟩ := bi_e hF
  refine x_goi (x_runS cx hW hS (c_X8_isSheet (l := l) (G := G) hc1) cs_X8_266 (rest := []) ⟨Nat.le_of_ble_eq_true rfl, Nat.le_of_ble_eq_true rfl⟩ hl.1 rfl rfl (Nat.le_of_ble_eq_true rfl) ⟨Nat.zero_le _, Nat.zero_le _⟩ dX8_write_1) hS (fun H locs hW hS => ?_)
  refine lv_if_ne (tgt := 15) hx hb dX8_write_4 (by decide) (fun c3 => ?_) (fun c3 => ?_)
  · have hF := it_n c3 hF
    refine lv_aload_n hx hb dX8_write_15 rfl (lv_at hl 0 rfl) ?_
    refine x_get cx hW kc_49 fk_X8_37 (v := .ref (g_ad G 59)) rfl dX8_write_16 ?_
    refine lv_iload_n hx hb dX8_write_19 rfl (lv_at hl 1 rfl) ?_
    obtain ⟨j4, hj4, gj4, hF⟩ := ix_e hF
    refine x_iald cx hW kc_59 (by decide) hj4 gj4 dX8_write_20 ?_
    refine lv_if_ne (tgt := 33) hx hb dX8_write_21 (by decide) (fun c5 => ?_) (fun c5 => ?_)
    · have hF := it_n c5 hF
      refine lv_iload_n hx hb dX8_write_33 rfl (lv_at hl 2 rfl) ?_
      refine lv_iconst (v := (0 : Int32)) hx hb dX8_write_34 (by decide) ?_
      refine lv_aload_n hx hb dX8_write_35 rfl (lv_at hl 0 rfl) ?_
      refine x_get cx hW kc_49 fk_X8_40 (v := .ref (g_ad G 60)) rfl dX8_write_36 ?_
      refine lv_iload_n hx hb dX8_write_39 rfl (lv_at hl 1 rfl) ?_
      obtain ⟨j6, hj6, gj6, hF⟩ := ix_e hF
      refine x_iald cx hW kc_60 (by decide) hj6 gj6 dX8_write_40 ?_
      refine lv_iconst (v := (1 : Int32)) hx hb dX8_write_41 (by decide) ?_
      refine lv_isub hx hb dX8_write_42 ?_
      obtain ⟨r8, hc7, hF⟩ := bi_e hF
      refine x_goi (x_runS cx hW hS (c_X8_in (l := l) (G := G) hc7) cs_X8_57 (rest := []) ⟨Nat.le_of_ble_eq_true rfl, Nat.le_of_ble_eq_true rfl⟩ hl.1 rfl rfl (Nat.le_of_ble_eq_true rfl) ⟨Nat.zero_le _, Nat.zero_le _⟩ dX8_write_43) hS (fun H locs hW hS => ?_)
      refine lv_if_ne (tgt := 57) hx hb dX8_write_46 (by decide) (fun c9 => ?_) (fun c9 => ?_)
      · have hF := it_n c9 hF
        refine lv_aload_n hx hb dX8_write_57 rfl (lv_at hl 0 rfl) ?_
        refine x_get cx hW kc_49 fk_X8_43 (v := .ref (g_ad G 61)) rfl dX8_write_58 ?_
        refine lv_bipush (v := (40 : Int32)) hx hb dX8_write_61 (by decide) ?_
        refine lv_iload_n hx hb dX8_write_63 rfl (lv_at hl 1 rfl) ?_
        refine lv_imul hx hb dX8_write_64 ?_
        refine lv_iload_n hx hb dX8_write_65 rfl (lv_at hl 2 rfl) ?_
        refine lv_iadd hx hb dX8_write_66 ?_
        obtain ⟨j10, hj10, gj10, hF⟩ := ix_e hF
        refine x_lald cx hW kc_61 (by decide) hj10 gj10 dX8_write_67 ?_
        refine lv_lstore (lv' := [(5, .long (m_J M 61 j10)), (0, .ref (g_ad G 49)), (1, .int a1), (2, .int a2), (3, .long a3)]) hx hb dX8_write_68 hl (by decide) rfl (fun ls hl => ?_)
        refine lv_aload_n hx hb dX8_write_70 rfl (lv_at hl 1 rfl) ?_
        refine x_get cx hW kc_49 fk_X8_43 (v := .ref (g_ad G 61)) rfl dX8_write_71 ?_
        refine lv_bipush (v := (40 : Int32)) hx hb dX8_write_74 (by decide) ?_
        refine lv_iload_n hx hb dX8_write_76 rfl (lv_at hl 2 rfl) ?_
        refine lv_imul hx hb dX8_write_77 ?_
        refine lv_iload_n hx hb dX8_write_78 rfl (lv_at hl 3 rfl) ?_
        refine lv_iadd hx hb dX8_write_79 ?_
        refine lv_aload_n hx hb dX8_write_80 rfl (lv_at hl 1 rfl) ?_
        refine x_get cx hW kc_49 fk_X8_37 (v := .ref (g_ad G 59)) rfl dX8_write_81 ?_
        refine lv_iload_n hx hb dX8_write_84 rfl (lv_at hl 2 rfl) ?_
        obtain ⟨j11, hj11, gj11, hF⟩ := ix_e hF
        refine x_iald cx hW kc_59 (by decide) hj11 gj11 dX8_write_85 ?_
        refine lv_lload_n hx hb dX8_write_86 rfl (lv_at hl 4 rfl) ?_
        obtain ⟨r13, hc12, hF⟩ := bi_e hF
        refine x_gol (x_runS cx hW hS (c_X8_narrow (l := l) (G := G) hc12) cs_X8_271 (rest := [.int (((40 : Int32) * a1) + a2), .ref (g_ad G 61)]) ⟨Nat.le_of_ble_eq_true rfl, Nat.le_of_ble_eq_true rfl⟩ hl.1 rfl rfl (Nat.le_of_ble_eq_true rfl) ⟨Nat.zero_le _, Nat.zero_le _⟩ dX8_write_87) hS (fun H locs hW hS => ?_)
        obtain ⟨j14, hj14, gj14, hF⟩ := ix_e hF
        obtain ⟨M15, eM15, hF⟩ := pin_e hF
        refine x_last cx hW hS kc_61 (by decide) hj14 gj14 eM15 dX8_write_90 (fun H locs hW hS => ?_)
        refine lv_lload hx hb dX8_write_91 (lv_at hl 0 rfl) ?_
        exact x_lret cx hr hW hS (sp_1 hF) (sp_2 hF) dX8_write_93
      · have hF := it_p c9 hF
        refine lv_aload_n hx hb dX8_write_49 rfl (lv_at hl 0 rfl) ?_
        refine x_ldc cx q_k_X8_56 dX8_write_50 ?_
        obtain ⟨r17, M18, hc16, hF⟩ := bn_e hF
        refine x_goi (x_runV cx hW hS (c_X8_finds (l := l) (G := G) hc16) cv_X8_83 kc_49 rfl (rest := []) ⟨Nat.le_of_ble_eq_true rfl, Nat.le_of_ble_eq_true rfl⟩ hl.1 rfl rfl (Nat.le_of_ble_eq_true rfl) ⟨Nat.zero_le _, Nat.zero_le _⟩ dX8_write_52) hS (fun H locs hW hS => ?_)
        refine lv_i2l hx hb dX8_write_55 rfl ?_
        exact x_lret cx hr hW hS (sp_1 hF) (sp_2 hF) dX8_write_56
    · have hF := it_p c5 hF
      refine lv_aload_n hx hb dX8_write_24 rfl (lv_at hl 0 rfl) ?_
      refine x_ldcw cx q_k_X8_270 dX8_write_25 ?_
      obtain ⟨r20, M21, hc19, hF⟩ := bn_e hF
      refine x_goi (x_runV cx hW hS (c_X8_finds (l := l) (G := G) hc19) cv_X8_83 kc_49 rfl (rest := []) ⟨Nat.le_of_ble_eq_true rfl, Nat.le_of_ble_eq_true rfl⟩ hl.1 rfl rfl (Nat.le_of_ble_eq_true rfl) ⟨Nat.zero_le _, Nat.zero_le _⟩ dX8_write_28) hS (fun H locs hW hS => ?_)
      refine lv_i2l hx hb dX8_write_31 rfl ?_
      exact x_lret cx hr hW hS (sp_1 hF) (sp_2 hF) dX8_write_32
  · have hF := it_p c3 hF
    refine lv_aload_n hx hb dX8_write_7 rfl (lv_at hl 0 rfl) ?_
    refine x_ldc cx q_k_X8_56 dX8_write_8 ?_
    obtain ⟨r23, M24, hc22, hF⟩ := bn_e hF
    refine x_goi (x_runV cx hW hS (c_X8_finds (l := l) (G := G) hc22) cv_X8_83 kc_49 rfl (rest := []) ⟨Nat.le_of_ble_eq_true rfl, Nat.le_of_ble_eq_true rfl⟩ hl.1 rfl rfl (Nat.le_of_ble_eq_true rfl) ⟨Nat.zero_le _, Nat.zero_le _⟩ dX8_write_10) hS (fun H locs hW hS => ?_)
    refine lv_i2l hx hb dX8_write_13 rfl ?_
    exact x_lret cx hr hW hS (sp_1 hF) (sp_2 hF) dX8_write_14
def F_X8_isPart (a1 : Int32) (a2 : Int32) (a3 : Int32) (M : Mem) : Option Int32 := (if a2 < 0 then some (0 : Int32) else (if a3 < 0 then some (0 : Int32) else ix 4 a1 (fun j3 => (if (m_I M 60 j3) < a3 then some (0 : Int32) else ix 4 a1 (fun j5 => (if ((m_I M 60 j5) - a3) < a2 then some (0 : Int32) else some (1 : Int32)))))))
set_option maxHeartbeats 4000000 in
set_option maxRecDepth 100000 in
theorem c_X8_isPart {l : Launch} {G : GG} {a1 : Int32} {a2 : Int32} {a3 : Int32}  {M : Mem} {r : Int32} (hF : F_X8_isPart a1 a2 a3 M = some r) : Met l yX8_isPart (wz yX8_isPart cX8_isPart 4 (some .boolean)) (RM 0 0) (PreC G [.ref (g_ad G 49), .int a1, .int a2, .int a3] M) (QcI G r M) 0 0 (g_A G) := by
  rw [F_X8_isPart] at hF
  refine x_start (by decide) (Nat.le_of_ble_eq_true rfl) (lv := [(0, .ref (g_ad G 49)), (1, .int a1), (2, .int a2), (3, .int a3)]) rfl ?_
  intro p e s m below meth c cx hr hW hS ls hl
  obtain ⟨hx, hb, hml, hown, hts, hKK, hSS, hlk⟩ := id cx
  refine lv_iload_n hx hb dX8_isPart_0 rfl (lv_at hl 2 rfl) ?_
  refine lv_if_lt (tgt := 34) hx hb dX8_isPart_1 (by decide) (fun c1 => ?_) (fun c1 => ?_)
  · have hF := it_p c1 hF
    refine lv_iconst (v := (0 : Int32)) hx hb dX8_isPart_34 (by decide) ?_
    exact x_zret cx hr (by decide) hW hS (Option.some.inj hF) rfl dX8_isPart_35
  · have hF := it_n c1 hF
    refine lv_iload_n hx hb dX8_isPart_4 rfl (lv_at hl 3 rfl) ?_
    refine lv_if_lt (tgt := 34) hx hb dX8_isPart_5 (by decide) (fun c2 => ?_) (fun c2 => ?_)
    · have hF := it_p c2 hF
      refine lv_iconst (v := (0 : Int32)) hx hb dX8_isPart_34 (by decide) ?_
      exact x_zret cx hr (by decide) hW hS (Option.some.inj hF) rfl dX8_isPart_35
    · have hF := it_n c2 hF
      refine lv_iload_n hx hb dX8_isPart_8 rfl (lv_at hl 3 rfl) ?_
      refine lv_aload_n hx hb dX8_isPart_9 rfl (lv_at hl 0 rfl) ?_
      refine x_get cx hW kc_49 fk_X8_40 (v := .ref (g_ad G 60)) rfl dX8_isPart_10 ?_
      refine lv_iload_n hx hb dX8_isPart_13 rfl (lv_at hl 1 rfl) ?_
      obtain ⟨j3, hj3, gj3, hF⟩ := ix_e hF
      refine x_iald cx hW kc_60 (by decide) hj3 gj3 dX8_isPart_14 ?_
      refine lv_icmp_gt (tgt := 34) hx hb dX8_isPart_15 (by decide) (fun c4 => ?_) (fun c4 => ?_)
      · have hF := it_p c4 hF
        refine lv_iconst (v := (0 : Int32)) hx hb dX8_isPart_34 (by decide) ?_
        exact x_zret cx hr (by decide) hW hS (Option.some.inj hF) rfl dX8_isPart_35
      · have hF := it_n c4 hF
        refine lv_iload_n hx hb dX8_isPart_18 rfl (lv_at hl 2 rfl) ?_
        refine lv_aload_n hx hb dX8_isPart_19 rfl (lv_at hl 0 rfl) ?_
        refine x_get cx hW kc_49 fk_X8_40 (v := .ref (g_ad G 60)) rfl dX8_isPart_20 ?_
        refine lv_iload_n hx hb dX8_isPart_23 rfl (lv_at hl 1 rfl) ?_
        obtain ⟨j5, hj5, gj5, hF⟩ := ix_e hF
        refine x_iald cx hW kc_60 (by decide) hj5 gj5 dX8_isPart_24 ?_
        refine lv_iload_n hx hb dX8_isPart_25 rfl (lv_at hl 3 rfl) ?_
        refine lv_isub hx hb dX8_isPart_26 ?_
        refine lv_icmp_gt (tgt := 34) hx hb dX8_isPart_27 (by decide) (fun c6 => ?_) (fun c6 => ?_)
        · have hF := it_p c6 hF
          refine lv_iconst (v := (0 : Int32)) hx hb dX8_isPart_34 (by decide) ?_
          exact x_zret cx hr (by decide) hW hS (Option.some.inj hF) rfl dX8_isPart_35
        · have hF := it_n c6 hF
          refine lv_iconst (v := (1 : Int32)) hx hb dX8_isPart_30 (by decide) ?_
          refine lv_goto (tgt := 35) hx hb dX8_isPart_31 (by decide) ?_
          exact x_zret cx hr (by decide) hW hS (Option.some.inj hF) rfl dX8_isPart_35
def F_X8_copy_139 (a1 : Int32) (a2 : Int32) (a3 : Int32) (a4 : Int32) (a5 : Int32) : Nat → Int32 → Mem → Option (Int32 × Mem)
  | 0, _, _ => none
  | n + 1, x6, M => (if a5 ≤ x6 then some (a5, M) else ix 40 x6 (fun j31 => ix 160 ((((40 : Int32) * a3) + a4) + x6) (fun j32 => pin (w_J M 61 j32 (m_J M 62 j31)) (fun M33 => F_X8_copy_139 a1 a2 a3 a4 a5 n (x6 + 1) M33))))
set_option maxHeartbeats 4000000 in
set_option maxRecDepth 100000 in
theorem t_X8_copy_139 {p : Program} {l : Launch} {e : Env} {s : State} {m : MethodId} {args : Array Value} {below : List Frame} {meth : Method} {c : Code} {G : GG} {a1 : Int32} {a2 : Int32} {a3 : Int32} {a4 : Int32} {a5 : Int32} (cx : Cx G cX8_copy RX8 7 p s m args meth c) (hr : meth.sig.returnType = (some .int))   {r : Int32} {M1 : Mem} : ∀ (n : Nat) (x6 : Int32) (M : Mem), F_X8_copy_139 a1 a2 a3 a4 a5 n x6 M = some (r, M1) → ∀ (H : Heap) (locs : List Loc) (ls : Array Slot), WH G M H → va_S (g_A G) s.heap H locs → lv_has ls 7 [(0, .ref (g_ad G 49)), (3, .int a3), (4, .int a4), (5, .int a5), (6, .int x6)] → W p l e (RM 2 42) s m args below meth c H locs 0 0 (MQ below (QcI G r M1) args s 0 0 (g_A G)) (F0 m 139 ls []) := by
  obtain ⟨hx, hb, hml, hown, hts, hKK, hSS, hlk⟩ := id cx
  intro n
  induction n with
  | zero =>
    intro x6 M hF H locs ls hW hS hl
    rw [F_X8_copy_139] at hF
    cases hF
  | succ n ih =>
    intro x6 M hF H locs ls hW hS hl
    rw [F_X8_copy_139] at hF
    refine lv_iload hx hb dX8_copy_139 (lv_at hl 4 rfl) ?_
    refine lv_iload hx hb dX8_copy_141 (lv_at hl 3 rfl) ?_
    refine lv_icmp_ge (tgt := 174) hx hb dX8_copy_143 (by decide) (fun c30 => ?_) (fun c30 => ?_)
    · have hF := it_p c30 hF
      refine lv_iload hx hb dX8_copy_174 (lv_at hl 3 rfl) ?_
      exact x_iret cx hr hW hS (sp_1 hF) (sp_2 hF) dX8_copy_176
    · have hF := it_n c30 hF
      refine lv_aload_n hx hb dX8_copy_146 rfl (lv_at hl 0 rfl) ?_
      refine x_get cx hW kc_49 fk_X8_43 (v := .ref (g_ad G 61)) rfl dX8_copy_147 ?_
      refine lv_bipush (v := (40 : Int32)) hx hb dX8_copy_150 (by decide) ?_
      refine lv_iload_n hx hb dX8_copy_152 rfl (lv_at hl 1 rfl) ?_
      refine lv_imul hx hb dX8_copy_153 ?_
      refine lv_iload hx hb dX8_copy_154 (lv_at hl 2 rfl) ?_
      refine lv_iadd hx hb dX8_copy_156 ?_
      refine lv_iload hx hb dX8_copy_157 (lv_at hl 4 rfl) ?_
      refine lv_iadd hx hb dX8_copy_159 ?_
      refine lv_aload_n hx hb dX8_copy_160 rfl (lv_at hl 0 rfl) ?_
      refine x_get cx hW kc_49 fk_X8_47 (v := .ref (g_ad G 62)) rfl dX8_copy_161 ?_
      refine lv_iload hx hb dX8_copy_164 (lv_at hl 4 rfl) ?_
      obtain ⟨j31, hj31, gj31, hF⟩ := ix_e hF
      refine x_lald cx hW kc_62 (by decide) hj31 gj31 dX8_copy_166 ?_
      obtain ⟨j32, hj32, gj32, hF⟩ := ix_e hF
      obtain ⟨M33, eM33, hF⟩ := pin_e hF
      refine x_last cx hW hS kc_61 (by decide) hj32 gj32 eM33 dX8_copy_167 (fun H locs hW hS => ?_)
      refine lv_iinc (v := (x6 + 1)) (lv' := [(6, .int (x6 + 1)), (0, .ref (g_ad G 49)), (3, .int a3), (4, .int a4), (5, .int a5)]) hx hb dX8_copy_168 hl (k := 4) rfl rfl (by decide) rfl (fun ls hl => ?_)
      refine lv_goto (tgt := 139) hx hb dX8_copy_171 (by decide) ?_
      exact ih (x6 + 1) M33 hF _ _ _ hW hS (lv_sub hl [1, 2, 3, 4, 0] rfl)
def F_X8_copy_102 (a1 : Int32) (a2 : Int32) (a3 : Int32) (a4 : Int32) (a5 : Int32) : Nat → Int32 → Mem → Option (Int32 × Mem)
  | 0, _, _ => none
  | n + 1, x6, M => (if a5 ≤ x6 then F_X8_copy_139 a1 a2 a3 a4 a5 FU (0 : Int32) M else ix 160 ((((40 : Int32) * a1) + a2) + x6) (fun j34 => ix 40 x6 (fun j35 => pin (w_J M 62 j35 (m_J M 61 j34)) (fun M36 => F_X8_copy_102 a1 a2 a3 a4 a5 n (x6 + 1) M36))))
set_option maxHeartbeats 4000000 in
set_option maxRecDepth 100000 in
theorem t_X8_copy_102 {p : Program} {l : Launch} {e : Env} {s : State} {m : MethodId} {args : Array Value} {below : List Frame} {meth : Method} {c : Code} {G : GG} {a1 : Int32} {a2 : Int32} {a3 : Int32} {a4 : Int32} {a5 : Int32} (cx : Cx G cX8_copy RX8 7 p s m args meth c) (hr : meth.sig.returnType = (some .int))   {r : Int32} {M1 : Mem} : ∀ (n : Nat) (x6 : Int32) (M : Mem), F_X8_copy_102 a1 a2 a3 a4 a5 n x6 M = some (r, M1) → ∀ (H : Heap) (locs : List Loc) (ls : Array Slot), WH G M H → va_S (g_A G) s.heap H locs → lv_has ls 7 [(0, .ref (g_ad G 49)), (1, .int a1), (2, .int a2), (3, .int a3), (4, .int a4), (5, .int a5), (6, .int x6)] → W p l e (RM 2 42) s m args below meth c H locs 0 0 (MQ below (QcI G r M1) args s 0 0 (g_A G)) (F0 m 102 ls []) := by
  obtain ⟨hx, hb, hml, hown, hts, hKK, hSS, hlk⟩ := id cx
  intro n
  induction n with
  | zero =>
    intro x6 M hF H locs ls hW hS hl
    rw [F_X8_copy_102] at hF
    cases hF
  | succ n ih =>
    intro x6 M hF H locs ls hW hS hl
    rw [F_X8_copy_102] at hF
    refine lv_iload hx hb dX8_copy_102 (lv_at hl 6 rfl) ?_
    refine lv_iload hx hb dX8_copy_104 (lv_at hl 5 rfl) ?_
    refine lv_icmp_ge (tgt := 136) hx hb dX8_copy_106 (by decide) (fun c29 => ?_) (fun c29 => ?_)
    · have hF := it_p c29 hF
      refine lv_iconst (v := (0 : Int32)) hx hb dX8_copy_136 (by decide) ?_
      refine lv_istore (lv' := [(6, .int (0 : Int32)), (0, .ref (g_ad G 49)), (1, .int a1), (2, .int a2), (3, .int a3), (4, .int a4), (5, .int a5)]) hx hb dX8_copy_137 hl (by decide) rfl (fun ls hl => ?_)
      exact t_X8_copy_139 cx hr FU (0 : Int32) M hF _ _ _ hW hS (lv_sub hl [1, 4, 5, 6, 0] rfl)
    · have hF := it_n c29 hF
      refine lv_aload_n hx hb dX8_copy_109 rfl (lv_at hl 0 rfl) ?_
      refine x_get cx hW kc_49 fk_X8_47 (v := .ref (g_ad G 62)) rfl dX8_copy_110 ?_
      refine lv_iload hx hb dX8_copy_113 (lv_at hl 6 rfl) ?_
      refine lv_aload_n hx hb dX8_copy_115 rfl (lv_at hl 0 rfl) ?_
      refine x_get cx hW kc_49 fk_X8_43 (v := .ref (g_ad G 61)) rfl dX8_copy_116 ?_
      refine lv_bipush (v := (40 : Int32)) hx hb dX8_copy_119 (by decide) ?_
      refine lv_iload_n hx hb dX8_copy_121 rfl (lv_at hl 1 rfl) ?_
      refine lv_imul hx hb dX8_copy_122 ?_
      refine lv_iload_n hx hb dX8_copy_123 rfl (lv_at hl 2 rfl) ?_
      refine lv_iadd hx hb dX8_copy_124 ?_
      refine lv_iload hx hb dX8_copy_125 (lv_at hl 6 rfl) ?_
      refine lv_iadd hx hb dX8_copy_127 ?_
      obtain ⟨j34, hj34, gj34, hF⟩ := ix_e hF
      refine x_lald cx hW kc_61 (by decide) hj34 gj34 dX8_copy_128 ?_
      obtain ⟨j35, hj35, gj35, hF⟩ := ix_e hF
      obtain ⟨M36, eM36, hF⟩ := pin_e hF
      refine x_last cx hW hS kc_62 (by decide) hj35 gj35 eM36 dX8_copy_129 (fun H locs hW hS => ?_)
      refine lv_iinc (v := (x6 + 1)) (lv' := [(6, .int (x6 + 1)), (0, .ref (g_ad G 49)), (1, .int a1), (2, .int a2), (3, .int a3), (4, .int a4), (5, .int a5)]) hx hb dX8_copy_130 hl (k := 6) rfl rfl (by decide) rfl (fun ls hl => ?_)
      refine lv_goto (tgt := 102) hx hb dX8_copy_133 (by decide) ?_
      exact ih (x6 + 1) M36 hF _ _ _ hW hS (lv_sub hl [1, 2, 3, 4, 5, 6, 0] rfl)
def F_X8_copy (a1 : Int32) (a2 : Int32) (a3 : Int32) (a4 : Int32) (a5 : Int32) (M : Mem) : Option (Int32 × Mem) := (F_X8_isSheet a1 M).bind (fun r2 => (if r2 = 0 then bn (F_X8_finds (-1000000001 : Int32) M) (fun r5 M6 => some (r5, M6)) else (F_X8_isSheet a3 M).bind (fun r8 => (if r8 = 0 then bn (F_X8_finds (-1000000001 : Int32) M) (fun r47 M48 => some (r47, M48)) else ix 4 a1 (fun j10 => (if (m_I M 59 j10) = 0 then bn (F_X8_finds (-1000000006 : Int32) M) (fun r13 M14 => some (r13, M14)) else ix 4 a3 (fun j15 => (if (m_I M 59 j15) = 0 then bn (F_X8_finds (-1000000006 : Int32) M) (fun r44 M45 => some (r44, M45)) else ix 4 a1 (fun j17 => ix 4 a3 (fun j18 => (if (m_I M 59 j17) = (m_I M 59 j18) then (F_X8_isPart a1 a2 a5 M).bind (fun r21 => (if r21 = 0 then bn (F_X8_finds (-1000000001 : Int32) M) (fun r24 M25 => some (r24, M25)) else (F_X8_isPart a3 a4 a5 M).bind (fun r27 => (if r27 = 0 then bn (F_X8_finds (-1000000001 : Int32) M) (fun r38 M39 => some (r38, M39)) else F_X8_copy_102 a1 a2 a3 a4 a5 FU (0 : Int32) M)))) else bn (F_X8_finds (-1000000003 : Int32) M) (fun r41 M42 => some (r41, M42)))))))))))))
set_option maxHeartbeats 4000000 in
set_option maxRecDepth 100000 in
theorem c_X8_copy {l : Launch} {G : GG} {a1 : Int32} {a2 : Int32} {a3 : Int32} {a4 : Int32} {a5 : Int32}  {M : Mem} {r : Int32} {M1 : Mem} (hF : F_X8_copy a1 a2 a3 a4 a5 M = some (r, M1)) : Met l yX8_copy (wz yX8_copy cX8_copy 7 (some .int)) (RM 2 42) (PreC G [.ref (g_ad G 49), .int a1, .int a2, .int a3, .int a4, .int a5] M) (QcI G r M1) 0 0 (g_A G) := by
  rw [F_X8_copy] at hF
  refine x_start (by decide) (Nat.le_of_ble_eq_true rfl) (lv := [(0, .ref (g_ad G 49)), (1, .int a1), (2, .int a2), (3, .int a3), (4, .int a4), (5, .int a5)]) rfl ?_
  intro p e s m below meth c cx hr hW hS ls hl
  obtain ⟨hx, hb, hml, hown, hts, hKK, hSS, hlk⟩ := id cx
  refine lv_iload_n hx hb dX8_copy_0 rfl (lv_at hl 1 rfl) ?_
  obtain ⟨r2, hc1, hF⟩ := bi_e hF
  refine x_goi (x_runS cx hW hS (c_X8_isSheet (l := l) (G := G) hc1) cs_X8_266 (rest := []) ⟨Nat.le_of_ble_eq_true rfl, Nat.le_of_ble_eq_true rfl⟩ hl.1 rfl rfl (Nat.le_of_ble_eq_true rfl) ⟨Nat.zero_le _, Nat.zero_le _⟩ dX8_copy_1) hS (fun H locs hW hS => ?_)
  refine lv_if_eq (tgt := 14) hx hb dX8_copy_4 (by decide) (fun c3 => ?_) (fun c3 => ?_)
  · have hF := it_p c3 hF
    refine lv_aload_n hx hb dX8_copy_14 rfl (lv_at hl 0 rfl) ?_
    refine x_ldc cx q_k_X8_56 dX8_copy_15 ?_
    obtain ⟨r5, M6, hc4, hF⟩ := bn_e hF
    refine x_goi (x_runV cx hW hS (c_X8_finds (l := l) (G := G) hc4) cv_X8_83 kc_49 rfl (rest := []) ⟨Nat.le_of_ble_eq_true rfl, Nat.le_of_ble_eq_true rfl⟩ hl.1 rfl rfl (Nat.le_of_ble_eq_true rfl) ⟨Nat.zero_le _, Nat.zero_le _⟩ dX8_copy_17) hS (fun H locs hW hS => ?_)
    exact x_iret cx hr hW hS (sp_1 hF) (sp_2 hF) dX8_copy_20
  · have hF := it_n c3 hF
    refine lv_iload_n hx hb dX8_copy_7 rfl (lv_at hl 3 rfl) ?_
    obtain ⟨r8, hc7, hF⟩ := bi_e hF
    refine x_goi (x_runS cx hW hS (c_X8_isSheet (l := l) (G := G) hc7) cs_X8_266 (rest := []) ⟨Nat.le_of_ble_eq_true rfl, Nat.le_of_ble_eq_true rfl⟩ hl.1 rfl rfl (Nat.le_of_ble_eq_true rfl) ⟨Nat.zero_le _, Nat.zero_le _⟩ dX8_copy_8) hS (fun H locs hW hS => ?_)
    refine lv_if_ne (tgt := 21) hx hb dX8_copy_11 (by decide) (fun c9 => ?_) (fun c9 => ?_)
    · have hF := it_n c9 hF
      refine lv_aload_n hx hb dX8_copy_21 rfl (lv_at hl 0 rfl) ?_
      refine x_get cx hW kc_49 fk_X8_37 (v := .ref (g_ad G 59)) rfl dX8_copy_22 ?_
      refine lv_iload_n hx hb dX8_copy_25 rfl (lv_at hl 1 rfl) ?_
      obtain ⟨j10, hj10, gj10, hF⟩ := ix_e hF
      refine x_iald cx hW kc_59 (by decide) hj10 gj10 dX8_copy_26 ?_
      refine lv_if_eq (tgt := 39) hx hb dX8_copy_27 (by decide) (fun c11 => ?_) (fun c11 => ?_)
      · have hF := it_p c11 hF
        refine lv_aload_n hx hb dX8_copy_39 rfl (lv_at hl 0 rfl) ?_
        refine x_ldcw cx q_k_X8_270 dX8_copy_40 ?_
        obtain ⟨r13, M14, hc12, hF⟩ := bn_e hF
        refine x_goi (x_runV cx hW hS (c_X8_finds (l := l) (G := G) hc12) cv_X8_83 kc_49 rfl (rest := []) ⟨Nat.le_of_ble_eq_true rfl, Nat.le_of_ble_eq_true rfl⟩ hl.1 rfl rfl (Nat.le_of_ble_eq_true rfl) ⟨Nat.zero_le _, Nat.zero_le _⟩ dX8_copy_43) hS (fun H locs hW hS => ?_)
        exact x_iret cx hr hW hS (sp_1 hF) (sp_2 hF) dX8_copy_46
      · have hF := it_n c11 hF
        refine lv_aload_n hx hb dX8_copy_30 rfl (lv_at hl 0 rfl) ?_
        refine x_get cx hW kc_49 fk_X8_37 (v := .ref (g_ad G 59)) rfl dX8_copy_31 ?_
        refine lv_iload_n hx hb dX8_copy_34 rfl (lv_at hl 3 rfl) ?_
        obtain ⟨j15, hj15, gj15, hF⟩ := ix_e hF
        refine x_iald cx hW kc_59 (by decide) hj15 gj15 dX8_copy_35 ?_
        refine lv_if_ne (tgt := 47) hx hb dX8_copy_36 (by decide) (fun c16 => ?_) (fun c16 => ?_)
        · have hF := it_n c16 hF
          refine lv_aload_n hx hb dX8_copy_47 rfl (lv_at hl 0 rfl) ?_
          refine x_get cx hW kc_49 fk_X8_37 (v := .ref (g_ad G 59)) rfl dX8_copy_48 ?_
          refine lv_iload_n hx hb dX8_copy_51 rfl (lv_at hl 1 rfl) ?_
          obtain ⟨j17, hj17, gj17, hF⟩ := ix_e hF
          refine x_iald cx hW kc_59 (by decide) hj17 gj17 dX8_copy_52 ?_
          refine lv_aload_n hx hb dX8_copy_53 rfl (lv_at hl 0 rfl) ?_
          refine x_get cx hW kc_49 fk_X8_37 (v := .ref (g_ad G 59)) rfl dX8_copy_54 ?_
          refine lv_iload_n hx hb dX8_copy_57 rfl (lv_at hl 3 rfl) ?_
          obtain ⟨j18, hj18, gj18, hF⟩ := ix_e hF
          refine x_iald cx hW kc_59 (by decide) hj18 gj18 dX8_copy_58 ?_
          refine lv_icmp_eq (tgt := 69) hx hb dX8_copy_59 (by decide) (fun c19 => ?_) (fun c19 => ?_)
          · have hF := it_p c19 hF
            refine lv_aload_n hx hb dX8_copy_69 rfl (lv_at hl 0 rfl) ?_
            refine lv_iload_n hx hb dX8_copy_70 rfl (lv_at hl 1 rfl) ?_
            refine lv_iload_n hx hb dX8_copy_71 rfl (lv_at hl 2 rfl) ?_
            refine lv_iload hx hb dX8_copy_72 (lv_at hl 5 rfl) ?_
            obtain ⟨r21, hc20, hF⟩ := bi_e hF
            refine x_goi (x_runV cx hW hS (c_X8_isPart (l := l) (G := G) hc20) cv_X8_275 kc_49 rfl (rest := []) ⟨Nat.le_of_ble_eq_true rfl, Nat.le_of_ble_eq_true rfl⟩ hl.1 rfl rfl (Nat.le_of_ble_eq_true rfl) ⟨Nat.zero_le _, Nat.zero_le _⟩ dX8_copy_74) hS (fun H locs hW hS => ?_)
            refine lv_if_eq (tgt := 92) hx hb dX8_copy_77 (by decide) (fun c22 => ?_) (fun c22 => ?_)
            · have hF := it_p c22 hF
              refine lv_aload_n hx hb dX8_copy_92 rfl (lv_at hl 0 rfl) ?_
              refine x_ldc cx q_k_X8_56 dX8_copy_93 ?_
              obtain ⟨r24, M25, hc23, hF⟩ := bn_e hF
              refine x_goi (x_runV cx hW hS (c_X8_finds (l := l) (G := G) hc23) cv_X8_83 kc_49 rfl (rest := []) ⟨Nat.le_of_ble_eq_true rfl, Nat.le_of_ble_eq_true rfl⟩ hl.1 rfl rfl (Nat.le_of_ble_eq_true rfl) ⟨Nat.zero_le _, Nat.zero_le _⟩ dX8_copy_95) hS (fun H locs hW hS => ?_)
              exact x_iret cx hr hW hS (sp_1 hF) (sp_2 hF) dX8_copy_98
            · have hF := it_n c22 hF
              refine lv_aload_n hx hb dX8_copy_80 rfl (lv_at hl 0 rfl) ?_
              refine lv_iload_n hx hb dX8_copy_81 rfl (lv_at hl 3 rfl) ?_
              refine lv_iload hx hb dX8_copy_82 (lv_at hl 4 rfl) ?_
              refine lv_iload hx hb dX8_copy_84 (lv_at hl 5 rfl) ?_
              obtain ⟨r27, hc26, hF⟩ := bi_e hF
              refine x_goi (x_runV cx hW hS (c_X8_isPart (l := l) (G := G) hc26) cv_X8_275 kc_49 rfl (rest := []) ⟨Nat.le_of_ble_eq_true rfl, Nat.le_of_ble_eq_true rfl⟩ hl.1 rfl rfl (Nat.le_of_ble_eq_true rfl) ⟨Nat.zero_le _, Nat.zero_le _⟩ dX8_copy_86) hS (fun H locs hW hS => ?_)
              refine lv_if_ne (tgt := 99) hx hb dX8_copy_89 (by decide) (fun c28 => ?_) (fun c28 => ?_)
              · have hF := it_n c28 hF
                refine lv_iconst (v := (0 : Int32)) hx hb dX8_copy_99 (by decide) ?_
                refine lv_istore (lv' := [(6, .int (0 : Int32)), (0, .ref (g_ad G 49)), (1, .int a1), (2, .int a2), (3, .int a3), (4, .int a4), (5, .int a5)]) hx hb dX8_copy_100 hl (by decide) rfl (fun ls hl => ?_)
                exact t_X8_copy_102 cx hr FU (0 : Int32) M hF _ _ _ hW hS (lv_sub hl [1, 2, 3, 4, 5, 6, 0] rfl)
              · have hF := it_p c28 hF
                refine lv_aload_n hx hb dX8_copy_92 rfl (lv_at hl 0 rfl) ?_
                refine x_ldc cx q_k_X8_56 dX8_copy_93 ?_
                obtain ⟨r38, M39, hc37, hF⟩ := bn_e hF
                refine x_goi (x_runV cx hW hS (c_X8_finds (l := l) (G := G) hc37) cv_X8_83 kc_49 rfl (rest := []) ⟨Nat.le_of_ble_eq_true rfl, Nat.le_of_ble_eq_true rfl⟩ hl.1 rfl rfl (Nat.le_of_ble_eq_true rfl) ⟨Nat.zero_le _, Nat.zero_le _⟩ dX8_copy_95) hS (fun H locs hW hS => ?_)
                exact x_iret cx hr hW hS (sp_1 hF) (sp_2 hF) dX8_copy_98
          · have hF := it_n c19 hF
            refine lv_aload_n hx hb dX8_copy_62 rfl (lv_at hl 0 rfl) ?_
            refine x_ldc cx q_k_X8_101 dX8_copy_63 ?_
            obtain ⟨r41, M42, hc40, hF⟩ := bn_e hF
            refine x_goi (x_runV cx hW hS (c_X8_finds (l := l) (G := G) hc40) cv_X8_83 kc_49 rfl (rest := []) ⟨Nat.le_of_ble_eq_true rfl, Nat.le_of_ble_eq_true rfl⟩ hl.1 rfl rfl (Nat.le_of_ble_eq_true rfl) ⟨Nat.zero_le _, Nat.zero_le _⟩ dX8_copy_65) hS (fun H locs hW hS => ?_)
            exact x_iret cx hr hW hS (sp_1 hF) (sp_2 hF) dX8_copy_68
        · have hF := it_p c16 hF
          refine lv_aload_n hx hb dX8_copy_39 rfl (lv_at hl 0 rfl) ?_
          refine x_ldcw cx q_k_X8_270 dX8_copy_40 ?_
          obtain ⟨r44, M45, hc43, hF⟩ := bn_e hF
          refine x_goi (x_runV cx hW hS (c_X8_finds (l := l) (G := G) hc43) cv_X8_83 kc_49 rfl (rest := []) ⟨Nat.le_of_ble_eq_true rfl, Nat.le_of_ble_eq_true rfl⟩ hl.1 rfl rfl (Nat.le_of_ble_eq_true rfl) ⟨Nat.zero_le _, Nat.zero_le _⟩ dX8_copy_43) hS (fun H locs hW hS => ?_)
          exact x_iret cx hr hW hS (sp_1 hF) (sp_2 hF) dX8_copy_46
    · have hF := it_p c9 hF
      refine lv_aload_n hx hb dX8_copy_14 rfl (lv_at hl 0 rfl) ?_
      refine x_ldc cx q_k_X8_56 dX8_copy_15 ?_
      obtain ⟨r47, M48, hc46, hF⟩ := bn_e hF
      refine x_goi (x_runV cx hW hS (c_X8_finds (l := l) (G := G) hc46) cv_X8_83 kc_49 rfl (rest := []) ⟨Nat.le_of_ble_eq_true rfl, Nat.le_of_ble_eq_true rfl⟩ hl.1 rfl rfl (Nat.le_of_ble_eq_true rfl) ⟨Nat.zero_le _, Nat.zero_le _⟩ dX8_copy_17) hS (fun H locs hW hS => ?_)
      exact x_iret cx hr hW hS (sp_1 hF) (sp_2 hF) dX8_copy_20
def F_X8_badSheet (a1 : Int32) (M : Mem) : Option Int32 := (F_X8_isSheet a1 M).bind (fun r2 => (if r2 = 0 then some (-1000000001 : Int32) else ix 4 a1 (fun j4 => (if (m_I M 59 j4) = 0 then some (-1000000006 : Int32) else some (0 : Int32)))))
set_option maxHeartbeats 4000000 in
set_option maxRecDepth 100000 in
theorem c_X8_badSheet {l : Launch} {G : GG} {a1 : Int32}  {M : Mem} {r : Int32} (hF : F_X8_badSheet a1 M = some r) : Met l yX8_badSheet (wz yX8_badSheet cX8_badSheet 2 (some .int)) (RM 2 42) (PreC G [.ref (g_ad G 49), .int a1] M) (QcI G r M) 0 0 (g_A G) := by
  rw [F_X8_badSheet] at hF
  refine x_start (by decide) (Nat.le_of_ble_eq_true rfl) (lv := [(0, .ref (g_ad G 49)), (1, .int a1)]) rfl ?_
  intro p e s m below meth c cx hr hW hS ls hl
  obtain ⟨hx, hb, hml, hown, hts, hKK, hSS, hlk⟩ := id cx
  refine lv_iload_n hx hb dX8_badSheet_0 rfl (lv_at hl 1 rfl) ?_
  obtain ⟨r2, hc1, hF⟩ := bi_e hF
  refine x_goi (x_runS cx hW hS (c_X8_isSheet (l := l) (G := G) hc1) cs_X8_266 (rest := []) ⟨Nat.le_of_ble_eq_true rfl, Nat.le_of_ble_eq_true rfl⟩ hl.1 rfl rfl (Nat.le_of_ble_eq_true rfl) ⟨Nat.zero_le _, Nat.zero_le _⟩ dX8_badSheet_1) hS (fun H locs hW hS => ?_)
  refine lv_if_ne (tgt := 12) hx hb dX8_badSheet_4 (by decide) (fun c3 => ?_) (fun c3 => ?_)
  · have hF := it_n c3 hF
    refine lv_aload_n hx hb dX8_badSheet_12 rfl (lv_at hl 0 rfl) ?_
    refine x_get cx hW kc_49 fk_X8_37 (v := .ref (g_ad G 59)) rfl dX8_badSheet_13 ?_
    refine lv_iload_n hx hb dX8_badSheet_16 rfl (lv_at hl 1 rfl) ?_
    obtain ⟨j4, hj4, gj4, hF⟩ := ix_e hF
    refine x_iald cx hW kc_59 (by decide) hj4 gj4 dX8_badSheet_17 ?_
    refine lv_if_ne (tgt := 27) hx hb dX8_badSheet_18 (by decide) (fun c5 => ?_) (fun c5 => ?_)
    · have hF := it_n c5 hF
      refine lv_iconst (v := (0 : Int32)) hx hb dX8_badSheet_27 (by decide) ?_
      exact x_iret cx hr hW hS (Option.some.inj hF) rfl dX8_badSheet_28
    · have hF := it_p c5 hF
      refine x_ldcw cx q_k_X8_270 dX8_badSheet_21 ?_
      refine lv_goto (tgt := 28) hx hb dX8_badSheet_24 (by decide) ?_
      exact x_iret cx hr hW hS (Option.some.inj hF) rfl dX8_badSheet_28
  · have hF := it_p c3 hF
    refine x_ldc cx q_k_X8_56 dX8_badSheet_7 ?_
    refine lv_goto (tgt := 28) hx hb dX8_badSheet_9 (by decide) ?_
    exact x_iret cx hr hW hS (Option.some.inj hF) rfl dX8_badSheet_28
def F_X8_lays_171 (a1 : Int32) : Nat → Int32 → Int32 → Mem → Option (Int32 × Mem)
  | 0, _, _, _ => none
  | n + 1, x3, x6, M => (if x3 ≤ x6 then (F_X8_ownSet M).bind (fun r11 => (F_X8_bits r11 M).bind (fun r13 => some (r13, M))) else ix 160 (((40 : Int32) * a1) + x6) (fun j14 => (F_X8_puts x6 (5 : Int32) ((m_J M 61 j14).toInt32) M).bind (fun M16 => F_X8_lays_171 a1 n x3 (x6 + 1) M16)))
set_option maxHeartbeats 4000000 in
set_option maxRecDepth 100000 in
theorem t_X8_lays_171 {p : Program} {l : Launch} {e : Env} {s : State} {m : MethodId} {args : Array Value} {below : List Frame} {meth : Method} {c : Code} {G : GG} {a1 : Int32} (cx : Cx G cX8_lays RX8 10 p s m args meth c) (hr : meth.sig.returnType = (some .int))   {r : Int32} {M1 : Mem} : ∀ (n : Nat) (x3 : Int32) (x6 : Int32) (M : Mem), F_X8_lays_171 a1 n x3 x6 M = some (r, M1) → ∀ (H : Heap) (locs : List Loc) (ls : Array Slot), WH G M H → va_S (g_A G) s.heap H locs → lv_has ls 10 [(0, .ref (g_ad G 49)), (1, .int a1), (3, .int x3), (6, .int x6)] → W p l e (RM 3 65) s m args below meth c H locs 0 0 (MQ below (QcI G r M1) args s 0 0 (g_A G)) (F0 m 171 ls []) := by
  obtain ⟨hx, hb, hml, hown, hts, hKK, hSS, hlk⟩ := id cx
  intro n
  induction n with
  | zero =>
    intro x3 x6 M hF H locs ls hW hS hl
    rw [F_X8_lays_171] at hF
    cases hF
  | succ n ih =>
    intro x3 x6 M hF H locs ls hW hS hl
    rw [F_X8_lays_171] at hF
    refine lv_iload hx hb dX8_lays_171 (lv_at hl 3 rfl) ?_
    refine lv_iload_n hx hb dX8_lays_173 rfl (lv_at hl 2 rfl) ?_
    refine lv_icmp_ge (tgt := 203) hx hb dX8_lays_174 (by decide) (fun c9 => ?_) (fun c9 => ?_)
    · have hF := it_p c9 hF
      refine lv_aload_n hx hb dX8_lays_203 rfl (lv_at hl 0 rfl) ?_
      obtain ⟨r11, hc10, hF⟩ := bi_e hF
      refine x_goi (x_runV cx hW hS (c_X8_ownSet (l := l) (G := G) hc10) cv_X8_111 kc_49 rfl (rest := []) ⟨Nat.le_of_ble_eq_true rfl, Nat.le_of_ble_eq_true rfl⟩ hl.1 rfl rfl (Nat.le_of_ble_eq_true rfl) ⟨Nat.zero_le _, Nat.zero_le _⟩ dX8_lays_204) hS (fun H locs hW hS => ?_)
      obtain ⟨r13, hc12, hF⟩ := bi_e hF
      refine x_goi (x_runS cx hW hS (c_X8_bits (l := l) (G := G) hc12) cs_X8_115 (rest := []) ⟨Nat.le_of_ble_eq_true rfl, Nat.le_of_ble_eq_true rfl⟩ hl.1 rfl rfl (Nat.le_of_ble_eq_true rfl) ⟨Nat.zero_le _, Nat.zero_le _⟩ dX8_lays_207) hS (fun H locs hW hS => ?_)
      exact x_iret cx hr hW hS (sp_1 hF) (sp_2 hF) dX8_lays_210
    · have hF := it_n c9 hF
      refine lv_aload_n hx hb dX8_lays_177 rfl (lv_at hl 0 rfl) ?_
      refine lv_iload hx hb dX8_lays_178 (lv_at hl 3 rfl) ?_
      refine lv_iconst (v := (5 : Int32)) hx hb dX8_lays_180 (by decide) ?_
      refine lv_aload_n hx hb dX8_lays_181 rfl (lv_at hl 0 rfl) ?_
      refine x_get cx hW kc_49 fk_X8_43 (v := .ref (g_ad G 61)) rfl dX8_lays_182 ?_
      refine lv_bipush (v := (40 : Int32)) hx hb dX8_lays_185 (by decide) ?_
      refine lv_iload_n hx hb dX8_lays_187 rfl (lv_at hl 1 rfl) ?_
      refine lv_imul hx hb dX8_lays_188 ?_
      refine lv_iload hx hb dX8_lays_189 (lv_at hl 3 rfl) ?_
      refine lv_iadd hx hb dX8_lays_191 ?_
      obtain ⟨j14, hj14, gj14, hF⟩ := ix_e hF
      refine x_lald cx hW kc_61 (by decide) hj14 gj14 dX8_lays_192 ?_
      refine lv_l2i hx hb dX8_lays_193 rfl ?_
      obtain ⟨M16, hc15, hF⟩ := bi_e hF
      refine x_gov (x_runV cx hW hS (c_X8_puts (l := l) (G := G) hc15) cv_X8_76 kc_49 rfl (rest := []) ⟨Nat.le_of_ble_eq_true rfl, Nat.le_of_ble_eq_true rfl⟩ hl.1 rfl rfl (Nat.le_of_ble_eq_true rfl) ⟨Nat.zero_le _, Nat.zero_le _⟩ dX8_lays_194) hS (fun H locs hW hS => ?_)
      refine lv_iinc (v := (x6 + 1)) (lv' := [(6, .int (x6 + 1)), (0, .ref (g_ad G 49)), (1, .int a1), (3, .int x3)]) hx hb dX8_lays_197 hl (k := 3) rfl rfl (by decide) rfl (fun ls hl => ?_)
      refine lv_goto (tgt := 171) hx hb dX8_lays_200 (by decide) ?_
      exact ih x3 (x6 + 1) M16 hF _ _ _ hW hS (lv_sub hl [1, 2, 3, 0] rfl)
def F_X8_lays_130 (a1 : Int32) (k50 : Int32 → Int32 → Int32 → Int32 → Mem → Option (Int32 × Mem)) (x3 : Int32) (x4 : Int32) (x6 : Int32) (x9 : Int32) (t0 : Int32) (M : Mem) : Option (Int32 × Mem) := (if t0 = 0 then k50 x3 (x4 ||| (0 : Int32)) t0 (x6 + 1) M else k50 x3 (x4 ||| ((1 : Int32) <<< (x9 &&& 31))) t0 (x6 + 1) M)
set_option maxHeartbeats 4000000 in
set_option maxRecDepth 100000 in
theorem t_X8_lays_130 {p : Program} {l : Launch} {e : Env} {s : State} {m : MethodId} {args : Array Value} {below : List Frame} {meth : Method} {c : Code} {G : GG} {a1 : Int32} (cx : Cx G cX8_lays RX8 10 p s m args meth c) (hr : meth.sig.returnType = (some .int))   {r : Int32} {M1 : Mem} {k50 : Int32 → Int32 → Int32 → Int32 → Mem → Option (Int32 × Mem)} (hk50 : ∀ (x3 : Int32) (x4 : Int32) (x5 : Int32) (x6 : Int32) (M : Mem), k50 x3 x4 x5 x6 M = some (r, M1) → ∀ (H : Heap) (locs : List Loc) (ls : Array Slot), WH G M H → va_S (g_A G) s.heap H locs → lv_has ls 10 [(0, .ref (g_ad G 49)), (1, .int a1), (3, .int x3), (4, .int x4), (5, .int x5), (6, .int x6)] → W p l e (RM 3 65) s m args below meth c H locs 0 0 (MQ below (QcI G r M1) args s 0 0 (g_A G)) (F0 m 50 ls [])) : ∀ (x3 : Int32) (x4 : Int32) (x6 : Int32) (x9 : Int32) (t0 : Int32) (M : Mem), F_X8_lays_130 a1 k50 x3 x4 x6 x9 t0 M = some (r, M1) → ∀ (H : Heap) (locs : List Loc) (ls : Array Slot), WH G M H → va_S (g_A G) s.heap H locs → lv_has ls 10 [(0, .ref (g_ad G 49)), (1, .int a1), (3, .int x3), (4, .int x4), (6, .int x6), (9, .int x9)] → W p l e (RM 3 65) s m args below meth c H locs 0 0 (MQ below (QcI G r M1) args s 0 0 (g_A G)) (F0 m 130 ls [.int t0]) := by
  obtain ⟨hx, hb, hml, hown, hts, hKK, hSS, hlk⟩ := id cx
  intro x3 x4 x6 x9 t0 M hF H locs ls hW hS hl
  rw [F_X8_lays_130] at hF
  refine lv_istore (lv' := [(5, .int t0), (0, .ref (g_ad G 49)), (1, .int a1), (3, .int x3), (4, .int x4), (6, .int x6), (9, .int x9)]) hx hb dX8_lays_130 hl (by decide) rfl (fun ls hl => ?_)
  refine lv_iload hx hb dX8_lays_132 (lv_at hl 4 rfl) ?_
  refine lv_iload hx hb dX8_lays_134 (lv_at hl 0 rfl) ?_
  refine lv_if_eq (tgt := 146) hx hb dX8_lays_136 (by decide) (fun c28 => ?_) (fun c28 => ?_)
  · have hF := it_p c28 hF
    refine lv_iconst (v := (0 : Int32)) hx hb dX8_lays_146 (by decide) ?_
    refine lv_ior hx hb dX8_lays_147 ?_
    refine lv_istore (lv' := [(4, .int (x4 ||| (0 : Int32))), (5, .int t0), (0, .ref (g_ad G 49)), (1, .int a1), (3, .int x3), (6, .int x6), (9, .int x9)]) hx hb dX8_lays_148 hl (by decide) rfl (fun ls hl => ?_)
    refine lv_iinc (v := (x6 + 1)) (lv' := [(6, .int (x6 + 1)), (4, .int (x4 ||| (0 : Int32))), (5, .int t0), (0, .ref (g_ad G 49)), (1, .int a1), (3, .int x3), (9, .int x9)]) hx hb dX8_lays_150 hl (k := 5) rfl rfl (by decide) rfl (fun ls hl => ?_)
    refine lv_goto (tgt := 50) hx hb dX8_lays_153 (by decide) ?_
    exact hk50 x3 (x4 ||| (0 : Int32)) t0 (x6 + 1) M hF _ _ _ hW hS (lv_sub hl [3, 4, 5, 1, 2, 0] rfl)
  · have hF := it_n c28 hF
    refine lv_iconst (v := (1 : Int32)) hx hb dX8_lays_139 (by decide) ?_
    refine lv_iload hx hb dX8_lays_140 (lv_at hl 6 rfl) ?_
    refine lv_ishl hx hb dX8_lays_142 ?_
    refine lv_goto (tgt := 147) hx hb dX8_lays_143 (by decide) ?_
    refine lv_ior hx hb dX8_lays_147 ?_
    refine lv_istore (lv' := [(4, .int (x4 ||| ((1 : Int32) <<< (x9 &&& 31)))), (5, .int t0), (0, .ref (g_ad G 49)), (1, .int a1), (3, .int x3), (6, .int x6), (9, .int x9)]) hx hb dX8_lays_148 hl (by decide) rfl (fun ls hl => ?_)
    refine lv_iinc (v := (x6 + 1)) (lv' := [(6, .int (x6 + 1)), (4, .int (x4 ||| ((1 : Int32) <<< (x9 &&& 31)))), (5, .int t0), (0, .ref (g_ad G 49)), (1, .int a1), (3, .int x3), (9, .int x9)]) hx hb dX8_lays_150 hl (k := 5) rfl rfl (by decide) rfl (fun ls hl => ?_)
    refine lv_goto (tgt := 50) hx hb dX8_lays_153 (by decide) ?_
    exact hk50 x3 (x4 ||| ((1 : Int32) <<< (x9 &&& 31))) t0 (x6 + 1) M hF _ _ _ hW hS (lv_sub hl [3, 4, 5, 1, 2, 0] rfl)
def F_X8_lays_97 (a1 : Int32) (k50 : Int32 → Int32 → Int32 → Int32 → Mem → Option (Int32 × Mem)) (x3 : Int32) (x4 : Int32) (x6 : Int32) (t0 : Int32) (M : Mem) : Option (Int32 × Mem) := (if t0 < 0 then F_X8_lays_130 a1 k50 x3 x4 x6 t0 (0 : Int32) M else (if ((x4 >>> (t0 &&& 31)) &&& (1 : Int32)) = 0 then (F_X8_areAlike x6 t0 M).bind (fun r31 => (if r31 = 0 then F_X8_lays_130 a1 k50 x3 x4 x6 t0 (0 : Int32) M else F_X8_lays_130 a1 k50 x3 x4 x6 t0 (1 : Int32) M)) else F_X8_lays_130 a1 k50 x3 x4 x6 t0 (0 : Int32) M))
set_option maxHeartbeats 4000000 in
set_option maxRecDepth 100000 in
theorem t_X8_lays_97 {p : Program} {l : Launch} {e : Env} {s : State} {m : MethodId} {args : Array Value} {below : List Frame} {meth : Method} {c : Code} {G : GG} {a1 : Int32} (cx : Cx G cX8_lays RX8 10 p s m args meth c) (hr : meth.sig.returnType = (some .int))   {r : Int32} {M1 : Mem} {k50 : Int32 → Int32 → Int32 → Int32 → Mem → Option (Int32 × Mem)} (hk50 : ∀ (x3 : Int32) (x4 : Int32) (x5 : Int32) (x6 : Int32) (M : Mem), k50 x3 x4 x5 x6 M = some (r, M1) → ∀ (H : Heap) (locs : List Loc) (ls : Array Slot), WH G M H → va_S (g_A G) s.heap H locs → lv_has ls 10 [(0, .ref (g_ad G 49)), (1, .int a1), (3, .int x3), (4, .int x4), (5, .int x5), (6, .int x6)] → W p l e (RM 3 65) s m args below meth c H locs 0 0 (MQ below (QcI G r M1) args s 0 0 (g_A G)) (F0 m 50 ls [])) : ∀ (x3 : Int32) (x4 : Int32) (x6 : Int32) (t0 : Int32) (M : Mem), F_X8_lays_97 a1 k50 x3 x4 x6 t0 M = some (r, M1) → ∀ (H : Heap) (locs : List Loc) (ls : Array Slot), WH G M H → va_S (g_A G) s.heap H locs → lv_has ls 10 [(0, .ref (g_ad G 49)), (1, .int a1), (3, .int x3), (4, .int x4), (6, .int x6)] → W p l e (RM 3 65) s m args below meth c H locs 0 0 (MQ below (QcI G r M1) args s 0 0 (g_A G)) (F0 m 97 ls [.int t0]) := by
  obtain ⟨hx, hb, hml, hown, hts, hKK, hSS, hlk⟩ := id cx
  intro x3 x4 x6 t0 M hF H locs ls hW hS hl
  rw [F_X8_lays_97] at hF
  refine lv_istore (lv' := [(9, .int t0), (0, .ref (g_ad G 49)), (1, .int a1), (3, .int x3), (4, .int x4), (6, .int x6)]) hx hb dX8_lays_97 hl (by decide) rfl (fun ls hl => ?_)
  refine lv_iload hx hb dX8_lays_99 (lv_at hl 0 rfl) ?_
  refine lv_if_lt (tgt := 129) hx hb dX8_lays_101 (by decide) (fun c27 => ?_) (fun c27 => ?_)
  · have hF := it_p c27 hF
    refine lv_iconst (v := (0 : Int32)) hx hb dX8_lays_129 (by decide) ?_
    exact t_X8_lays_130 cx hr hk50 x3 x4 x6 t0 (0 : Int32) M hF _ _ _ hW hS (lv_sub hl [1, 2, 3, 4, 5, 0] rfl)
  · have hF := it_n c27 hF
    refine lv_iload hx hb dX8_lays_104 (lv_at hl 4 rfl) ?_
    refine lv_iload hx hb dX8_lays_106 (lv_at hl 0 rfl) ?_
    refine lv_ishr hx hb dX8_lays_108 ?_
    refine lv_iconst (v := (1 : Int32)) hx hb dX8_lays_109 (by decide) ?_
    refine lv_iand hx hb dX8_lays_110 ?_
    refine lv_if_ne (tgt := 129) hx hb dX8_lays_111 (by decide) (fun c29 => ?_) (fun c29 => ?_)
    · have hF := it_n c29 hF
      refine lv_iconst (v := (0 : Int32)) hx hb dX8_lays_129 (by decide) ?_
      exact t_X8_lays_130 cx hr hk50 x3 x4 x6 t0 (0 : Int32) M hF _ _ _ hW hS (lv_sub hl [1, 2, 3, 4, 5, 0] rfl)
    · have hF := it_p c29 hF
      refine lv_aload_n hx hb dX8_lays_114 rfl (lv_at hl 1 rfl) ?_
      refine lv_iload hx hb dX8_lays_115 (lv_at hl 5 rfl) ?_
      refine lv_iload hx hb dX8_lays_117 (lv_at hl 0 rfl) ?_
      obtain ⟨r31, hc30, hF⟩ := bi_e hF
      refine x_goi (x_runV cx hW hS (c_X8_areAlike (l := l) (G := G) hc30) cv_X8_102 kc_49 rfl (rest := []) ⟨Nat.le_of_ble_eq_true rfl, Nat.le_of_ble_eq_true rfl⟩ hl.1 rfl rfl (Nat.le_of_ble_eq_true rfl) ⟨Nat.zero_le _, Nat.zero_le _⟩ dX8_lays_119) hS (fun H locs hW hS => ?_)
      refine lv_if_eq (tgt := 129) hx hb dX8_lays_122 (by decide) (fun c32 => ?_) (fun c32 => ?_)
      · have hF := it_p c32 hF
        refine lv_iconst (v := (0 : Int32)) hx hb dX8_lays_129 (by decide) ?_
        exact t_X8_lays_130 cx hr hk50 x3 x4 x6 t0 (0 : Int32) M hF _ _ _ hW hS (lv_sub hl [1, 2, 3, 4, 5, 0] rfl)
      · have hF := it_n c32 hF
        refine lv_iconst (v := (1 : Int32)) hx hb dX8_lays_125 (by decide) ?_
        refine lv_goto (tgt := 130) hx hb dX8_lays_126 (by decide) ?_
        exact t_X8_lays_130 cx hr hk50 x3 x4 x6 t0 (1 : Int32) M hF _ _ _ hW hS (lv_sub hl [1, 2, 3, 4, 5, 0] rfl)
def F_X8_lays_50 (a1 : Int32) : Nat → Int32 → Int32 → Int32 → Int32 → Mem → Option (Int32 × Mem)
  | 0, _, _, _, _, _ => none
  | n + 1, x3, x4, x5, x6, M => (if x3 ≤ x6 then (if x5 = 0 then bn (F_X8_finds (-1000000005 : Int32) M) (fun r18 M19 => some (r18, M19)) else F_X8_lays_171 a1 FU x3 (0 : Int32) M) else (if x5 = 0 then (if x5 = 0 then bn (F_X8_finds (-1000000005 : Int32) M) (fun r23 M24 => some (r23, M24)) else F_X8_lays_171 a1 FU x3 (0 : Int32) M) else ix 160 (((40 : Int32) * a1) + x6) (fun j25 => (if (lg_cmp (m_J M 61 j25) (0 : Int64)) < 0 then F_X8_lays_97 a1 (F_X8_lays_50 a1 n) x3 x4 x6 (-1 : Int32) M else (if 0 ≤ (lg_cmp (m_J M 61 j25) (x3.toInt64)) then F_X8_lays_97 a1 (F_X8_lays_50 a1 n) x3 x4 x6 (-1 : Int32) M else F_X8_lays_97 a1 (F_X8_lays_50 a1 n) x3 x4 x6 ((m_J M 61 j25).toInt32) M)))))
set_option maxHeartbeats 4000000 in
set_option maxRecDepth 100000 in
theorem t_X8_lays_50 {p : Program} {l : Launch} {e : Env} {s : State} {m : MethodId} {args : Array Value} {below : List Frame} {meth : Method} {c : Code} {G : GG} {a1 : Int32} (cx : Cx G cX8_lays RX8 10 p s m args meth c) (hr : meth.sig.returnType = (some .int))   {r : Int32} {M1 : Mem} : ∀ (n : Nat) (x3 : Int32) (x4 : Int32) (x5 : Int32) (x6 : Int32) (M : Mem), F_X8_lays_50 a1 n x3 x4 x5 x6 M = some (r, M1) → ∀ (H : Heap) (locs : List Loc) (ls : Array Slot), WH G M H → va_S (g_A G) s.heap H locs → lv_has ls 10 [(0, .ref (g_ad G 49)), (1, .int a1), (3, .int x3), (4, .int x4), (5, .int x5), (6, .int x6)] → W p l e (RM 3 65) s m args below meth c H locs 0 0 (MQ below (QcI G r M1) args s 0 0 (g_A G)) (F0 m 50 ls []) := by
  obtain ⟨hx, hb, hml, hown, hts, hKK, hSS, hlk⟩ := id cx
  intro n
  induction n with
  | zero =>
    intro x3 x4 x5 x6 M hF H locs ls hW hS hl
    rw [F_X8_lays_50] at hF
    cases hF
  | succ n ih =>
    intro x3 x4 x5 x6 M hF H locs ls hW hS hl
    rw [F_X8_lays_50] at hF
    refine lv_iload hx hb dX8_lays_50 (lv_at hl 5 rfl) ?_
    refine lv_iload_n hx hb dX8_lays_52 rfl (lv_at hl 2 rfl) ?_
    refine lv_icmp_ge (tgt := 156) hx hb dX8_lays_53 (by decide) (fun c7 => ?_) (fun c7 => ?_)
    · have hF := it_p c7 hF
      refine lv_iload hx hb dX8_lays_156 (lv_at hl 4 rfl) ?_
      refine lv_if_ne (tgt := 168) hx hb dX8_lays_158 (by decide) (fun c8 => ?_) (fun c8 => ?_)
      · have hF := it_n c8 hF
        refine lv_iconst (v := (0 : Int32)) hx hb dX8_lays_168 (by decide) ?_
        refine lv_istore (lv' := [(6, .int (0 : Int32)), (0, .ref (g_ad G 49)), (1, .int a1), (3, .int x3), (4, .int x4), (5, .int x5)]) hx hb dX8_lays_169 hl (by decide) rfl (fun ls hl => ?_)
        exact t_X8_lays_171 cx hr FU x3 (0 : Int32) M hF _ _ _ hW hS (lv_sub hl [1, 2, 3, 0] rfl)
      · have hF := it_p c8 hF
        refine lv_aload_n hx hb dX8_lays_161 rfl (lv_at hl 0 rfl) ?_
        refine x_ldc cx q_k_X8_106 dX8_lays_162 ?_
        obtain ⟨r18, M19, hc17, hF⟩ := bn_e hF
        refine x_goi (x_runV cx hW hS (c_X8_finds (l := l) (G := G) hc17) cv_X8_83 kc_49 rfl (rest := []) ⟨Nat.le_of_ble_eq_true rfl, Nat.le_of_ble_eq_true rfl⟩ hl.1 rfl rfl (Nat.le_of_ble_eq_true rfl) ⟨Nat.zero_le _, Nat.zero_le _⟩ dX8_lays_164) hS (fun H locs hW hS => ?_)
        exact x_iret cx hr hW hS (sp_1 hF) (sp_2 hF) dX8_lays_167
    · have hF := it_n c7 hF
      refine lv_iload hx hb dX8_lays_56 (lv_at hl 4 rfl) ?_
      refine lv_if_eq (tgt := 156) hx hb dX8_lays_58 (by decide) (fun c20 => ?_) (fun c20 => ?_)
      · have hF := it_p c20 hF
        refine lv_iload hx hb dX8_lays_156 (lv_at hl 4 rfl) ?_
        refine lv_if_ne (tgt := 168) hx hb dX8_lays_158 (by decide) (fun c21 => ?_) (fun c21 => ?_)
        · have hF := it_n c21 hF
          refine lv_iconst (v := (0 : Int32)) hx hb dX8_lays_168 (by decide) ?_
          refine lv_istore (lv' := [(6, .int (0 : Int32)), (0, .ref (g_ad G 49)), (1, .int a1), (3, .int x3), (4, .int x4), (5, .int x5)]) hx hb dX8_lays_169 hl (by decide) rfl (fun ls hl => ?_)
          exact t_X8_lays_171 cx hr FU x3 (0 : Int32) M hF _ _ _ hW hS (lv_sub hl [1, 2, 3, 0] rfl)
        · have hF := it_p c21 hF
          refine lv_aload_n hx hb dX8_lays_161 rfl (lv_at hl 0 rfl) ?_
          refine x_ldc cx q_k_X8_106 dX8_lays_162 ?_
          obtain ⟨r23, M24, hc22, hF⟩ := bn_e hF
          refine x_goi (x_runV cx hW hS (c_X8_finds (l := l) (G := G) hc22) cv_X8_83 kc_49 rfl (rest := []) ⟨Nat.le_of_ble_eq_true rfl, Nat.le_of_ble_eq_true rfl⟩ hl.1 rfl rfl (Nat.le_of_ble_eq_true rfl) ⟨Nat.zero_le _, Nat.zero_le _⟩ dX8_lays_164) hS (fun H locs hW hS => ?_)
          exact x_iret cx hr hW hS (sp_1 hF) (sp_2 hF) dX8_lays_167
      · have hF := it_n c20 hF
        refine lv_aload_n hx hb dX8_lays_61 rfl (lv_at hl 0 rfl) ?_
        refine x_get cx hW kc_49 fk_X8_43 (v := .ref (g_ad G 61)) rfl dX8_lays_62 ?_
        refine lv_bipush (v := (40 : Int32)) hx hb dX8_lays_65 (by decide) ?_
        refine lv_iload_n hx hb dX8_lays_67 rfl (lv_at hl 1 rfl) ?_
        refine lv_imul hx hb dX8_lays_68 ?_
        refine lv_iload hx hb dX8_lays_69 (lv_at hl 5 rfl) ?_
        refine lv_iadd hx hb dX8_lays_71 ?_
        obtain ⟨j25, hj25, gj25, hF⟩ := ix_e hF
        refine x_lald cx hW kc_61 (by decide) hj25 gj25 dX8_lays_72 ?_
        refine lv_lstore (lv' := [(7, .long (m_J M 61 j25)), (0, .ref (g_ad G 49)), (1, .int a1), (3, .int x3), (4, .int x4), (5, .int x5), (6, .int x6)]) hx hb dX8_lays_73 hl (by decide) rfl (fun ls hl => ?_)
        refine lv_lload hx hb dX8_lays_75 (lv_at hl 0 rfl) ?_
        refine lv_lconst (v := (0 : Int64)) hx hb dX8_lays_77 (by decide) ?_
        refine W.lcmp hx hb dX8_lays_78 ?_
        refine lv_if_lt (tgt := 96) hx hb dX8_lays_79 (by decide) (fun c26 => ?_) (fun c26 => ?_)
        · have hF := it_p c26 hF
          refine lv_iconst (v := (-1 : Int32)) hx hb dX8_lays_96 (by decide) ?_
          exact t_X8_lays_97 cx hr ih x3 x4 x6 (-1 : Int32) M hF _ _ _ hW hS (lv_sub hl [1, 2, 3, 4, 6] rfl)
        · have hF := it_n c26 hF
          refine lv_lload hx hb dX8_lays_82 (lv_at hl 0 rfl) ?_
          refine lv_iload_n hx hb dX8_lays_84 rfl (lv_at hl 3 rfl) ?_
          refine lv_i2l hx hb dX8_lays_85 rfl ?_
          refine W.lcmp hx hb dX8_lays_86 ?_
          refine lv_if_ge (tgt := 96) hx hb dX8_lays_87 (by decide) (fun c33 => ?_) (fun c33 => ?_)
          · have hF := it_p c33 hF
            refine lv_iconst (v := (-1 : Int32)) hx hb dX8_lays_96 (by decide) ?_
            exact t_X8_lays_97 cx hr ih x3 x4 x6 (-1 : Int32) M hF _ _ _ hW hS (lv_sub hl [1, 2, 3, 4, 6] rfl)
          · have hF := it_n c33 hF
            refine lv_lload hx hb dX8_lays_90 (lv_at hl 0 rfl) ?_
            refine lv_l2i hx hb dX8_lays_92 rfl ?_
            refine lv_goto (tgt := 97) hx hb dX8_lays_93 (by decide) ?_
            exact t_X8_lays_97 cx hr ih x3 x4 x6 ((m_J M 61 j25).toInt32) M hF _ _ _ hW hS (lv_sub hl [1, 2, 3, 4, 6] rfl)
def F_X8_lays (a1 : Int32) (M : Mem) : Option (Int32 × Mem) := (F_X8_badSheet a1 M).bind (fun r2 => (if r2 = 0 then ix 51 (2 : Int32) (fun j4 => ix 4 a1 (fun j5 => (if (m_I M 60 j5) = (m_I M 50 j4) then F_X8_lays_50 a1 FU (m_I M 50 j4) (0 : Int32) (1 : Int32) (0 : Int32) M else bn (F_X8_finds (-1000000007 : Int32) M) (fun r35 M36 => some (r35, M36))))) else bn (F_X8_finds r2 M) (fun r38 M39 => some (r38, M39))))
set_option maxHeartbeats 4000000 in
set_option maxRecDepth 100000 in
theorem c_X8_lays {l : Launch} {G : GG} {a1 : Int32}  {M : Mem} {r : Int32} {M1 : Mem} (hF : F_X8_lays a1 M = some (r, M1)) : Met l yX8_lays (wz yX8_lays cX8_lays 10 (some .int)) (RM 3 65) (PreC G [.ref (g_ad G 49), .int a1] M) (QcI G r M1) 0 0 (g_A G) := by
  rw [F_X8_lays] at hF
  refine x_start (by decide) (Nat.le_of_ble_eq_true rfl) (lv := [(0, .ref (g_ad G 49)), (1, .int a1)]) rfl ?_
  intro p e s m below meth c cx hr hW hS ls hl
  obtain ⟨hx, hb, hml, hown, hts, hKK, hSS, hlk⟩ := id cx
  refine lv_aload_n hx hb dX8_lays_0 rfl (lv_at hl 0 rfl) ?_
  refine lv_iload_n hx hb dX8_lays_1 rfl (lv_at hl 1 rfl) ?_
  obtain ⟨r2, hc1, hF⟩ := bi_e hF
  refine x_goi (x_runV cx hW hS (c_X8_badSheet (l := l) (G := G) hc1) cv_X8_278 kc_49 rfl (rest := []) ⟨Nat.le_of_ble_eq_true rfl, Nat.le_of_ble_eq_true rfl⟩ hl.1 rfl rfl (Nat.le_of_ble_eq_true rfl) ⟨Nat.zero_le _, Nat.zero_le _⟩ dX8_lays_2) hS (fun H locs hW hS => ?_)
  refine lv_istore_n (lv' := [(2, .int r2), (0, .ref (g_ad G 49)), (1, .int a1)]) hx hb dX8_lays_5 rfl hl (by decide) rfl (fun ls hl => ?_)
  refine lv_iload_n hx hb dX8_lays_6 rfl (lv_at hl 0 rfl) ?_
  refine lv_if_eq (tgt := 16) hx hb dX8_lays_7 (by decide) (fun c3 => ?_) (fun c3 => ?_)
  · have hF := it_p c3 hF
    refine lv_aload_n hx hb dX8_lays_16 rfl (lv_at hl 1 rfl) ?_
    refine x_get cx hW kc_49 fk_X8_7 (v := .ref (g_ad G 50)) rfl dX8_lays_17 ?_
    refine lv_iconst (v := (2 : Int32)) hx hb dX8_lays_20 (by decide) ?_
    obtain ⟨j4, hj4, gj4, hF⟩ := ix_e hF
    refine x_iald cx hW kc_50 (by decide) hj4 gj4 dX8_lays_21 ?_
    refine lv_istore_n (lv' := [(3, .int (m_I M 50 j4)), (2, .int r2), (0, .ref (g_ad G 49)), (1, .int a1)]) hx hb dX8_lays_22 rfl hl (by decide) rfl (fun ls hl => ?_)
    refine lv_aload_n hx hb dX8_lays_23 rfl (lv_at hl 2 rfl) ?_
    refine x_get cx hW kc_49 fk_X8_40 (v := .ref (g_ad G 60)) rfl dX8_lays_24 ?_
    refine lv_iload_n hx hb dX8_lays_27 rfl (lv_at hl 3 rfl) ?_
    obtain ⟨j5, hj5, gj5, hF⟩ := ix_e hF
    refine x_iald cx hW kc_60 (by decide) hj5 gj5 dX8_lays_28 ?_
    refine lv_iload_n hx hb dX8_lays_29 rfl (lv_at hl 0 rfl) ?_
    refine lv_icmp_eq (tgt := 41) hx hb dX8_lays_30 (by decide) (fun c6 => ?_) (fun c6 => ?_)
    · have hF := it_p c6 hF
      refine lv_iconst (v := (0 : Int32)) hx hb dX8_lays_41 (by decide) ?_
      refine lv_istore (lv' := [(4, .int (0 : Int32)), (3, .int (m_I M 50 j4)), (2, .int r2), (0, .ref (g_ad G 49)), (1, .int a1)]) hx hb dX8_lays_42 hl (by decide) rfl (fun ls hl => ?_)
      refine lv_iconst (v := (1 : Int32)) hx hb dX8_lays_44 (by decide) ?_
      refine lv_istore (lv' := [(5, .int (1 : Int32)), (4, .int (0 : Int32)), (3, .int (m_I M 50 j4)), (2, .int r2), (0, .ref (g_ad G 49)), (1, .int a1)]) hx hb dX8_lays_45 hl (by decide) rfl (fun ls hl => ?_)
      refine lv_iconst (v := (0 : Int32)) hx hb dX8_lays_47 (by decide) ?_
      refine lv_istore (lv' := [(6, .int (0 : Int32)), (5, .int (1 : Int32)), (4, .int (0 : Int32)), (3, .int (m_I M 50 j4)), (2, .int r2), (0, .ref (g_ad G 49)), (1, .int a1)]) hx hb dX8_lays_48 hl (by decide) rfl (fun ls hl => ?_)
      exact t_X8_lays_50 cx hr FU (m_I M 50 j4) (0 : Int32) (1 : Int32) (0 : Int32) M hF _ _ _ hW hS (lv_sub hl [5, 6, 3, 2, 1, 0] rfl)
    · have hF := it_n c6 hF
      refine lv_aload_n hx hb dX8_lays_33 rfl (lv_at hl 2 rfl) ?_
      refine x_ldcw cx q_k_X8_269 dX8_lays_34 ?_
      obtain ⟨r35, M36, hc34, hF⟩ := bn_e hF
      refine x_goi (x_runV cx hW hS (c_X8_finds (l := l) (G := G) hc34) cv_X8_83 kc_49 rfl (rest := []) ⟨Nat.le_of_ble_eq_true rfl, Nat.le_of_ble_eq_true rfl⟩ hl.1 rfl rfl (Nat.le_of_ble_eq_true rfl) ⟨Nat.zero_le _, Nat.zero_le _⟩ dX8_lays_37) hS (fun H locs hW hS => ?_)
      exact x_iret cx hr hW hS (sp_1 hF) (sp_2 hF) dX8_lays_40
  · have hF := it_n c3 hF
    refine lv_aload_n hx hb dX8_lays_10 rfl (lv_at hl 1 rfl) ?_
    refine lv_iload_n hx hb dX8_lays_11 rfl (lv_at hl 0 rfl) ?_
    obtain ⟨r38, M39, hc37, hF⟩ := bn_e hF
    refine x_goi (x_runV cx hW hS (c_X8_finds (l := l) (G := G) hc37) cv_X8_83 kc_49 rfl (rest := []) ⟨Nat.le_of_ble_eq_true rfl, Nat.le_of_ble_eq_true rfl⟩ hl.1 rfl rfl (Nat.le_of_ble_eq_true rfl) ⟨Nat.zero_le _, Nat.zero_le _⟩ dX8_lays_12) hS (fun H locs hW hS => ?_)
    exact x_iret cx hr hW hS (sp_1 hF) (sp_2 hF) dX8_lays_15
def F_X8_book_43 (a1 : Int32) (a2 : Int32) : Nat → Int32 → Mem → Option (Int32 × Mem)
  | 0, _, _ => none
  | n + 1, x4, M => ix 4 a1 (fun j9 => (if (m_I M 60 j9) ≤ x4 then (F_X8_moveAll (0 : Int32) 56 M).bind (fun M12 => ix 4 a1 (fun j13 => some ((m_I M12 60 j13), M12))) else ix 4 a1 (fun j14 => (F_X8_its a2 (2 : Int32) M).bind (fun r16 => (F_X8_narrow (m_I M 59 j14) (r16.toInt64) M).bind (fun r18 => ix 160 (((40 : Int32) * a1) + x4) (fun j19 => pin (w_J M 61 j19 r18) (fun M20 => (F_X8_oneFriday M20).bind (fun M22 => F_X8_book_43 a1 a2 n (x4 + 1) M22))))))))
set_option maxHeartbeats 4000000 in
set_option maxRecDepth 100000 in
theorem t_X8_book_43 {p : Program} {l : Launch} {e : Env} {s : State} {m : MethodId} {args : Array Value} {below : List Frame} {meth : Method} {c : Code} {G : GG} {a1 : Int32} {a2 : Int32} (cx : Cx G cX8_book RX8 5 p s m args meth c) (hr : meth.sig.returnType = (some .int))   {r : Int32} {M1 : Mem} : ∀ (n : Nat) (x4 : Int32) (M : Mem), F_X8_book_43 a1 a2 n x4 M = some (r, M1) → ∀ (H : Heap) (locs : List Loc) (ls : Array Slot), WH G M H → va_S (g_A G) s.heap H locs → lv_has ls 5 [(0, .ref (g_ad G 49)), (1, .int a1), (2, .int a2), (4, .int x4)] → W p l e (RM 3 69) s m args below meth c H locs 0 0 (MQ below (QcI G r M1) args s 0 0 (g_A G)) (F0 m 43 ls []) := by
  obtain ⟨hx, hb, hml, hown, hts, hKK, hSS, hlk⟩ := id cx
  intro n
  induction n with
  | zero =>
    intro x4 M hF H locs ls hW hS hl
    rw [F_X8_book_43] at hF
    cases hF
  | succ n ih =>
    intro x4 M hF H locs ls hW hS hl
    rw [F_X8_book_43] at hF
    refine lv_iload hx hb dX8_book_43 (lv_at hl 3 rfl) ?_
    refine lv_aload_n hx hb dX8_book_45 rfl (lv_at hl 0 rfl) ?_
    refine x_get cx hW kc_49 fk_X8_40 (v := .ref (g_ad G 60)) rfl dX8_book_46 ?_
    refine lv_iload_n hx hb dX8_book_49 rfl (lv_at hl 1 rfl) ?_
    obtain ⟨j9, hj9, gj9, hF⟩ := ix_e hF
    refine x_iald cx hW kc_60 (by decide) hj9 gj9 dX8_book_50 ?_
    refine lv_icmp_ge (tgt := 92) hx hb dX8_book_51 (by decide) (fun c10 => ?_) (fun c10 => ?_)
    · have hF := it_p c10 hF
      refine lv_aload_n hx hb dX8_book_92 rfl (lv_at hl 0 rfl) ?_
      refine lv_iconst (v := (0 : Int32)) hx hb dX8_book_93 (by decide) ?_
      refine lv_aload_n hx hb dX8_book_94 rfl (lv_at hl 0 rfl) ?_
      refine x_get cx hW kc_49 fk_X8_28 (v := .ref (g_ad G 56)) rfl dX8_book_95 ?_
      obtain ⟨M12, hc11, hF⟩ := bi_e hF
      refine x_gov (x_runV cx hW hS (c_X8_moveAll (l := l) (G := G) kc_56 hc11) cv_X8_161 kc_49 rfl (rest := []) ⟨Nat.le_of_ble_eq_true rfl, Nat.le_of_ble_eq_true rfl⟩ hl.1 rfl rfl (Nat.le_of_ble_eq_true rfl) ⟨Nat.zero_le _, Nat.zero_le _⟩ dX8_book_98) hS (fun H locs hW hS => ?_)
      refine lv_aload_n hx hb dX8_book_101 rfl (lv_at hl 0 rfl) ?_
      refine x_get cx hW kc_49 fk_X8_40 (v := .ref (g_ad G 60)) rfl dX8_book_102 ?_
      refine lv_iload_n hx hb dX8_book_105 rfl (lv_at hl 1 rfl) ?_
      obtain ⟨j13, hj13, gj13, hF⟩ := ix_e hF
      refine x_iald cx hW kc_60 (by decide) hj13 gj13 dX8_book_106 ?_
      exact x_iret cx hr hW hS (sp_1 hF) (sp_2 hF) dX8_book_107
    · have hF := it_n c10 hF
      refine lv_aload_n hx hb dX8_book_54 rfl (lv_at hl 0 rfl) ?_
      refine x_get cx hW kc_49 fk_X8_43 (v := .ref (g_ad G 61)) rfl dX8_book_55 ?_
      refine lv_bipush (v := (40 : Int32)) hx hb dX8_book_58 (by decide) ?_
      refine lv_iload_n hx hb dX8_book_60 rfl (lv_at hl 1 rfl) ?_
      refine lv_imul hx hb dX8_book_61 ?_
      refine lv_iload hx hb dX8_book_62 (lv_at hl 3 rfl) ?_
      refine lv_iadd hx hb dX8_book_64 ?_
      refine lv_aload_n hx hb dX8_book_65 rfl (lv_at hl 0 rfl) ?_
      refine x_get cx hW kc_49 fk_X8_37 (v := .ref (g_ad G 59)) rfl dX8_book_66 ?_
      refine lv_iload_n hx hb dX8_book_69 rfl (lv_at hl 1 rfl) ?_
      obtain ⟨j14, hj14, gj14, hF⟩ := ix_e hF
      refine x_iald cx hW kc_59 (by decide) hj14 gj14 dX8_book_70 ?_
      refine lv_aload_n hx hb dX8_book_71 rfl (lv_at hl 0 rfl) ?_
      refine lv_iload_n hx hb dX8_book_72 rfl (lv_at hl 2 rfl) ?_
      refine lv_iconst (v := (2 : Int32)) hx hb dX8_book_73 (by decide) ?_
      obtain ⟨r16, hc15, hF⟩ := bi_e hF
      refine x_goi (x_runV cx hW hS (c_X8_its (l := l) (G := G) hc15) cv_X8_61 kc_49 rfl (rest := [.int (m_I M 59 j14), .int (((40 : Int32) * a1) + x4), .ref (g_ad G 61)]) ⟨Nat.le_of_ble_eq_true rfl, Nat.le_of_ble_eq_true rfl⟩ hl.1 rfl rfl (Nat.le_of_ble_eq_true rfl) ⟨Nat.zero_le _, Nat.zero_le _⟩ dX8_book_74) hS (fun H locs hW hS => ?_)
      refine lv_i2l hx hb dX8_book_77 rfl ?_
      obtain ⟨r18, hc17, hF⟩ := bi_e hF
      refine x_gol (x_runS cx hW hS (c_X8_narrow (l := l) (G := G) hc17) cs_X8_271 (rest := [.int (((40 : Int32) * a1) + x4), .ref (g_ad G 61)]) ⟨Nat.le_of_ble_eq_true rfl, Nat.le_of_ble_eq_true rfl⟩ hl.1 rfl rfl (Nat.le_of_ble_eq_true rfl) ⟨Nat.zero_le _, Nat.zero_le _⟩ dX8_book_78) hS (fun H locs hW hS => ?_)
      obtain ⟨j19, hj19, gj19, hF⟩ := ix_e hF
      obtain ⟨M20, eM20, hF⟩ := pin_e hF
      refine x_last cx hW hS kc_61 (by decide) hj19 gj19 eM20 dX8_book_81 (fun H locs hW hS => ?_)
      refine lv_aload_n hx hb dX8_book_82 rfl (lv_at hl 0 rfl) ?_
      obtain ⟨M22, hc21, hF⟩ := bi_e hF
      refine x_gov (x_runV cx hW hS (c_X8_oneFriday (l := l) (G := G) hc21) cv_X8_139 kc_49 rfl (rest := []) ⟨Nat.le_of_ble_eq_true rfl, Nat.le_of_ble_eq_true rfl⟩ hl.1 rfl rfl (Nat.le_of_ble_eq_true rfl) ⟨Nat.zero_le _, Nat.zero_le _⟩ dX8_book_83) hS (fun H locs hW hS => ?_)
      refine lv_iinc (v := (x4 + 1)) (lv' := [(4, .int (x4 + 1)), (0, .ref (g_ad G 49)), (1, .int a1), (2, .int a2)]) hx hb dX8_book_86 hl (k := 3) rfl rfl (by decide) rfl (fun ls hl => ?_)
      refine lv_goto (tgt := 43) hx hb dX8_book_89 (by decide) ?_
      exact ih (x4 + 1) M22 hF _ _ _ hW hS (lv_sub hl [1, 2, 3, 0] rfl)
def F_X8_book (a1 : Int32) (a2 : Int32) (M : Mem) : Option (Int32 × Mem) := (F_X8_badSheet a1 M).bind (fun r2 => (if r2 = 0 then (F_X8_isOne a2 M).bind (fun r5 => (if r5 = 0 then bn (F_X8_finds (-1000000001 : Int32) M) (fun r24 M25 => some (r24, M25)) else (F_X8_moveAll (1 : Int32) 56 M).bind (fun M8 => F_X8_book_43 a1 a2 FU (0 : Int32) M8))) else bn (F_X8_finds r2 M) (fun r27 M28 => some (r27, M28))))
set_option maxHeartbeats 4000000 in
set_option maxRecDepth 100000 in
theorem c_X8_book {l : Launch} {G : GG} {a1 : Int32} {a2 : Int32}  {M : Mem} {r : Int32} {M1 : Mem} (hF : F_X8_book a1 a2 M = some (r, M1)) : Met l yX8_book (wz yX8_book cX8_book 5 (some .int)) (RM 3 69) (PreC G [.ref (g_ad G 49), .int a1, .int a2] M) (QcI G r M1) 0 0 (g_A G) := by
  rw [F_X8_book] at hF
  refine x_start (by decide) (Nat.le_of_ble_eq_true rfl) (lv := [(0, .ref (g_ad G 49)), (1, .int a1), (2, .int a2)]) rfl ?_
  intro p e s m below meth c cx hr hW hS ls hl
  obtain ⟨hx, hb, hml, hown, hts, hKK, hSS, hlk⟩ := id cx
  refine lv_aload_n hx hb dX8_book_0 rfl (lv_at hl 0 rfl) ?_
  refine lv_iload_n hx hb dX8_book_1 rfl (lv_at hl 1 rfl) ?_
  obtain ⟨r2, hc1, hF⟩ := bi_e hF
  refine x_goi (x_runV cx hW hS (c_X8_badSheet (l := l) (G := G) hc1) cv_X8_278 kc_49 rfl (rest := []) ⟨Nat.le_of_ble_eq_true rfl, Nat.le_of_ble_eq_true rfl⟩ hl.1 rfl rfl (Nat.le_of_ble_eq_true rfl) ⟨Nat.zero_le _, Nat.zero_le _⟩ dX8_book_2) hS (fun H locs hW hS => ?_)
  refine lv_istore_n (lv' := [(3, .int r2), (0, .ref (g_ad G 49)), (1, .int a1), (2, .int a2)]) hx hb dX8_book_5 rfl hl (by decide) rfl (fun ls hl => ?_)
  refine lv_iload_n hx hb dX8_book_6 rfl (lv_at hl 0 rfl) ?_
  refine lv_if_eq (tgt := 16) hx hb dX8_book_7 (by decide) (fun c3 => ?_) (fun c3 => ?_)
  · have hF := it_p c3 hF
    refine lv_aload_n hx hb dX8_book_16 rfl (lv_at hl 1 rfl) ?_
    refine lv_iload_n hx hb dX8_book_17 rfl (lv_at hl 3 rfl) ?_
    obtain ⟨r5, hc4, hF⟩ := bi_e hF
    refine x_goi (x_runV cx hW hS (c_X8_isOne (l := l) (G := G) hc4) cv_X8_91 kc_49 rfl (rest := []) ⟨Nat.le_of_ble_eq_true rfl, Nat.le_of_ble_eq_true rfl⟩ hl.1 rfl rfl (Nat.le_of_ble_eq_true rfl) ⟨Nat.zero_le _, Nat.zero_le _⟩ dX8_book_18) hS (fun H locs hW hS => ?_)
    refine lv_if_ne (tgt := 31) hx hb dX8_book_21 (by decide) (fun c6 => ?_) (fun c6 => ?_)
    · have hF := it_n c6 hF
      refine lv_aload_n hx hb dX8_book_31 rfl (lv_at hl 1 rfl) ?_
      refine lv_iconst (v := (1 : Int32)) hx hb dX8_book_32 (by decide) ?_
      refine lv_aload_n hx hb dX8_book_33 rfl (lv_at hl 1 rfl) ?_
      refine x_get cx hW kc_49 fk_X8_28 (v := .ref (g_ad G 56)) rfl dX8_book_34 ?_
      obtain ⟨M8, hc7, hF⟩ := bi_e hF
      refine x_gov (x_runV cx hW hS (c_X8_moveAll (l := l) (G := G) kc_56 hc7) cv_X8_161 kc_49 rfl (rest := []) ⟨Nat.le_of_ble_eq_true rfl, Nat.le_of_ble_eq_true rfl⟩ hl.1 rfl rfl (Nat.le_of_ble_eq_true rfl) ⟨Nat.zero_le _, Nat.zero_le _⟩ dX8_book_37) hS (fun H locs hW hS => ?_)
      refine lv_iconst (v := (0 : Int32)) hx hb dX8_book_40 (by decide) ?_
      refine lv_istore (lv' := [(4, .int (0 : Int32)), (3, .int r2), (0, .ref (g_ad G 49)), (1, .int a1), (2, .int a2)]) hx hb dX8_book_41 hl (by decide) rfl (fun ls hl => ?_)
      exact t_X8_book_43 cx hr FU (0 : Int32) M8 hF _ _ _ hW hS (lv_sub hl [2, 3, 4, 0] rfl)
    · have hF := it_p c6 hF
      refine lv_aload_n hx hb dX8_book_24 rfl (lv_at hl 1 rfl) ?_
      refine x_ldc cx q_k_X8_56 dX8_book_25 ?_
      obtain ⟨r24, M25, hc23, hF⟩ := bn_e hF
      refine x_goi (x_runV cx hW hS (c_X8_finds (l := l) (G := G) hc23) cv_X8_83 kc_49 rfl (rest := []) ⟨Nat.le_of_ble_eq_true rfl, Nat.le_of_ble_eq_true rfl⟩ hl.1 rfl rfl (Nat.le_of_ble_eq_true rfl) ⟨Nat.zero_le _, Nat.zero_le _⟩ dX8_book_27) hS (fun H locs hW hS => ?_)
      exact x_iret cx hr hW hS (sp_1 hF) (sp_2 hF) dX8_book_30
  · have hF := it_n c3 hF
    refine lv_aload_n hx hb dX8_book_10 rfl (lv_at hl 1 rfl) ?_
    refine lv_iload_n hx hb dX8_book_11 rfl (lv_at hl 0 rfl) ?_
    obtain ⟨r27, M28, hc26, hF⟩ := bn_e hF
    refine x_goi (x_runV cx hW hS (c_X8_finds (l := l) (G := G) hc26) cv_X8_83 kc_49 rfl (rest := []) ⟨Nat.le_of_ble_eq_true rfl, Nat.le_of_ble_eq_true rfl⟩ hl.1 rfl rfl (Nat.le_of_ble_eq_true rfl) ⟨Nat.zero_le _, Nat.zero_le _⟩ dX8_book_12) hS (fun H locs hW hS => ?_)
    exact x_iret cx hr hW hS (sp_1 hF) (sp_2 hF) dX8_book_15
def F_X8_isSo_17 (a1 : Int32) : Nat → Int32 → Int32 → Mem → Option (Int32 × Mem)
  | 0, _, _, _ => none
  | n + 1, x2, x3, M => ix 51 (2 : Int32) (fun j5 => (if (m_I M 50 j5) ≤ x3 then (F_X8_moveAll (0 : Int32) 56 M).bind (fun M8 => zb x2 (some (x2, M8))) else ix 4 a1 (fun j10 => (if (m_I M 60 j10) ≤ x3 then (F_X8_moveAll (0 : Int32) 56 M).bind (fun M13 => zb x2 (some (x2, M13))) else (if x2 = 0 then (F_X8_moveAll (0 : Int32) 56 M).bind (fun M17 => zb x2 (some (x2, M17))) else ix 160 (((40 : Int32) * a1) + x3) (fun j19 => (F_X8_its x3 (2 : Int32) M).bind (fun r21 => (if (lg_cmp (m_J M 61 j19) (r21.toInt64)) = 0 then F_X8_isSo_17 a1 n (1 : Int32) (x3 + 1) M else F_X8_isSo_17 a1 n (0 : Int32) (x3 + 1) M))))))))
set_option maxHeartbeats 4000000 in
set_option maxRecDepth 100000 in
theorem t_X8_isSo_17 {p : Program} {l : Launch} {e : Env} {s : State} {m : MethodId} {args : Array Value} {below : List Frame} {meth : Method} {c : Code} {G : GG} {a1 : Int32} (cx : Cx G cX8_isSo RX8 4 p s m args meth c) (hr : meth.sig.returnType = (some .boolean))   {r : Int32} {M1 : Mem} : ∀ (n : Nat) (x2 : Int32) (x3 : Int32) (M : Mem), F_X8_isSo_17 a1 n x2 x3 M = some (r, M1) → ∀ (H : Heap) (locs : List Loc) (ls : Array Slot), WH G M H → va_S (g_A G) s.heap H locs → lv_has ls 4 [(0, .ref (g_ad G 49)), (1, .int a1), (2, .int x2), (3, .int x3)] → W p l e (RM 3 69) s m args below meth c H locs 0 0 (MQ below (QcI G r M1) args s 0 0 (g_A G)) (F0 m 17 ls []) := by
  obtain ⟨hx, hb, hml, hown, hts, hKK, hSS, hlk⟩ := id cx
  intro n
  induction n with
  | zero =>
    intro x2 x3 M hF H locs ls hW hS hl
    rw [F_X8_isSo_17] at hF
    cases hF
  | succ n ih =>
    intro x2 x3 M hF H locs ls hW hS hl
    rw [F_X8_isSo_17] at hF
    refine lv_iload_n hx hb dX8_isSo_17 rfl (lv_at hl 3 rfl) ?_
    refine lv_aload_n hx hb dX8_isSo_18 rfl (lv_at hl 0 rfl) ?_
    refine x_get cx hW kc_49 fk_X8_7 (v := .ref (g_ad G 50)) rfl dX8_isSo_19 ?_
    refine lv_iconst (v := (2 : Int32)) hx hb dX8_isSo_22 (by decide) ?_
    obtain ⟨j5, hj5, gj5, hF⟩ := ix_e hF
    refine x_iald cx hW kc_50 (by decide) hj5 gj5 dX8_isSo_23 ?_
    refine lv_icmp_ge (tgt := 75) hx hb dX8_isSo_24 (by decide) (fun c6 => ?_) (fun c6 => ?_)
    · have hF := it_p c6 hF
      refine lv_aload_n hx hb dX8_isSo_75 rfl (lv_at hl 0 rfl) ?_
      refine lv_iconst (v := (0 : Int32)) hx hb dX8_isSo_76 (by decide) ?_
      refine lv_aload_n hx hb dX8_isSo_77 rfl (lv_at hl 0 rfl) ?_
      refine x_get cx hW kc_49 fk_X8_28 (v := .ref (g_ad G 56)) rfl dX8_isSo_78 ?_
      obtain ⟨M8, hc7, hF⟩ := bi_e hF
      refine x_gov (x_runV cx hW hS (c_X8_moveAll (l := l) (G := G) kc_56 hc7) cv_X8_161 kc_49 rfl (rest := []) ⟨Nat.le_of_ble_eq_true rfl, Nat.le_of_ble_eq_true rfl⟩ hl.1 rfl rfl (Nat.le_of_ble_eq_true rfl) ⟨Nat.zero_le _, Nat.zero_le _⟩ dX8_isSo_81) hS (fun H locs hW hS => ?_)
      refine lv_iload_n hx hb dX8_isSo_84 rfl (lv_at hl 2 rfl) ?_
      obtain ⟨z9, hF⟩ := zb_e hF
      exact x_zret cx hr (nz_b z9) hW hS (sp_1 hF) (sp_2 hF) dX8_isSo_85
    · have hF := it_n c6 hF
      refine lv_iload_n hx hb dX8_isSo_27 rfl (lv_at hl 3 rfl) ?_
      refine lv_aload_n hx hb dX8_isSo_28 rfl (lv_at hl 0 rfl) ?_
      refine x_get cx hW kc_49 fk_X8_40 (v := .ref (g_ad G 60)) rfl dX8_isSo_29 ?_
      refine lv_iload_n hx hb dX8_isSo_32 rfl (lv_at hl 1 rfl) ?_
      obtain ⟨j10, hj10, gj10, hF⟩ := ix_e hF
      refine x_iald cx hW kc_60 (by decide) hj10 gj10 dX8_isSo_33 ?_
      refine lv_icmp_ge (tgt := 75) hx hb dX8_isSo_34 (by decide) (fun c11 => ?_) (fun c11 => ?_)
      · have hF := it_p c11 hF
        refine lv_aload_n hx hb dX8_isSo_75 rfl (lv_at hl 0 rfl) ?_
        refine lv_iconst (v := (0 : Int32)) hx hb dX8_isSo_76 (by decide) ?_
        refine lv_aload_n hx hb dX8_isSo_77 rfl (lv_at hl 0 rfl) ?_
        refine x_get cx hW kc_49 fk_X8_28 (v := .ref (g_ad G 56)) rfl dX8_isSo_78 ?_
        obtain ⟨M13, hc12, hF⟩ := bi_e hF
        refine x_gov (x_runV cx hW hS (c_X8_moveAll (l := l) (G := G) kc_56 hc12) cv_X8_161 kc_49 rfl (rest := []) ⟨Nat.le_of_ble_eq_true rfl, Nat.le_of_ble_eq_true rfl⟩ hl.1 rfl rfl (Nat.le_of_ble_eq_true rfl) ⟨Nat.zero_le _, Nat.zero_le _⟩ dX8_isSo_81) hS (fun H locs hW hS => ?_)
        refine lv_iload_n hx hb dX8_isSo_84 rfl (lv_at hl 2 rfl) ?_
        obtain ⟨z14, hF⟩ := zb_e hF
        exact x_zret cx hr (nz_b z14) hW hS (sp_1 hF) (sp_2 hF) dX8_isSo_85
      · have hF := it_n c11 hF
        refine lv_iload_n hx hb dX8_isSo_37 rfl (lv_at hl 2 rfl) ?_
        refine lv_if_eq (tgt := 75) hx hb dX8_isSo_38 (by decide) (fun c15 => ?_) (fun c15 => ?_)
        · have hF := it_p c15 hF
          refine lv_aload_n hx hb dX8_isSo_75 rfl (lv_at hl 0 rfl) ?_
          refine lv_iconst (v := (0 : Int32)) hx hb dX8_isSo_76 (by decide) ?_
          refine lv_aload_n hx hb dX8_isSo_77 rfl (lv_at hl 0 rfl) ?_
          refine x_get cx hW kc_49 fk_X8_28 (v := .ref (g_ad G 56)) rfl dX8_isSo_78 ?_
          obtain ⟨M17, hc16, hF⟩ := bi_e hF
          refine x_gov (x_runV cx hW hS (c_X8_moveAll (l := l) (G := G) kc_56 hc16) cv_X8_161 kc_49 rfl (rest := []) ⟨Nat.le_of_ble_eq_true rfl, Nat.le_of_ble_eq_true rfl⟩ hl.1 rfl rfl (Nat.le_of_ble_eq_true rfl) ⟨Nat.zero_le _, Nat.zero_le _⟩ dX8_isSo_81) hS (fun H locs hW hS => ?_)
          refine lv_iload_n hx hb dX8_isSo_84 rfl (lv_at hl 2 rfl) ?_
          obtain ⟨z18, hF⟩ := zb_e hF
          exact x_zret cx hr (nz_b z18) hW hS (sp_1 hF) (sp_2 hF) dX8_isSo_85
        · have hF := it_n c15 hF
          refine lv_aload_n hx hb dX8_isSo_41 rfl (lv_at hl 0 rfl) ?_
          refine x_get cx hW kc_49 fk_X8_43 (v := .ref (g_ad G 61)) rfl dX8_isSo_42 ?_
          refine lv_bipush (v := (40 : Int32)) hx hb dX8_isSo_45 (by decide) ?_
          refine lv_iload_n hx hb dX8_isSo_47 rfl (lv_at hl 1 rfl) ?_
          refine lv_imul hx hb dX8_isSo_48 ?_
          refine lv_iload_n hx hb dX8_isSo_49 rfl (lv_at hl 3 rfl) ?_
          refine lv_iadd hx hb dX8_isSo_50 ?_
          obtain ⟨j19, hj19, gj19, hF⟩ := ix_e hF
          refine x_lald cx hW kc_61 (by decide) hj19 gj19 dX8_isSo_51 ?_
          refine lv_aload_n hx hb dX8_isSo_52 rfl (lv_at hl 0 rfl) ?_
          refine lv_iload_n hx hb dX8_isSo_53 rfl (lv_at hl 3 rfl) ?_
          refine lv_iconst (v := (2 : Int32)) hx hb dX8_isSo_54 (by decide) ?_
          obtain ⟨r21, hc20, hF⟩ := bi_e hF
          refine x_goi (x_runV cx hW hS (c_X8_its (l := l) (G := G) hc20) cv_X8_61 kc_49 rfl (rest := [.long (m_J M 61 j19)]) ⟨Nat.le_of_ble_eq_true rfl, Nat.le_of_ble_eq_true rfl⟩ hl.1 rfl rfl (Nat.le_of_ble_eq_true rfl) ⟨Nat.zero_le _, Nat.zero_le _⟩ dX8_isSo_55) hS (fun H locs hW hS => ?_)
          refine lv_i2l hx hb dX8_isSo_58 rfl ?_
          refine W.lcmp hx hb dX8_isSo_59 ?_
          refine lv_if_ne (tgt := 67) hx hb dX8_isSo_60 (by decide) (fun c22 => ?_) (fun c22 => ?_)
          · have hF := it_n c22 hF
            refine lv_iconst (v := (0 : Int32)) hx hb dX8_isSo_67 (by decide) ?_
            refine lv_istore_n (lv' := [(2, .int (0 : Int32)), (0, .ref (g_ad G 49)), (1, .int a1), (3, .int x3)]) hx hb dX8_isSo_68 rfl hl (by decide) rfl (fun ls hl => ?_)
            refine lv_iinc (v := (x3 + 1)) (lv' := [(3, .int (x3 + 1)), (2, .int (0 : Int32)), (0, .ref (g_ad G 49)), (1, .int a1)]) hx hb dX8_isSo_69 hl (k := 3) rfl rfl (by decide) rfl (fun ls hl => ?_)
            refine lv_goto (tgt := 17) hx hb dX8_isSo_72 (by decide) ?_
            exact ih (0 : Int32) (x3 + 1) M hF _ _ _ hW hS (lv_sub hl [2, 3, 1, 0] rfl)
          · have hF := it_p c22 hF
            refine lv_iconst (v := (1 : Int32)) hx hb dX8_isSo_63 (by decide) ?_
            refine lv_goto (tgt := 68) hx hb dX8_isSo_64 (by decide) ?_
            refine lv_istore_n (lv' := [(2, .int (1 : Int32)), (0, .ref (g_ad G 49)), (1, .int a1), (3, .int x3)]) hx hb dX8_isSo_68 rfl hl (by decide) rfl (fun ls hl => ?_)
            refine lv_iinc (v := (x3 + 1)) (lv' := [(3, .int (x3 + 1)), (2, .int (1 : Int32)), (0, .ref (g_ad G 49)), (1, .int a1)]) hx hb dX8_isSo_69 hl (k := 3) rfl rfl (by decide) rfl (fun ls hl => ?_)
            refine lv_goto (tgt := 17) hx hb dX8_isSo_72 (by decide) ?_
            exact ih (1 : Int32) (x3 + 1) M hF _ _ _ hW hS (lv_sub hl [2, 3, 1, 0] rfl)
def F_X8_isSo (a1 : Int32) (M : Mem) : Option (Int32 × Mem) := (F_X8_moveAll (1 : Int32) 56 M).bind (fun M2 => (F_X8_oneFriday M2).bind (fun M4 => F_X8_isSo_17 a1 FU (1 : Int32) (0 : Int32) M4))
set_option maxHeartbeats 4000000 in
set_option maxRecDepth 100000 in
theorem c_X8_isSo {l : Launch} {G : GG} {a1 : Int32}  {M : Mem} {r : Int32} {M1 : Mem} (hF : F_X8_isSo a1 M = some (r, M1)) : Met l yX8_isSo (wz yX8_isSo cX8_isSo 4 (some .boolean)) (RM 3 69) (PreC G [.ref (g_ad G 49), .int a1] M) (QcI G r M1) 0 0 (g_A G) := by
  rw [F_X8_isSo] at hF
  refine x_start (by decide) (Nat.le_of_ble_eq_true rfl) (lv := [(0, .ref (g_ad G 49)), (1, .int a1)]) rfl ?_
  intro p e s m below meth c cx hr hW hS ls hl
  obtain ⟨hx, hb, hml, hown, hts, hKK, hSS, hlk⟩ := id cx
  refine lv_iconst (v := (1 : Int32)) hx hb dX8_isSo_0 (by decide) ?_
  refine lv_istore_n (lv' := [(2, .int (1 : Int32)), (0, .ref (g_ad G 49)), (1, .int a1)]) hx hb dX8_isSo_1 rfl hl (by decide) rfl (fun ls hl => ?_)
  refine lv_aload_n hx hb dX8_isSo_2 rfl (lv_at hl 1 rfl) ?_
  refine lv_iconst (v := (1 : Int32)) hx hb dX8_isSo_3 (by decide) ?_
  refine lv_aload_n hx hb dX8_isSo_4 rfl (lv_at hl 1 rfl) ?_
  refine x_get cx hW kc_49 fk_X8_28 (v := .ref (g_ad G 56)) rfl dX8_isSo_5 ?_
  obtain ⟨M2, hc1, hF⟩ := bi_e hF
  refine x_gov (x_runV cx hW hS (c_X8_moveAll (l := l) (G := G) kc_56 hc1) cv_X8_161 kc_49 rfl (rest := []) ⟨Nat.le_of_ble_eq_true rfl, Nat.le_of_ble_eq_true rfl⟩ hl.1 rfl rfl (Nat.le_of_ble_eq_true rfl) ⟨Nat.zero_le _, Nat.zero_le _⟩ dX8_isSo_8) hS (fun H locs hW hS => ?_)
  refine lv_aload_n hx hb dX8_isSo_11 rfl (lv_at hl 1 rfl) ?_
  obtain ⟨M4, hc3, hF⟩ := bi_e hF
  refine x_gov (x_runV cx hW hS (c_X8_oneFriday (l := l) (G := G) hc3) cv_X8_139 kc_49 rfl (rest := []) ⟨Nat.le_of_ble_eq_true rfl, Nat.le_of_ble_eq_true rfl⟩ hl.1 rfl rfl (Nat.le_of_ble_eq_true rfl) ⟨Nat.zero_le _, Nat.zero_le _⟩ dX8_isSo_12) hS (fun H locs hW hS => ?_)
  refine lv_iconst (v := (0 : Int32)) hx hb dX8_isSo_15 (by decide) ?_
  refine lv_istore_n (lv' := [(3, .int (0 : Int32)), (2, .int (1 : Int32)), (0, .ref (g_ad G 49)), (1, .int a1)]) hx hb dX8_isSo_16 rfl hl (by decide) rfl (fun ls hl => ?_)
  exact t_X8_isSo_17 cx hr FU (1 : Int32) (0 : Int32) M4 hF _ _ _ hW hS (lv_sub hl [2, 3, 1, 0] rfl)
def F_X8_read_37 (a1 : Int32) (a2 : Int32) : Nat → Int32 → Int32 → Mem → Option (Int32 × Mem)
  | 0, _, _, _ => none
  | n + 1, x4, x5, M => ix 51 (2 : Int32) (fun j7 => (if (m_I M 50 j7) ≤ x5 then some (x4, M) else (F_X8_areAlike a2 x5 M).bind (fun r10 => (if r10 = 0 then F_X8_read_37 a1 a2 n x4 (x5 + 1) M else (F_X8_whoHas x5 M).bind (fun r13 => (F_X8_swaps a2 r13 M).bind (fun M15 => bn (F_X8_isSo a1 M15) (fun r17 M18 => (if r17 = 0 then (F_X8_swaps a2 r13 M18).bind (fun M21 => F_X8_read_37 a1 a2 n (x4 + (0 : Int32)) (x5 + 1) M21) else (F_X8_swaps a2 r13 M18).bind (fun M23 => F_X8_read_37 a1 a2 n (x4 + (1 : Int32)) (x5 + 1) M23)))))))))
set_option maxHeartbeats 4000000 in
set_option maxRecDepth 100000 in
theorem t_X8_read_37 {p : Program} {l : Launch} {e : Env} {s : State} {m : MethodId} {args : Array Value} {below : List Frame} {meth : Method} {c : Code} {G : GG} {a1 : Int32} {a2 : Int32} (cx : Cx G cX8_read RX8 7 p s m args meth c) (hr : meth.sig.returnType = (some .int))   {r : Int32} {M1 : Mem} : ∀ (n : Nat) (x4 : Int32) (x5 : Int32) (M : Mem), F_X8_read_37 a1 a2 n x4 x5 M = some (r, M1) → ∀ (H : Heap) (locs : List Loc) (ls : Array Slot), WH G M H → va_S (g_A G) s.heap H locs → lv_has ls 7 [(0, .ref (g_ad G 49)), (1, .int a1), (2, .int a2), (4, .int x4), (5, .int x5)] → W p l e (RM 4 92) s m args below meth c H locs 0 0 (MQ below (QcI G r M1) args s 0 0 (g_A G)) (F0 m 37 ls []) := by
  obtain ⟨hx, hb, hml, hown, hts, hKK, hSS, hlk⟩ := id cx
  intro n
  induction n with
  | zero =>
    intro x4 x5 M hF H locs ls hW hS hl
    rw [F_X8_read_37] at hF
    cases hF
  | succ n ih =>
    intro x4 x5 M hF H locs ls hW hS hl
    rw [F_X8_read_37] at hF
    refine lv_iload hx hb dX8_read_37 (lv_at hl 4 rfl) ?_
    refine lv_aload_n hx hb dX8_read_39 rfl (lv_at hl 0 rfl) ?_
    refine x_get cx hW kc_49 fk_X8_7 (v := .ref (g_ad G 50)) rfl dX8_read_40 ?_
    refine lv_iconst (v := (2 : Int32)) hx hb dX8_read_43 (by decide) ?_
    obtain ⟨j7, hj7, gj7, hF⟩ := ix_e hF
    refine x_iald cx hW kc_50 (by decide) hj7 gj7 dX8_read_44 ?_
    refine lv_icmp_ge (tgt := 104) hx hb dX8_read_45 (by decide) (fun c8 => ?_) (fun c8 => ?_)
    · have hF := it_p c8 hF
      refine lv_iload hx hb dX8_read_104 (lv_at hl 3 rfl) ?_
      exact x_iret cx hr hW hS (sp_1 hF) (sp_2 hF) dX8_read_106
    · have hF := it_n c8 hF
      refine lv_aload_n hx hb dX8_read_48 rfl (lv_at hl 0 rfl) ?_
      refine lv_iload_n hx hb dX8_read_49 rfl (lv_at hl 2 rfl) ?_
      refine lv_iload hx hb dX8_read_50 (lv_at hl 4 rfl) ?_
      obtain ⟨r10, hc9, hF⟩ := bi_e hF
      refine x_goi (x_runV cx hW hS (c_X8_areAlike (l := l) (G := G) hc9) cv_X8_102 kc_49 rfl (rest := []) ⟨Nat.le_of_ble_eq_true rfl, Nat.le_of_ble_eq_true rfl⟩ hl.1 rfl rfl (Nat.le_of_ble_eq_true rfl) ⟨Nat.zero_le _, Nat.zero_le _⟩ dX8_read_52) hS (fun H locs hW hS => ?_)
      refine lv_if_eq (tgt := 98) hx hb dX8_read_55 (by decide) (fun c11 => ?_) (fun c11 => ?_)
      · have hF := it_p c11 hF
        refine lv_iinc (v := (x5 + 1)) (lv' := [(5, .int (x5 + 1)), (0, .ref (g_ad G 49)), (1, .int a1), (2, .int a2), (4, .int x4)]) hx hb dX8_read_98 hl (k := 4) rfl rfl (by decide) rfl (fun ls hl => ?_)
        refine lv_goto (tgt := 37) hx hb dX8_read_101 (by decide) ?_
        exact ih x4 (x5 + 1) M hF _ _ _ hW hS (lv_sub hl [1, 2, 3, 4, 0] rfl)
      · have hF := it_n c11 hF
        refine lv_aload_n hx hb dX8_read_58 rfl (lv_at hl 0 rfl) ?_
        refine lv_iload hx hb dX8_read_59 (lv_at hl 4 rfl) ?_
        obtain ⟨r13, hc12, hF⟩ := bi_e hF
        refine x_goi (x_runV cx hW hS (c_X8_whoHas (l := l) (G := G) hc12) cv_X8_155 kc_49 rfl (rest := []) ⟨Nat.le_of_ble_eq_true rfl, Nat.le_of_ble_eq_true rfl⟩ hl.1 rfl rfl (Nat.le_of_ble_eq_true rfl) ⟨Nat.zero_le _, Nat.zero_le _⟩ dX8_read_61) hS (fun H locs hW hS => ?_)
        refine lv_istore (lv' := [(6, .int r13), (0, .ref (g_ad G 49)), (1, .int a1), (2, .int a2), (4, .int x4), (5, .int x5)]) hx hb dX8_read_64 hl (by decide) rfl (fun ls hl => ?_)
        refine lv_aload_n hx hb dX8_read_66 rfl (lv_at hl 1 rfl) ?_
        refine lv_iload_n hx hb dX8_read_67 rfl (lv_at hl 3 rfl) ?_
        refine lv_iload hx hb dX8_read_68 (lv_at hl 0 rfl) ?_
        obtain ⟨M15, hc14, hF⟩ := bi_e hF
        refine x_gov (x_runV cx hW hS (c_X8_swaps (l := l) (G := G) hc14) cv_X8_107 kc_49 rfl (rest := []) ⟨Nat.le_of_ble_eq_true rfl, Nat.le_of_ble_eq_true rfl⟩ hl.1 rfl rfl (Nat.le_of_ble_eq_true rfl) ⟨Nat.zero_le _, Nat.zero_le _⟩ dX8_read_70) hS (fun H locs hW hS => ?_)
        refine lv_iload hx hb dX8_read_73 (lv_at hl 4 rfl) ?_
        refine lv_aload_n hx hb dX8_read_75 rfl (lv_at hl 1 rfl) ?_
        refine lv_iload_n hx hb dX8_read_76 rfl (lv_at hl 2 rfl) ?_
        obtain ⟨r17, M18, hc16, hF⟩ := bn_e hF
        refine x_goi (x_runV cx hW hS (c_X8_isSo (l := l) (G := G) hc16) cv_X8_281 kc_49 rfl (rest := [.int x4]) ⟨Nat.le_of_ble_eq_true rfl, Nat.le_of_ble_eq_true rfl⟩ hl.1 rfl rfl (Nat.le_of_ble_eq_true rfl) ⟨Nat.zero_le _, Nat.zero_le _⟩ dX8_read_77) hS (fun H locs hW hS => ?_)
        refine lv_if_eq (tgt := 87) hx hb dX8_read_80 (by decide) (fun c19 => ?_) (fun c19 => ?_)
        · have hF := it_p c19 hF
          refine lv_iconst (v := (0 : Int32)) hx hb dX8_read_87 (by decide) ?_
          refine lv_iadd hx hb dX8_read_88 ?_
          refine lv_istore (lv' := [(4, .int (x4 + (0 : Int32))), (6, .int r13), (0, .ref (g_ad G 49)), (1, .int a1), (2, .int a2), (5, .int x5)]) hx hb dX8_read_89 hl (by decide) rfl (fun ls hl => ?_)
          refine lv_aload_n hx hb dX8_read_91 rfl (lv_at hl 2 rfl) ?_
          refine lv_iload_n hx hb dX8_read_92 rfl (lv_at hl 4 rfl) ?_
          refine lv_iload hx hb dX8_read_93 (lv_at hl 1 rfl) ?_
          obtain ⟨M21, hc20, hF⟩ := bi_e hF
          refine x_gov (x_runV cx hW hS (c_X8_swaps (l := l) (G := G) hc20) cv_X8_107 kc_49 rfl (rest := []) ⟨Nat.le_of_ble_eq_true rfl, Nat.le_of_ble_eq_true rfl⟩ hl.1 rfl rfl (Nat.le_of_ble_eq_true rfl) ⟨Nat.zero_le _, Nat.zero_le _⟩ dX8_read_95) hS (fun H locs hW hS => ?_)
          refine lv_iinc (v := (x5 + 1)) (lv' := [(5, .int (x5 + 1)), (4, .int (x4 + (0 : Int32))), (6, .int r13), (0, .ref (g_ad G 49)), (1, .int a1), (2, .int a2)]) hx hb dX8_read_98 hl (k := 5) rfl rfl (by decide) rfl (fun ls hl => ?_)
          refine lv_goto (tgt := 37) hx hb dX8_read_101 (by decide) ?_
          exact ih (x4 + (0 : Int32)) (x5 + 1) M21 hF _ _ _ hW hS (lv_sub hl [3, 4, 5, 1, 0] rfl)
        · have hF := it_n c19 hF
          refine lv_iconst (v := (1 : Int32)) hx hb dX8_read_83 (by decide) ?_
          refine lv_goto (tgt := 88) hx hb dX8_read_84 (by decide) ?_
          refine lv_iadd hx hb dX8_read_88 ?_
          refine lv_istore (lv' := [(4, .int (x4 + (1 : Int32))), (6, .int r13), (0, .ref (g_ad G 49)), (1, .int a1), (2, .int a2), (5, .int x5)]) hx hb dX8_read_89 hl (by decide) rfl (fun ls hl => ?_)
          refine lv_aload_n hx hb dX8_read_91 rfl (lv_at hl 2 rfl) ?_
          refine lv_iload_n hx hb dX8_read_92 rfl (lv_at hl 4 rfl) ?_
          refine lv_iload hx hb dX8_read_93 (lv_at hl 1 rfl) ?_
          obtain ⟨M23, hc22, hF⟩ := bi_e hF
          refine x_gov (x_runV cx hW hS (c_X8_swaps (l := l) (G := G) hc22) cv_X8_107 kc_49 rfl (rest := []) ⟨Nat.le_of_ble_eq_true rfl, Nat.le_of_ble_eq_true rfl⟩ hl.1 rfl rfl (Nat.le_of_ble_eq_true rfl) ⟨Nat.zero_le _, Nat.zero_le _⟩ dX8_read_95) hS (fun H locs hW hS => ?_)
          refine lv_iinc (v := (x5 + 1)) (lv' := [(5, .int (x5 + 1)), (4, .int (x4 + (1 : Int32))), (6, .int r13), (0, .ref (g_ad G 49)), (1, .int a1), (2, .int a2)]) hx hb dX8_read_98 hl (k := 5) rfl rfl (by decide) rfl (fun ls hl => ?_)
          refine lv_goto (tgt := 37) hx hb dX8_read_101 (by decide) ?_
          exact ih (x4 + (1 : Int32)) (x5 + 1) M23 hF _ _ _ hW hS (lv_sub hl [3, 4, 5, 1, 0] rfl)
def F_X8_read (a1 : Int32) (a2 : Int32) (M : Mem) : Option (Int32 × Mem) := (F_X8_badSheet a1 M).bind (fun r2 => (if r2 = 0 then (F_X8_isOne a2 M).bind (fun r5 => (if r5 = 0 then bn (F_X8_finds (-1000000001 : Int32) M) (fun r25 M26 => some (r25, M26)) else F_X8_read_37 a1 a2 FU (0 : Int32) (0 : Int32) M)) else bn (F_X8_finds r2 M) (fun r28 M29 => some (r28, M29))))
set_option maxHeartbeats 4000000 in
set_option maxRecDepth 100000 in
theorem c_X8_read {l : Launch} {G : GG} {a1 : Int32} {a2 : Int32}  {M : Mem} {r : Int32} {M1 : Mem} (hF : F_X8_read a1 a2 M = some (r, M1)) : Met l yX8_read (wz yX8_read cX8_read 7 (some .int)) (RM 4 92) (PreC G [.ref (g_ad G 49), .int a1, .int a2] M) (QcI G r M1) 0 0 (g_A G) := by
  rw [F_X8_read] at hF
  refine x_start (by decide) (Nat.le_of_ble_eq_true rfl) (lv := [(0, .ref (g_ad G 49)), (1, .int a1), (2, .int a2)]) rfl ?_
  intro p e s m below meth c cx hr hW hS ls hl
  obtain ⟨hx, hb, hml, hown, hts, hKK, hSS, hlk⟩ := id cx
  refine lv_aload_n hx hb dX8_read_0 rfl (lv_at hl 0 rfl) ?_
  refine lv_iload_n hx hb dX8_read_1 rfl (lv_at hl 1 rfl) ?_
  obtain ⟨r2, hc1, hF⟩ := bi_e hF
  refine x_goi (x_runV cx hW hS (c_X8_badSheet (l := l) (G := G) hc1) cv_X8_278 kc_49 rfl (rest := []) ⟨Nat.le_of_ble_eq_true rfl, Nat.le_of_ble_eq_true rfl⟩ hl.1 rfl rfl (Nat.le_of_ble_eq_true rfl) ⟨Nat.zero_le _, Nat.zero_le _⟩ dX8_read_2) hS (fun H locs hW hS => ?_)
  refine lv_istore_n (lv' := [(3, .int r2), (0, .ref (g_ad G 49)), (1, .int a1), (2, .int a2)]) hx hb dX8_read_5 rfl hl (by decide) rfl (fun ls hl => ?_)
  refine lv_iload_n hx hb dX8_read_6 rfl (lv_at hl 0 rfl) ?_
  refine lv_if_eq (tgt := 16) hx hb dX8_read_7 (by decide) (fun c3 => ?_) (fun c3 => ?_)
  · have hF := it_p c3 hF
    refine lv_aload_n hx hb dX8_read_16 rfl (lv_at hl 1 rfl) ?_
    refine lv_iload_n hx hb dX8_read_17 rfl (lv_at hl 3 rfl) ?_
    obtain ⟨r5, hc4, hF⟩ := bi_e hF
    refine x_goi (x_runV cx hW hS (c_X8_isOne (l := l) (G := G) hc4) cv_X8_91 kc_49 rfl (rest := []) ⟨Nat.le_of_ble_eq_true rfl, Nat.le_of_ble_eq_true rfl⟩ hl.1 rfl rfl (Nat.le_of_ble_eq_true rfl) ⟨Nat.zero_le _, Nat.zero_le _⟩ dX8_read_18) hS (fun H locs hW hS => ?_)
    refine lv_if_ne (tgt := 31) hx hb dX8_read_21 (by decide) (fun c6 => ?_) (fun c6 => ?_)
    · have hF := it_n c6 hF
      refine lv_iconst (v := (0 : Int32)) hx hb dX8_read_31 (by decide) ?_
      refine lv_istore (lv' := [(4, .int (0 : Int32)), (3, .int r2), (0, .ref (g_ad G 49)), (1, .int a1), (2, .int a2)]) hx hb dX8_read_32 hl (by decide) rfl (fun ls hl => ?_)
      refine lv_iconst (v := (0 : Int32)) hx hb dX8_read_34 (by decide) ?_
      refine lv_istore (lv' := [(5, .int (0 : Int32)), (4, .int (0 : Int32)), (3, .int r2), (0, .ref (g_ad G 49)), (1, .int a1), (2, .int a2)]) hx hb dX8_read_35 hl (by decide) rfl (fun ls hl => ?_)
      exact t_X8_read_37 cx hr FU (0 : Int32) (0 : Int32) M hF _ _ _ hW hS (lv_sub hl [3, 4, 5, 1, 0] rfl)
    · have hF := it_p c6 hF
      refine lv_aload_n hx hb dX8_read_24 rfl (lv_at hl 1 rfl) ?_
      refine x_ldc cx q_k_X8_56 dX8_read_25 ?_
      obtain ⟨r25, M26, hc24, hF⟩ := bn_e hF
      refine x_goi (x_runV cx hW hS (c_X8_finds (l := l) (G := G) hc24) cv_X8_83 kc_49 rfl (rest := []) ⟨Nat.le_of_ble_eq_true rfl, Nat.le_of_ble_eq_true rfl⟩ hl.1 rfl rfl (Nat.le_of_ble_eq_true rfl) ⟨Nat.zero_le _, Nat.zero_le _⟩ dX8_read_27) hS (fun H locs hW hS => ?_)
      exact x_iret cx hr hW hS (sp_1 hF) (sp_2 hF) dX8_read_30
  · have hF := it_n c3 hF
    refine lv_aload_n hx hb dX8_read_10 rfl (lv_at hl 1 rfl) ?_
    refine lv_iload_n hx hb dX8_read_11 rfl (lv_at hl 0 rfl) ?_
    obtain ⟨r28, M29, hc27, hF⟩ := bn_e hF
    refine x_goi (x_runV cx hW hS (c_X8_finds (l := l) (G := G) hc27) cv_X8_83 kc_49 rfl (rest := []) ⟨Nat.le_of_ble_eq_true rfl, Nat.le_of_ble_eq_true rfl⟩ hl.1 rfl rfl (Nat.le_of_ble_eq_true rfl) ⟨Nat.zero_le _, Nat.zero_le _⟩ dX8_read_12) hS (fun H locs hW hS => ?_)
    exact x_iret cx hr hW hS (sp_1 hF) (sp_2 hF) dX8_read_15
def F_X8_image (M : Mem) : Option (Int32 × Mem) := (F_X8_moveAll (1 : Int32) 63 M).bind (fun M2 => pin (w_I M2 49 22 (1 : Int32)) (fun M3 => some ((1 : Int32), M3)))
set_option maxHeartbeats 4000000 in
set_option maxRecDepth 100000 in
theorem c_X8_image {l : Launch} {G : GG}   {M : Mem} {r : Int32} {M1 : Mem} (hF : F_X8_image M = some (r, M1)) : Met l yX8_image (wz yX8_image cX8_image 1 (some .int)) (RM 1 23) (PreC G [.ref (g_ad G 49)] M) (QcI G r M1) 0 0 (g_A G) := by
  rw [F_X8_image] at hF
  refine x_start (by decide) (Nat.le_of_ble_eq_true rfl) (lv := [(0, .ref (g_ad G 49))]) rfl ?_
  intro p e s m below meth c cx hr hW hS ls hl
  obtain ⟨hx, hb, hml, hown, hts, hKK, hSS, hlk⟩ := id cx
  refine lv_aload_n hx hb dX8_image_0 rfl (lv_at hl 0 rfl) ?_
  refine lv_iconst (v := (1 : Int32)) hx hb dX8_image_1 (by decide) ?_
  refine lv_aload_n hx hb dX8_image_2 rfl (lv_at hl 0 rfl) ?_
  refine x_get cx hW kc_49 fk_X8_50 (v := .ref (g_ad G 63)) rfl dX8_image_3 ?_
  obtain ⟨M2, hc1, hF⟩ := bi_e hF
  refine x_gov (x_runV cx hW hS (c_X8_moveAll (l := l) (G := G) kc_63 hc1) cv_X8_161 kc_49 rfl (rest := []) ⟨Nat.le_of_ble_eq_true rfl, Nat.le_of_ble_eq_true rfl⟩ hl.1 rfl rfl (Nat.le_of_ble_eq_true rfl) ⟨Nat.zero_le _, Nat.zero_le _⟩ dX8_image_6) hS (fun H locs hW hS => ?_)
  refine lv_aload_n hx hb dX8_image_9 rfl (lv_at hl 0 rfl) ?_
  refine lv_iconst (v := (1 : Int32)) hx hb dX8_image_10 (by decide) ?_
  obtain ⟨M3, eM3, hF⟩ := pin_e hF
  refine x_putz cx hW hS kc_49 fk_X8_284 ft_6_22 (by decide) (Nat.le_of_ble_eq_true rfl) fs_6_22 eM3 dX8_image_11 (fun H locs hW hS => ?_)
  refine lv_iconst (v := (1 : Int32)) hx hb dX8_image_14 (by decide) ?_
  exact x_iret cx hr hW hS (sp_1 hF) (sp_2 hF) dX8_image_15
def F_X8_undo (M : Mem) : Option (Int32 × Mem) := (if (m_I M 49 22) = 0 then bn (F_X8_finds (-1000000004 : Int32) M) (fun r6 M7 => some (r6, M7)) else (F_X8_moveAll (0 : Int32) 63 M).bind (fun M3 => ix 51 (2 : Int32) (fun j4 => some ((m_I M3 50 j4), M3))))
set_option maxHeartbeats 4000000 in
set_option maxRecDepth 100000 in
theorem c_X8_undo {l : Launch} {G : GG}   {M : Mem} {r : Int32} {M1 : Mem} (hF : F_X8_undo M = some (r, M1)) : Met l yX8_undo (wz yX8_undo cX8_undo 1 (some .int)) (RM 1 23) (PreC G [.ref (g_ad G 49)] M) (QcI G r M1) 0 0 (g_A G) := by
  rw [F_X8_undo] at hF
  refine x_start (by decide) (Nat.le_of_ble_eq_true rfl) (lv := [(0, .ref (g_ad G 49))]) rfl ?_
  intro p e s m below meth c cx hr hW hS ls hl
  obtain ⟨hx, hb, hml, hown, hts, hKK, hSS, hlk⟩ := id cx
  refine lv_aload_n hx hb dX8_undo_0 rfl (lv_at hl 0 rfl) ?_
  refine x_get cx hW kc_49 fk_X8_284 (v := .int (m_I M 49 22)) rfl dX8_undo_1 ?_
  refine lv_if_ne (tgt := 14) hx hb dX8_undo_4 (by decide) (fun c1 => ?_) (fun c1 => ?_)
  · have hF := it_n c1 hF
    refine lv_aload_n hx hb dX8_undo_14 rfl (lv_at hl 0 rfl) ?_
    refine lv_iconst (v := (0 : Int32)) hx hb dX8_undo_15 (by decide) ?_
    refine lv_aload_n hx hb dX8_undo_16 rfl (lv_at hl 0 rfl) ?_
    refine x_get cx hW kc_49 fk_X8_50 (v := .ref (g_ad G 63)) rfl dX8_undo_17 ?_
    obtain ⟨M3, hc2, hF⟩ := bi_e hF
    refine x_gov (x_runV cx hW hS (c_X8_moveAll (l := l) (G := G) kc_63 hc2) cv_X8_161 kc_49 rfl (rest := []) ⟨Nat.le_of_ble_eq_true rfl, Nat.le_of_ble_eq_true rfl⟩ hl.1 rfl rfl (Nat.le_of_ble_eq_true rfl) ⟨Nat.zero_le _, Nat.zero_le _⟩ dX8_undo_20) hS (fun H locs hW hS => ?_)
    refine lv_aload_n hx hb dX8_undo_23 rfl (lv_at hl 0 rfl) ?_
    refine x_get cx hW kc_49 fk_X8_7 (v := .ref (g_ad G 50)) rfl dX8_undo_24 ?_
    refine lv_iconst (v := (2 : Int32)) hx hb dX8_undo_27 (by decide) ?_
    obtain ⟨j4, hj4, gj4, hF⟩ := ix_e hF
    refine x_iald cx hW kc_50 (by decide) hj4 gj4 dX8_undo_28 ?_
    exact x_iret cx hr hW hS (sp_1 hF) (sp_2 hF) dX8_undo_29
  · have hF := it_p c1 hF
    refine lv_aload_n hx hb dX8_undo_7 rfl (lv_at hl 0 rfl) ?_
    refine x_ldc cx q_k_X8_165 dX8_undo_8 ?_
    obtain ⟨r6, M7, hc5, hF⟩ := bn_e hF
    refine x_goi (x_runV cx hW hS (c_X8_finds (l := l) (G := G) hc5) cv_X8_83 kc_49 rfl (rest := []) ⟨Nat.le_of_ble_eq_true rfl, Nat.le_of_ble_eq_true rfl⟩ hl.1 rfl rfl (Nat.le_of_ble_eq_true rfl) ⟨Nat.zero_le _, Nat.zero_le _⟩ dX8_undo_10) hS (fun H locs hW hS => ?_)
    exact x_iret cx hr hW hS (sp_1 hF) (sp_2 hF) dX8_undo_13
def F_X8_tear (M : Mem) : Option (Int32 × Mem) := (if (m_I M 49 22) = 0 then pin (w_I M 49 22 (0 : Int32)) (fun M2 => some ((0 : Int32), M2)) else pin (w_I M 49 22 (0 : Int32)) (fun M3 => some ((1 : Int32), M3)))
set_option maxHeartbeats 4000000 in
set_option maxRecDepth 100000 in
theorem c_X8_tear {l : Launch} {G : GG}   {M : Mem} {r : Int32} {M1 : Mem} (hF : F_X8_tear M = some (r, M1)) : Met l yX8_tear (wz yX8_tear cX8_tear 2 (some .int)) (RM 0 0) (PreC G [.ref (g_ad G 49)] M) (QcI G r M1) 0 0 (g_A G) := by
  rw [F_X8_tear] at hF
  refine x_start (by decide) (Nat.le_of_ble_eq_true rfl) (lv := [(0, .ref (g_ad G 49))]) rfl ?_
  intro p e s m below meth c cx hr hW hS ls hl
  obtain ⟨hx, hb, hml, hown, hts, hKK, hSS, hlk⟩ := id cx
  refine lv_aload_n hx hb dX8_tear_0 rfl (lv_at hl 0 rfl) ?_
  refine x_get cx hW kc_49 fk_X8_284 (v := .int (m_I M 49 22)) rfl dX8_tear_1 ?_
  refine lv_if_eq (tgt := 11) hx hb dX8_tear_4 (by decide) (fun c1 => ?_) (fun c1 => ?_)
  · have hF := it_p c1 hF
    refine lv_iconst (v := (0 : Int32)) hx hb dX8_tear_11 (by decide) ?_
    refine lv_istore_n (lv' := [(1, .int (0 : Int32)), (0, .ref (g_ad G 49))]) hx hb dX8_tear_12 rfl hl (by decide) rfl (fun ls hl => ?_)
    refine lv_aload_n hx hb dX8_tear_13 rfl (lv_at hl 1 rfl) ?_
    refine lv_iconst (v := (0 : Int32)) hx hb dX8_tear_14 (by decide) ?_
    obtain ⟨M2, eM2, hF⟩ := pin_e hF
    refine x_putz cx hW hS kc_49 fk_X8_284 ft_6_22 (by decide) (Nat.le_of_ble_eq_true rfl) fs_6_22 eM2 dX8_tear_15 (fun H locs hW hS => ?_)
    refine lv_iload_n hx hb dX8_tear_18 rfl (lv_at hl 0 rfl) ?_
    exact x_iret cx hr hW hS (sp_1 hF) (sp_2 hF) dX8_tear_19
  · have hF := it_n c1 hF
    refine lv_iconst (v := (1 : Int32)) hx hb dX8_tear_7 (by decide) ?_
    refine lv_goto (tgt := 12) hx hb dX8_tear_8 (by decide) ?_
    refine lv_istore_n (lv' := [(1, .int (1 : Int32)), (0, .ref (g_ad G 49))]) hx hb dX8_tear_12 rfl hl (by decide) rfl (fun ls hl => ?_)
    refine lv_aload_n hx hb dX8_tear_13 rfl (lv_at hl 1 rfl) ?_
    refine lv_iconst (v := (0 : Int32)) hx hb dX8_tear_14 (by decide) ?_
    obtain ⟨M3, eM3, hF⟩ := pin_e hF
    refine x_putz cx hW hS kc_49 fk_X8_284 ft_6_22 (by decide) (Nat.le_of_ble_eq_true rfl) fs_6_22 eM3 dX8_tear_15 (fun H locs hW hS => ?_)
    refine lv_iload_n hx hb dX8_tear_18 rfl (lv_at hl 0 rfl) ?_
    exact x_iret cx hr hW hS (sp_1 hF) (sp_2 hF) dX8_tear_19
def F_X8_count (a1 : Int32) (M : Mem) : Option (Int32 × Mem) := (if a1 = (0 : Int32) then ix 51 (2 : Int32) (fun j2 => some ((m_I M 50 j2), M)) else (if a1 = (1 : Int32) then some ((m_I M 49 9), M) else (if a1 = (2 : Int32) then ix 51 (1 : Int32) (fun j5 => some ((m_I M 50 j5), M)) else (if a1 = (3 : Int32) then (F_X8_sumOf (3 : Int32) M).bind (fun r8 => some (r8, M)) else bn (F_X8_finds (-1000000001 : Int32) M) (fun r10 M11 => some (r10, M11))))))
set_option maxHeartbeats 4000000 in
set_option maxRecDepth 100000 in
theorem c_X8_count {l : Launch} {G : GG} {a1 : Int32}  {M : Mem} {r : Int32} {M1 : Mem} (hF : F_X8_count a1 M = some (r, M1)) : Met l yX8_count (wz yX8_count cX8_count 2 (some .int)) (RM 2 45) (PreC G [.ref (g_ad G 49), .int a1] M) (QcI G r M1) 0 0 (g_A G) := by
  rw [F_X8_count] at hF
  refine x_start (by decide) (Nat.le_of_ble_eq_true rfl) (lv := [(0, .ref (g_ad G 49)), (1, .int a1)]) rfl ?_
  intro p e s m below meth c cx hr hW hS ls hl
  obtain ⟨hx, hb, hml, hown, hts, hKK, hSS, hlk⟩ := id cx
  refine lv_iload_n hx hb dX8_count_0 rfl (lv_at hl 1 rfl) ?_
  refine x_sw (0 : Int32) (fun c1 => ?_) (fun c1 => ?_)
  · have hF := it_p c1 hF
    refine x_tab (tgt := 32) cx dX8_count_1 c1 (by decide) (by decide) rfl (by decide) ?_
    refine lv_aload_n hx hb dX8_count_32 rfl (lv_at hl 0 rfl) ?_
    refine x_get cx hW kc_49 fk_X8_7 (v := .ref (g_ad G 50)) rfl dX8_count_33 ?_
    refine lv_iconst (v := (2 : Int32)) hx hb dX8_count_36 (by decide) ?_
    obtain ⟨j2, hj2, gj2, hF⟩ := ix_e hF
    refine x_iald cx hW kc_50 (by decide) hj2 gj2 dX8_count_37 ?_
    exact x_iret cx hr hW hS (sp_1 hF) (sp_2 hF) dX8_count_38
  · have hF := it_n c1 hF
    refine x_sw (1 : Int32) (fun c3 => ?_) (fun c3 => ?_)
    · have hF := it_p c3 hF
      refine x_tab (tgt := 39) cx dX8_count_1 c3 (by decide) (by decide) rfl (by decide) ?_
      refine lv_aload_n hx hb dX8_count_39 rfl (lv_at hl 0 rfl) ?_
      refine x_get cx hW kc_49 fk_X8_178 (v := .int (m_I M 49 9)) rfl dX8_count_40 ?_
      exact x_iret cx hr hW hS (sp_1 hF) (sp_2 hF) dX8_count_43
    · have hF := it_n c3 hF
      refine x_sw (2 : Int32) (fun c4 => ?_) (fun c4 => ?_)
      · have hF := it_p c4 hF
        refine x_tab (tgt := 44) cx dX8_count_1 c4 (by decide) (by decide) rfl (by decide) ?_
        refine lv_aload_n hx hb dX8_count_44 rfl (lv_at hl 0 rfl) ?_
        refine x_get cx hW kc_49 fk_X8_7 (v := .ref (g_ad G 50)) rfl dX8_count_45 ?_
        refine lv_iconst (v := (1 : Int32)) hx hb dX8_count_48 (by decide) ?_
        obtain ⟨j5, hj5, gj5, hF⟩ := ix_e hF
        refine x_iald cx hW kc_50 (by decide) hj5 gj5 dX8_count_49 ?_
        exact x_iret cx hr hW hS (sp_1 hF) (sp_2 hF) dX8_count_50
      · have hF := it_n c4 hF
        refine x_sw (3 : Int32) (fun c6 => ?_) (fun c6 => ?_)
        · have hF := it_p c6 hF
          refine x_tab (tgt := 51) cx dX8_count_1 c6 (by decide) (by decide) rfl (by decide) ?_
          refine lv_aload_n hx hb dX8_count_51 rfl (lv_at hl 0 rfl) ?_
          refine lv_iconst (v := (3 : Int32)) hx hb dX8_count_52 (by decide) ?_
          obtain ⟨r8, hc7, hF⟩ := bi_e hF
          refine x_goi (x_runV cx hW hS (c_X8_sumOf (l := l) (G := G) hc7) cv_X8_142 kc_49 rfl (rest := []) ⟨Nat.le_of_ble_eq_true rfl, Nat.le_of_ble_eq_true rfl⟩ hl.1 rfl rfl (Nat.le_of_ble_eq_true rfl) ⟨Nat.zero_le _, Nat.zero_le _⟩ dX8_count_53) hS (fun H locs hW hS => ?_)
          exact x_iret cx hr hW hS (sp_1 hF) (sp_2 hF) dX8_count_56
        · have hF := it_n c6 hF
          refine lv_tableOut (tgt := 57) hx hb dX8_count_1 (by have z0 := lv_neT c1 (a := 0) (by decide); have z1 := lv_neT c3 (a := 1) (by decide); have z2 := lv_neT c4 (a := 2) (by decide); have z3 := lv_neT c6 (a := 3) (by decide); omega) (by decide) ?_
          refine lv_aload_n hx hb dX8_count_57 rfl (lv_at hl 0 rfl) ?_
          refine x_ldc cx q_k_X8_56 dX8_count_58 ?_
          obtain ⟨r10, M11, hc9, hF⟩ := bn_e hF
          refine x_goi (x_runV cx hW hS (c_X8_finds (l := l) (G := G) hc9) cv_X8_83 kc_49 rfl (rest := []) ⟨Nat.le_of_ble_eq_true rfl, Nat.le_of_ble_eq_true rfl⟩ hl.1 rfl rfl (Nat.le_of_ble_eq_true rfl) ⟨Nat.zero_le _, Nat.zero_le _⟩ dX8_count_60) hS (fun H locs hW hS => ?_)
          exact x_iret cx hr hW hS (sp_1 hF) (sp_2 hF) dX8_count_63
def F_X8_status_21 (a1 : Int32) : Nat → Int32 → Int32 → Mem → Option (Int32 × Mem)
  | 0, _, _, _ => none
  | n + 1, x2, x3, M => (if (7 : Int32) ≤ x3 then (if 0 ≤ a1 then (if 0 ≤ a1 then ix 7 a1 (fun j7 => some ((m_I M 51 j7), M)) else ix 7 (0 : Int32) (fun j8 => some ((m_I M 51 j8), M))) else some (x2, M)) else ix 7 x3 (fun j9 => F_X8_status_21 a1 n (x2 + (m_I M 51 j9)) (x3 + 1) M))
set_option maxHeartbeats 4000000 in
set_option maxRecDepth 100000 in
theorem t_X8_status_21 {p : Program} {l : Launch} {e : Env} {s : State} {m : MethodId} {args : Array Value} {below : List Frame} {meth : Method} {c : Code} {G : GG} {a1 : Int32} (cx : Cx G cX8_status RX8 4 p s m args meth c) (hr : meth.sig.returnType = (some .int))   {r : Int32} {M1 : Mem} : ∀ (n : Nat) (x2 : Int32) (x3 : Int32) (M : Mem), F_X8_status_21 a1 n x2 x3 M = some (r, M1) → ∀ (H : Heap) (locs : List Loc) (ls : Array Slot), WH G M H → va_S (g_A G) s.heap H locs → lv_has ls 4 [(0, .ref (g_ad G 49)), (1, .int a1), (2, .int x2), (3, .int x3)] → W p l e (RM 1 22) s m args below meth c H locs 0 0 (MQ below (QcI G r M1) args s 0 0 (g_A G)) (F0 m 21 ls []) := by
  obtain ⟨hx, hb, hml, hown, hts, hKK, hSS, hlk⟩ := id cx
  intro n
  induction n with
  | zero =>
    intro x2 x3 M hF H locs ls hW hS hl
    rw [F_X8_status_21] at hF
    cases hF
  | succ n ih =>
    intro x2 x3 M hF H locs ls hW hS hl
    rw [F_X8_status_21] at hF
    refine lv_iload_n hx hb dX8_status_21 rfl (lv_at hl 3 rfl) ?_
    refine lv_bipush (v := (7 : Int32)) hx hb dX8_status_22 (by decide) ?_
    refine lv_icmp_ge (tgt := 42) hx hb dX8_status_24 (by decide) (fun c4 => ?_) (fun c4 => ?_)
    · have hF := it_p c4 hF
      refine lv_iload_n hx hb dX8_status_42 rfl (lv_at hl 1 rfl) ?_
      refine lv_if_ge (tgt := 50) hx hb dX8_status_43 (by decide) (fun c5 => ?_) (fun c5 => ?_)
      · have hF := it_p c5 hF
        refine lv_aload_n hx hb dX8_status_50 rfl (lv_at hl 0 rfl) ?_
        refine x_get cx hW kc_49 fk_X8_13 (v := .ref (g_ad G 51)) rfl dX8_status_51 ?_
        refine lv_iload_n hx hb dX8_status_54 rfl (lv_at hl 1 rfl) ?_
        refine lv_if_ge (tgt := 62) hx hb dX8_status_55 (by decide) (fun c6 => ?_) (fun c6 => ?_)
        · have hF := it_p c6 hF
          refine lv_iload_n hx hb dX8_status_62 rfl (lv_at hl 1 rfl) ?_
          obtain ⟨j7, hj7, gj7, hF⟩ := ix_e hF
          refine x_iald cx hW kc_51 (by decide) hj7 gj7 dX8_status_63 ?_
          exact x_iret cx hr hW hS (sp_1 hF) (sp_2 hF) dX8_status_64
        · have hF := it_n c6 hF
          refine lv_iconst (v := (0 : Int32)) hx hb dX8_status_58 (by decide) ?_
          refine lv_goto (tgt := 63) hx hb dX8_status_59 (by decide) ?_
          obtain ⟨j8, hj8, gj8, hF⟩ := ix_e hF
          refine x_iald cx hW kc_51 (by decide) hj8 gj8 dX8_status_63 ?_
          exact x_iret cx hr hW hS (sp_1 hF) (sp_2 hF) dX8_status_64
      · have hF := it_n c5 hF
        refine lv_iload_n hx hb dX8_status_46 rfl (lv_at hl 2 rfl) ?_
        refine lv_goto (tgt := 64) hx hb dX8_status_47 (by decide) ?_
        exact x_iret cx hr hW hS (sp_1 hF) (sp_2 hF) dX8_status_64
    · have hF := it_n c4 hF
      refine lv_iload_n hx hb dX8_status_27 rfl (lv_at hl 2 rfl) ?_
      refine lv_aload_n hx hb dX8_status_28 rfl (lv_at hl 0 rfl) ?_
      refine x_get cx hW kc_49 fk_X8_13 (v := .ref (g_ad G 51)) rfl dX8_status_29 ?_
      refine lv_iload_n hx hb dX8_status_32 rfl (lv_at hl 3 rfl) ?_
      obtain ⟨j9, hj9, gj9, hF⟩ := ix_e hF
      refine x_iald cx hW kc_51 (by decide) hj9 gj9 dX8_status_33 ?_
      refine lv_iadd hx hb dX8_status_34 ?_
      refine lv_istore_n (lv' := [(2, .int (x2 + (m_I M 51 j9))), (0, .ref (g_ad G 49)), (1, .int a1), (3, .int x3)]) hx hb dX8_status_35 rfl hl (by decide) rfl (fun ls hl => ?_)
      refine lv_iinc (v := (x3 + 1)) (lv' := [(3, .int (x3 + 1)), (2, .int (x2 + (m_I M 51 j9))), (0, .ref (g_ad G 49)), (1, .int a1)]) hx hb dX8_status_36 hl (k := 3) rfl rfl (by decide) rfl (fun ls hl => ?_)
      refine lv_goto (tgt := 21) hx hb dX8_status_39 (by decide) ?_
      exact ih (x2 + (m_I M 51 j9)) (x3 + 1) M hF _ _ _ hW hS (lv_sub hl [2, 3, 1, 0] rfl)
def F_X8_status (a1 : Int32) (M : Mem) : Option (Int32 × Mem) := (F_X8_in a1 (-1 : Int32) (6 : Int32) M).bind (fun r2 => (if r2 = 0 then bn (F_X8_finds (-1000000001 : Int32) M) (fun r11 M12 => some (r11, M12)) else F_X8_status_21 a1 FU (0 : Int32) (0 : Int32) M))
set_option maxHeartbeats 4000000 in
set_option maxRecDepth 100000 in
theorem c_X8_status {l : Launch} {G : GG} {a1 : Int32}  {M : Mem} {r : Int32} {M1 : Mem} (hF : F_X8_status a1 M = some (r, M1)) : Met l yX8_status (wz yX8_status cX8_status 4 (some .int)) (RM 1 22) (PreC G [.ref (g_ad G 49), .int a1] M) (QcI G r M1) 0 0 (g_A G) := by
  rw [F_X8_status] at hF
  refine x_start (by decide) (Nat.le_of_ble_eq_true rfl) (lv := [(0, .ref (g_ad G 49)), (1, .int a1)]) rfl ?_
  intro p e s m below meth c cx hr hW hS ls hl
  obtain ⟨hx, hb, hml, hown, hts, hKK, hSS, hlk⟩ := id cx
  refine lv_iload_n hx hb dX8_status_0 rfl (lv_at hl 1 rfl) ?_
  refine lv_iconst (v := (-1 : Int32)) hx hb dX8_status_1 (by decide) ?_
  refine lv_bipush (v := (6 : Int32)) hx hb dX8_status_2 (by decide) ?_
  obtain ⟨r2, hc1, hF⟩ := bi_e hF
  refine x_goi (x_runS cx hW hS (c_X8_in (l := l) (G := G) hc1) cs_X8_57 (rest := []) ⟨Nat.le_of_ble_eq_true rfl, Nat.le_of_ble_eq_true rfl⟩ hl.1 rfl rfl (Nat.le_of_ble_eq_true rfl) ⟨Nat.zero_le _, Nat.zero_le _⟩ dX8_status_4) hS (fun H locs hW hS => ?_)
  refine lv_if_ne (tgt := 17) hx hb dX8_status_7 (by decide) (fun c3 => ?_) (fun c3 => ?_)
  · have hF := it_n c3 hF
    refine lv_iconst (v := (0 : Int32)) hx hb dX8_status_17 (by decide) ?_
    refine lv_istore_n (lv' := [(2, .int (0 : Int32)), (0, .ref (g_ad G 49)), (1, .int a1)]) hx hb dX8_status_18 rfl hl (by decide) rfl (fun ls hl => ?_)
    refine lv_iconst (v := (0 : Int32)) hx hb dX8_status_19 (by decide) ?_
    refine lv_istore_n (lv' := [(3, .int (0 : Int32)), (2, .int (0 : Int32)), (0, .ref (g_ad G 49)), (1, .int a1)]) hx hb dX8_status_20 rfl hl (by decide) rfl (fun ls hl => ?_)
    exact t_X8_status_21 cx hr FU (0 : Int32) (0 : Int32) M hF _ _ _ hW hS (lv_sub hl [2, 3, 1, 0] rfl)
  · have hF := it_p c3 hF
    refine lv_aload_n hx hb dX8_status_10 rfl (lv_at hl 0 rfl) ?_
    refine x_ldc cx q_k_X8_56 dX8_status_11 ?_
    obtain ⟨r11, M12, hc10, hF⟩ := bn_e hF
    refine x_goi (x_runV cx hW hS (c_X8_finds (l := l) (G := G) hc10) cv_X8_83 kc_49 rfl (rest := []) ⟨Nat.le_of_ble_eq_true rfl, Nat.le_of_ble_eq_true rfl⟩ hl.1 rfl rfl (Nat.le_of_ble_eq_true rfl) ⟨Nat.zero_le _, Nat.zero_le _⟩ dX8_status_13) hS (fun H locs hW hS => ?_)
    exact x_iret cx hr hW hS (sp_1 hF) (sp_2 hF) dX8_status_16
