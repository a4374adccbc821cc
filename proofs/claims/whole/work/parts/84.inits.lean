/-! ===== CONSTRUCTORS ===== -/
abbrev dFX0 : List Value := [.null]
theorem dFX0_ok : ∀ j, j < 1 → defaultValue (tyX0 j) = vp_V dFX0 j := by decide +kernel
abbrev dFX2 : List Value := [.null, .int 0, .int 0]
theorem dFX2_ok : ∀ j, j < 3 → defaultValue (tyX2 j) = vp_V dFX2 j := by decide +kernel
abbrev dFX3 : List Value := [.null, .int 0]
theorem dFX3_ok : ∀ j, j < 2 → defaultValue (tyX3 j) = vp_V dFX3 j := by decide +kernel
abbrev dFX4 : List Value := [.int 0, .int 0, .int 0, .null, .null, .null, .null, .null, .null, .null, .null, .null, .null]
theorem dFX4_ok : ∀ j, j < 13 → defaultValue (tyX4 j) = vp_V dFX4 j := by decide +kernel
abbrev dFX5 : List Value := [.null, .int 0, .int 0, .int 0, .int 0]
theorem dFX5_ok : ∀ j, j < 5 → defaultValue (tyX5 j) = vp_V dFX5 j := by decide +kernel
abbrev dFX7 : List Value := [.null, .null, .null, .null, .null, .null, .null, .null, .int 0]
theorem dFX7_ok : ∀ j, j < 9 → defaultValue (tyX7 j) = vp_V dFX7 j := by decide +kernel
abbrev dFX8 : List Value := [.null, .null, .null, .null, .null, .null, .null, .null, .null, .int 0, .int 0, .int 0, .int 0, .long 0, .int 0, .int 0, .null, .null, .null, .null, .null, .null, .int 0]
theorem dFX8_ok : ∀ j, j < 23 → defaultValue (tyX8 j) = vp_V dFX8 j := by decide +kernel
theorem mw_X3 : MW RX5 9 11 RX3 2 yX3_init cX3_init := ⟨q_kl_X5_9, q_is_X3, q_nn_X3, q_nl_X5_11, q_in_X3, q_co_X3, rfl, rfl, ⟨by decide +kernel, by decide +kernel, by decide +kernel⟩⟩
abbrev wX0 (cy : Nat → ClassId) (h0 : Nat) (q : Nat → Nat) : va_W := [(h0, .inr (0, [.ref (q 0)])), (q 0, .inl (cy 0, 256, .inl (fun _ => 0)))]
set_option maxHeartbeats 4000000 in
set_option maxRecDepth 100000 in
theorem c_X0_init (l : Launch) (D : va_G) (cy : Nat → ClassId) (h0 sz : Nat) : Met l yX0_init (wz yX0_init cX0_init 1 none) { frames := 1, cells := 1, slots := 256, locals := 12 } (PN D cy [.ref h0] sz [(h0, .inr (0, dFX0))]) (QN D (va_A [(h0, .inr (0, dFX0))] sz) (wX0 cy h0)) 1 256 (va_A [(h0, .inr (0, dFX0))] sz) := by
  refine y_begin (lv := [(0, .ref h0)]) (by decide) rfl (Nat.le_of_ble_eq_true rfl) rfl rfl q_ol_X0 (Nat.le_of_ble_eq_true rfl) (Nat.le_of_ble_eq_true rfl) dX0_init_0 dX0_init_1 ?_
  intro p e s m below meth c A cx hP hD hS hA ls hl
  obtain ⟨hx, hb, hml, hown, hts, hK, hin, hlk, hr⟩ := id cx
  refine lv_aload_n hx hb dX0_init_4 rfl (lv_at hl 0 rfl) ?_
  refine lv_sipush (v := (256 : Int32)) hx hb dX0_init_5 (by decide) ?_
  refine y_newI (N := 256) cx hP hD hS hA ff_X0_9 (Nat.le_of_ble_eq_true rfl) (by decide) (by decide +kernel) (Nat.le_of_ble_eq_true rfl) (Nat.le_of_ble_eq_true rfl) (Nat.le_of_ble_eq_true rfl) dX0_init_8 dX0_init_10 (fun q0 H locs hP hD hS => ?_)
  exact y_end cx (fun j => ([q0] : List Nat).getD j 0) hP hD hS dX0_init_13
abbrev wX2 (cy : Nat → ClassId) (h0 : Nat) (q : Nat → Nat) : va_W := [(h0, .inr (1, [.ref (q 0), .int 0, .int 0])), (q 0, .inl (cy 1, 40, .inr (.inl (fun _ => 0))))]
set_option maxHeartbeats 4000000 in
set_option maxRecDepth 100000 in
theorem c_X2_init (l : Launch) (D : va_G) (cy : Nat → ClassId) (h0 sz : Nat) : Met l yX2_init (wz yX2_init cX2_init 1 none) { frames := 1, cells := 1, slots := 40, locals := 12 } (PN D cy [.ref h0] sz [(h0, .inr (1, dFX2))]) (QN D (va_A [(h0, .inr (1, dFX2))] sz) (wX2 cy h0)) 1 40 (va_A [(h0, .inr (1, dFX2))] sz) := by
  refine y_begin (lv := [(0, .ref h0)]) (by decide) rfl (Nat.le_of_ble_eq_true rfl) rfl rfl q_ol_X2 (Nat.le_of_ble_eq_true rfl) (Nat.le_of_ble_eq_true rfl) dX2_init_0 dX2_init_1 ?_
  intro p e s m below meth c A cx hP hD hS hA ls hl
  obtain ⟨hx, hb, hml, hown, hts, hK, hin, hlk, hr⟩ := id cx
  refine lv_aload_n hx hb dX2_init_4 rfl (lv_at hl 0 rfl) ?_
  refine lv_bipush (v := (40 : Int32)) hx hb dX2_init_5 (by decide) ?_
  refine y_newJ (N := 40) cx hP hD hS hA ff_X2_9 (Nat.le_of_ble_eq_true rfl) (by decide) (by decide +kernel) (Nat.le_of_ble_eq_true rfl) (Nat.le_of_ble_eq_true rfl) (Nat.le_of_ble_eq_true rfl) dX2_init_7 dX2_init_9 (fun q0 H locs hP hD hS => ?_)
  exact y_end cx (fun j => ([q0] : List Nat).getD j 0) hP hD hS dX2_init_12
abbrev wX3 (cy : Nat → ClassId) (h0 : Nat) (q : Nat → Nat) : va_W := [(h0, .inr (2, [.ref (q 0), .int 0])), (q 0, .inl (cy 0, 120, .inl (fun _ => 0)))]
set_option maxHeartbeats 4000000 in
set_option maxRecDepth 100000 in
theorem c_X3_init (l : Launch) (D : va_G) (cy : Nat → ClassId) (h0 sz : Nat) : Met l yX3_init (wz yX3_init cX3_init 1 none) { frames := 1, cells := 1, slots := 120, locals := 12 } (PN D cy [.ref h0] sz [(h0, .inr (2, dFX3))]) (QN D (va_A [(h0, .inr (2, dFX3))] sz) (wX3 cy h0)) 1 120 (va_A [(h0, .inr (2, dFX3))] sz) := by
  refine y_begin (lv := [(0, .ref h0)]) (by decide) rfl (Nat.le_of_ble_eq_true rfl) rfl rfl q_ol_X3 (Nat.le_of_ble_eq_true rfl) (Nat.le_of_ble_eq_true rfl) dX3_init_0 dX3_init_1 ?_
  intro p e s m below meth c A cx hP hD hS hA ls hl
  obtain ⟨hx, hb, hml, hown, hts, hK, hin, hlk, hr⟩ := id cx
  refine lv_aload_n hx hb dX3_init_4 rfl (lv_at hl 0 rfl) ?_
  refine lv_bipush (v := (120 : Int32)) hx hb dX3_init_5 (by decide) ?_
  refine y_newI (N := 120) cx hP hD hS hA ff_X3_9 (Nat.le_of_ble_eq_true rfl) (by decide) (by decide +kernel) (Nat.le_of_ble_eq_true rfl) (Nat.le_of_ble_eq_true rfl) (Nat.le_of_ble_eq_true rfl) dX3_init_7 dX3_init_9 (fun q0 H locs hP hD hS => ?_)
  exact y_end cx (fun j => ([q0] : List Nat).getD j 0) hP hD hS dX3_init_12
abbrev wX4 (cy : Nat → ClassId) (h0 : Nat) (q : Nat → Nat) : va_W := [(h0, .inr (3, [.int 0, .int 1, .int 0, .ref (q 0), .ref (q 1), .ref (q 2), .ref (q 3), .ref (q 4), .ref (q 5), .ref (q 6), .ref (q 7), .ref (q 8), .ref (q 9)])), (q 0, .inl (cy 0, 8, .inl (fun _ => 0))), (q 1, .inl (cy 0, 8, .inl (fun _ => 0))), (q 2, .inl (cy 0, 8, .inl (fun _ => 0))), (q 3, .inl (cy 0, 8, .inl (fun _ => 0))), (q 4, .inl (cy 0, 8, .inl (fun _ => 0))), (q 5, .inl (cy 0, 8, .inl (fun _ => 0))), (q 6, .inl (cy 0, 8, .inl (fun _ => 0))), (q 7, .inl (cy 0, 8, .inl (fun _ => 0))), (q 8, .inl (cy 0, 8, .inl (fun _ => 0))), (q 9, .inl (cy 0, 8, .inl (fun _ => 0)))]
set_option maxHeartbeats 4000000 in
set_option maxRecDepth 100000 in
theorem c_X4_init (l : Launch) (D : va_G) (cy : Nat → ClassId) (h0 sz : Nat) : Met l yX4_init (wz yX4_init cX4_init 1 none) { frames := 1, cells := 10, slots := 80, locals := 12 } (PN D cy [.ref h0] sz [(h0, .inr (3, dFX4))]) (QN D (va_A [(h0, .inr (3, dFX4))] sz) (wX4 cy h0)) 10 80 (va_A [(h0, .inr (3, dFX4))] sz) := by
  refine y_begin (lv := [(0, .ref h0)]) (by decide) rfl (Nat.le_of_ble_eq_true rfl) rfl rfl q_ol_X4 (Nat.le_of_ble_eq_true rfl) (Nat.le_of_ble_eq_true rfl) dX4_init_0 dX4_init_1 ?_
  intro p e s m below meth c A cx hP hD hS hA ls hl
  obtain ⟨hx, hb, hml, hown, hts, hK, hin, hlk, hr⟩ := id cx
  refine lv_aload_n hx hb dX4_init_4 rfl (lv_at hl 0 rfl) ?_
  refine lv_iconst (v := (1 : Int32)) hx hb dX4_init_5 (by decide) ?_
  refine va_put (D := D) (C := RX4) (T := TX4) (N := 13) (index := 9) (ref := RX4) (ty := .int) hx hb hts uX4 tyX4 tyX4_ok nmX4 hown hK.1 hP hD hS 0 rfl rfl 1 (by decide) (hts _ q_fl_X4_9) (fun _ q => q) rfl (by decide +kernel) rfl rfl (Nat.le_of_ble_eq_true rfl) dX4_init_6 (fun H locs hP hD hS => ?_)
  refine lv_aload_n hx hb dX4_init_9 rfl (lv_at hl 0 rfl) ?_
  refine lv_bipush (v := (8 : Int32)) hx hb dX4_init_10 (by decide) ?_
  refine y_newI (N := 8) cx hP hD hS hA ff_X4_15 (Nat.le_of_ble_eq_true rfl) (by decide) (by decide +kernel) (Nat.le_of_ble_eq_true rfl) (Nat.le_of_ble_eq_true rfl) (Nat.le_of_ble_eq_true rfl) dX4_init_12 dX4_init_14 (fun q0 H locs hP hD hS => ?_)
  refine lv_aload_n hx hb dX4_init_17 rfl (lv_at hl 0 rfl) ?_
  refine lv_bipush (v := (8 : Int32)) hx hb dX4_init_18 (by decide) ?_
  refine y_newI (N := 8) cx hP hD hS hA ff_X4_19 (Nat.le_of_ble_eq_true rfl) (by decide) (by decide +kernel) (Nat.le_of_ble_eq_true rfl) (Nat.le_of_ble_eq_true rfl) (Nat.le_of_ble_eq_true rfl) dX4_init_20 dX4_init_22 (fun q1 H locs hP hD hS => ?_)
  refine lv_aload_n hx hb dX4_init_25 rfl (lv_at hl 0 rfl) ?_
  refine lv_bipush (v := (8 : Int32)) hx hb dX4_init_26 (by decide) ?_
  refine y_newI (N := 8) cx hP hD hS hA ff_X4_22 (Nat.le_of_ble_eq_true rfl) (by decide) (by decide +kernel) (Nat.le_of_ble_eq_true rfl) (Nat.le_of_ble_eq_true rfl) (Nat.le_of_ble_eq_true rfl) dX4_init_28 dX4_init_30 (fun q2 H locs hP hD hS => ?_)
  refine lv_aload_n hx hb dX4_init_33 rfl (lv_at hl 0 rfl) ?_
  refine lv_bipush (v := (8 : Int32)) hx hb dX4_init_34 (by decide) ?_
  refine y_newI (N := 8) cx hP hD hS hA ff_X4_25 (Nat.le_of_ble_eq_true rfl) (by decide) (by decide +kernel) (Nat.le_of_ble_eq_true rfl) (Nat.le_of_ble_eq_true rfl) (Nat.le_of_ble_eq_true rfl) dX4_init_36 dX4_init_38 (fun q3 H locs hP hD hS => ?_)
  refine lv_aload_n hx hb dX4_init_41 rfl (lv_at hl 0 rfl) ?_
  refine lv_bipush (v := (8 : Int32)) hx hb dX4_init_42 (by decide) ?_
  refine y_newI (N := 8) cx hP hD hS hA ff_X4_28 (Nat.le_of_ble_eq_true rfl) (by decide) (by decide +kernel) (Nat.le_of_ble_eq_true rfl) (Nat.le_of_ble_eq_true rfl) (Nat.le_of_ble_eq_true rfl) dX4_init_44 dX4_init_46 (fun q4 H locs hP hD hS => ?_)
  refine lv_aload_n hx hb dX4_init_49 rfl (lv_at hl 0 rfl) ?_
  refine lv_bipush (v := (8 : Int32)) hx hb dX4_init_50 (by decide) ?_
  refine y_newI (N := 8) cx hP hD hS hA ff_X4_31 (Nat.le_of_ble_eq_true rfl) (by decide) (by decide +kernel) (Nat.le_of_ble_eq_true rfl) (Nat.le_of_ble_eq_true rfl) (Nat.le_of_ble_eq_true rfl) dX4_init_52 dX4_init_54 (fun q5 H locs hP hD hS => ?_)
  refine lv_aload_n hx hb dX4_init_57 rfl (lv_at hl 0 rfl) ?_
  refine lv_bipush (v := (8 : Int32)) hx hb dX4_init_58 (by decide) ?_
  refine y_newI (N := 8) cx hP hD hS hA ff_X4_34 (Nat.le_of_ble_eq_true rfl) (by decide) (by decide +kernel) (Nat.le_of_ble_eq_true rfl) (Nat.le_of_ble_eq_true rfl) (Nat.le_of_ble_eq_true rfl) dX4_init_60 dX4_init_62 (fun q6 H locs hP hD hS => ?_)
  refine lv_aload_n hx hb dX4_init_65 rfl (lv_at hl 0 rfl) ?_
  refine lv_bipush (v := (8 : Int32)) hx hb dX4_init_66 (by decide) ?_
  refine y_newI (N := 8) cx hP hD hS hA ff_X4_37 (Nat.le_of_ble_eq_true rfl) (by decide) (by decide +kernel) (Nat.le_of_ble_eq_true rfl) (Nat.le_of_ble_eq_true rfl) (Nat.le_of_ble_eq_true rfl) dX4_init_68 dX4_init_70 (fun q7 H locs hP hD hS => ?_)
  refine lv_aload_n hx hb dX4_init_73 rfl (lv_at hl 0 rfl) ?_
  refine lv_bipush (v := (8 : Int32)) hx hb dX4_init_74 (by decide) ?_
  refine y_newI (N := 8) cx hP hD hS hA ff_X4_40 (Nat.le_of_ble_eq_true rfl) (by decide) (by decide +kernel) (Nat.le_of_ble_eq_true rfl) (Nat.le_of_ble_eq_true rfl) (Nat.le_of_ble_eq_true rfl) dX4_init_76 dX4_init_78 (fun q8 H locs hP hD hS => ?_)
  refine lv_aload_n hx hb dX4_init_81 rfl (lv_at hl 0 rfl) ?_
  refine lv_bipush (v := (8 : Int32)) hx hb dX4_init_82 (by decide) ?_
  refine y_newI (N := 8) cx hP hD hS hA ff_X4_43 (Nat.le_of_ble_eq_true rfl) (by decide) (by decide +kernel) (Nat.le_of_ble_eq_true rfl) (Nat.le_of_ble_eq_true rfl) (Nat.le_of_ble_eq_true rfl) dX4_init_84 dX4_init_86 (fun q9 H locs hP hD hS => ?_)
  exact y_end cx (fun j => ([q0, q1, q2, q3, q4, q5, q6, q7, q8, q9] : List Nat).getD j 0) hP hD hS dX4_init_89
abbrev wX5 (cy : Nat → ClassId) (h0 : Nat) (q : Nat → Nat) : va_W := [(h0, .inr (4, [.ref (q 0), .int 0, .int 0, .int 0, .int 0])), (q 0, .inr (2, [.ref (q 1), .int 0])), (q 1, .inl (cy 0, 120, .inl (fun _ => 0)))]
set_option maxHeartbeats 4000000 in
set_option maxRecDepth 100000 in
theorem c_X5_init (l : Launch) (D : va_G) (cy : Nat → ClassId) (h0 sz : Nat) : Met l yX5_init (wz yX5_init cX5_init 1 none) { frames := 2, cells := 2, slots := 122, locals := 32 } (PN D cy [.ref h0] sz [(h0, .inr (4, dFX5))]) (QN D (va_A [(h0, .inr (4, dFX5))] sz) (wX5 cy h0)) 2 122 (va_A [(h0, .inr (4, dFX5))] sz) := by
  refine y_begin (lv := [(0, .ref h0)]) (by decide) rfl (Nat.le_of_ble_eq_true rfl) rfl rfl q_ol_X5 (Nat.le_of_ble_eq_true rfl) (Nat.le_of_ble_eq_true rfl) dX5_init_0 dX5_init_1 ?_
  intro p e s m below meth c A cx hP hD hS hA ls hl
  obtain ⟨hx, hb, hml, hown, hts, hK, hin, hlk, hr⟩ := id cx
  refine lv_aload_n hx hb dX5_init_4 rfl (lv_at hl 0 rfl) ?_
  refine y_make (ci := 2) (N := 2) (T := TX3) (rest := [.ref h0]) cx hl.1 hP hD hS hA rfl uX3 tyX3_ok dFX3_ok mw_X3 (fun h1 sz => c_X3_init l D cy h1 sz) ⟨Nat.le_of_ble_eq_true rfl, Nat.le_of_ble_eq_true rfl⟩ (Nat.le_of_ble_eq_true rfl) (Nat.le_of_ble_eq_true rfl) (Nat.le_of_ble_eq_true rfl) dX5_init_5 dX5_init_8 dX5_init_9 (fun a1 u1 H locs hP hD hS => ?_)
  refine y_putR cx hP hD hS ff_X5_12 (Nat.le_of_ble_eq_true rfl) dX5_init_12 (fun H locs hP hD hS => ?_)
  exact y_end cx (fun j => ([a1, u1 0] : List Nat).getD j 0) hP hD hS dX5_init_15
abbrev wX8 (cy : Nat → ClassId) (h0 : Nat) (q : Nat → Nat) : va_W := [(h0, .inr (6, [.ref (q 0), .ref (q 1), .ref (q 2), .ref (q 3), .ref (q 4), .ref (q 5), .ref (q 6), .ref (q 7), .ref (q 8), .int 0, .int 0, .int 0, .int 0, .long 0, .int 0, .int 0, .ref (q 9), .ref (q 10), .ref (q 11), .ref (q 12), .ref (q 13), .ref (q 14), .int 0])), (q 0, .inl (cy 0, 51, .inl (upd (fun _ => 0) (1 : Int32).toNatClampNeg 1))), (q 1, .inl (cy 0, 7, .inl (fun _ => 0))), (q 2, .inl (cy 0, 8, .inl (fun _ => 0))), (q 3, .inl (cy 0, 8, .inl (fun _ => 0))), (q 4, .inl (cy 0, 8, .inl (fun _ => 0))), (q 5, .inl (cy 0, 8, .inl (fun _ => 0))), (q 6, .inl (cy 0, 51, .inl (fun _ => 0))), (q 7, .inl (cy 0, 256, .inl (fun _ => 0))), (q 8, .inl (cy 0, 120, .inl (fun _ => 0))), (q 9, .inl (cy 0, 4, .inl (fun _ => 0))), (q 10, .inl (cy 0, 4, .inl (fun _ => 0))), (q 11, .inl (cy 1, 160, .inr (.inl (fun _ => 0)))), (q 12, .inl (cy 1, 40, .inr (.inl (fun _ => 0)))), (q 13, .inl (cy 0, 51, .inl (fun _ => 0))), (q 14, .inl (cy 0, 51, .inl (fun _ => 0)))]
set_option maxHeartbeats 4000000 in
set_option maxRecDepth 100000 in
theorem c_X8_init (l : Launch) (D : va_G) (cy : Nat → ClassId) (h0 sz : Nat) : Met l yX8_init (wz yX8_init cX8_init 1 none) { frames := 1, cells := 15, slots := 827, locals := 12 } (PN D cy [.ref h0] sz [(h0, .inr (6, dFX8))]) (QN D (va_A [(h0, .inr (6, dFX8))] sz) (wX8 cy h0)) 15 827 (va_A [(h0, .inr (6, dFX8))] sz) := by
  refine y_begin (lv := [(0, .ref h0)]) (by decide) rfl (Nat.le_of_ble_eq_true rfl) rfl rfl q_ol_X8 (Nat.le_of_ble_eq_true rfl) (Nat.le_of_ble_eq_true rfl) dX8_init_0 dX8_init_1 ?_
  intro p e s m below meth c A cx hP hD hS hA ls hl
  obtain ⟨hx, hb, hml, hown, hts, hK, hin, hlk, hr⟩ := id cx
  refine lv_aload_n hx hb dX8_init_4 rfl (lv_at hl 0 rfl) ?_
  refine lv_bipush (v := (51 : Int32)) hx hb dX8_init_5 (by decide) ?_
  refine y_newI (N := 51) cx hP hD hS hA ff_X8_7 (Nat.le_of_ble_eq_true rfl) (by decide) (by decide +kernel) (Nat.le_of_ble_eq_true rfl) (Nat.le_of_ble_eq_true rfl) (Nat.le_of_ble_eq_true rfl) dX8_init_7 dX8_init_9 (fun q0 H locs hP hD hS => ?_)
  refine lv_aload_n hx hb dX8_init_12 rfl (lv_at hl 0 rfl) ?_
  refine lv_bipush (v := (7 : Int32)) hx hb dX8_init_13 (by decide) ?_
  refine y_newI (N := 7) cx hP hD hS hA ff_X8_13 (Nat.le_of_ble_eq_true rfl) (by decide) (by decide +kernel) (Nat.le_of_ble_eq_true rfl) (Nat.le_of_ble_eq_true rfl) (Nat.le_of_ble_eq_true rfl) dX8_init_15 dX8_init_17 (fun q1 H locs hP hD hS => ?_)
  refine lv_aload_n hx hb dX8_init_20 rfl (lv_at hl 0 rfl) ?_
  refine lv_bipush (v := (8 : Int32)) hx hb dX8_init_21 (by decide) ?_
  refine y_newI (N := 8) cx hP hD hS hA ff_X8_16 (Nat.le_of_ble_eq_true rfl) (by decide) (by decide +kernel) (Nat.le_of_ble_eq_true rfl) (Nat.le_of_ble_eq_true rfl) (Nat.le_of_ble_eq_true rfl) dX8_init_23 dX8_init_25 (fun q2 H locs hP hD hS => ?_)
  refine lv_aload_n hx hb dX8_init_28 rfl (lv_at hl 0 rfl) ?_
  refine lv_bipush (v := (8 : Int32)) hx hb dX8_init_29 (by decide) ?_
  refine y_newI (N := 8) cx hP hD hS hA ff_X8_19 (Nat.le_of_ble_eq_true rfl) (by decide) (by decide +kernel) (Nat.le_of_ble_eq_true rfl) (Nat.le_of_ble_eq_true rfl) (Nat.le_of_ble_eq_true rfl) dX8_init_31 dX8_init_33 (fun q3 H locs hP hD hS => ?_)
  refine lv_aload_n hx hb dX8_init_36 rfl (lv_at hl 0 rfl) ?_
  refine lv_bipush (v := (8 : Int32)) hx hb dX8_init_37 (by decide) ?_
  refine y_newI (N := 8) cx hP hD hS hA ff_X8_22 (Nat.le_of_ble_eq_true rfl) (by decide) (by decide +kernel) (Nat.le_of_ble_eq_true rfl) (Nat.le_of_ble_eq_true rfl) (Nat.le_of_ble_eq_true rfl) dX8_init_39 dX8_init_41 (fun q4 H locs hP hD hS => ?_)
  refine lv_aload_n hx hb dX8_init_44 rfl (lv_at hl 0 rfl) ?_
  refine lv_bipush (v := (8 : Int32)) hx hb dX8_init_45 (by decide) ?_
  refine y_newI (N := 8) cx hP hD hS hA ff_X8_25 (Nat.le_of_ble_eq_true rfl) (by decide) (by decide +kernel) (Nat.le_of_ble_eq_true rfl) (Nat.le_of_ble_eq_true rfl) (Nat.le_of_ble_eq_true rfl) dX8_init_47 dX8_init_49 (fun q5 H locs hP hD hS => ?_)
  refine lv_aload_n hx hb dX8_init_52 rfl (lv_at hl 0 rfl) ?_
  refine lv_bipush (v := (51 : Int32)) hx hb dX8_init_53 (by decide) ?_
  refine y_newI (N := 51) cx hP hD hS hA ff_X8_28 (Nat.le_of_ble_eq_true rfl) (by decide) (by decide +kernel) (Nat.le_of_ble_eq_true rfl) (Nat.le_of_ble_eq_true rfl) (Nat.le_of_ble_eq_true rfl) dX8_init_55 dX8_init_57 (fun q6 H locs hP hD hS => ?_)
  refine lv_aload_n hx hb dX8_init_60 rfl (lv_at hl 0 rfl) ?_
  refine lv_sipush (v := (256 : Int32)) hx hb dX8_init_61 (by decide) ?_
  refine y_newI (N := 256) cx hP hD hS hA ff_X8_31 (Nat.le_of_ble_eq_true rfl) (by decide) (by decide +kernel) (Nat.le_of_ble_eq_true rfl) (Nat.le_of_ble_eq_true rfl) (Nat.le_of_ble_eq_true rfl) dX8_init_64 dX8_init_66 (fun q7 H locs hP hD hS => ?_)
  refine lv_aload_n hx hb dX8_init_69 rfl (lv_at hl 0 rfl) ?_
  refine lv_bipush (v := (120 : Int32)) hx hb dX8_init_70 (by decide) ?_
  refine y_newI (N := 120) cx hP hD hS hA ff_X8_34 (Nat.le_of_ble_eq_true rfl) (by decide) (by decide +kernel) (Nat.le_of_ble_eq_true rfl) (Nat.le_of_ble_eq_true rfl) (Nat.le_of_ble_eq_true rfl) dX8_init_72 dX8_init_74 (fun q8 H locs hP hD hS => ?_)
  refine lv_aload_n hx hb dX8_init_77 rfl (lv_at hl 0 rfl) ?_
  refine lv_iconst (v := (4 : Int32)) hx hb dX8_init_78 (by decide) ?_
  refine y_newI (N := 4) cx hP hD hS hA ff_X8_37 (Nat.le_of_ble_eq_true rfl) (by decide) (by decide +kernel) (Nat.le_of_ble_eq_true rfl) (Nat.le_of_ble_eq_true rfl) (Nat.le_of_ble_eq_true rfl) dX8_init_79 dX8_init_81 (fun q9 H locs hP hD hS => ?_)
  refine lv_aload_n hx hb dX8_init_84 rfl (lv_at hl 0 rfl) ?_
  refine lv_iconst (v := (4 : Int32)) hx hb dX8_init_85 (by decide) ?_
  refine y_newI (N := 4) cx hP hD hS hA ff_X8_40 (Nat.le_of_ble_eq_true rfl) (by decide) (by decide +kernel) (Nat.le_of_ble_eq_true rfl) (Nat.le_of_ble_eq_true rfl) (Nat.le_of_ble_eq_true rfl) dX8_init_86 dX8_init_88 (fun q10 H locs hP hD hS => ?_)
  refine lv_aload_n hx hb dX8_init_91 rfl (lv_at hl 0 rfl) ?_
  refine lv_sipush (v := (160 : Int32)) hx hb dX8_init_92 (by decide) ?_
  refine y_newJ (N := 160) cx hP hD hS hA ff_X8_43 (Nat.le_of_ble_eq_true rfl) (by decide) (by decide +kernel) (Nat.le_of_ble_eq_true rfl) (Nat.le_of_ble_eq_true rfl) (Nat.le_of_ble_eq_true rfl) dX8_init_95 dX8_init_97 (fun q11 H locs hP hD hS => ?_)
  refine lv_aload_n hx hb dX8_init_100 rfl (lv_at hl 0 rfl) ?_
  refine lv_bipush (v := (40 : Int32)) hx hb dX8_init_101 (by decide) ?_
  refine y_newJ (N := 40) cx hP hD hS hA ff_X8_47 (Nat.le_of_ble_eq_true rfl) (by decide) (by decide +kernel) (Nat.le_of_ble_eq_true rfl) (Nat.le_of_ble_eq_true rfl) (Nat.le_of_ble_eq_true rfl) dX8_init_103 dX8_init_105 (fun q12 H locs hP hD hS => ?_)
  refine lv_aload_n hx hb dX8_init_108 rfl (lv_at hl 0 rfl) ?_
  refine lv_bipush (v := (51 : Int32)) hx hb dX8_init_109 (by decide) ?_
  refine y_newI (N := 51) cx hP hD hS hA ff_X8_50 (Nat.le_of_ble_eq_true rfl) (by decide) (by decide +kernel) (Nat.le_of_ble_eq_true rfl) (Nat.le_of_ble_eq_true rfl) (Nat.le_of_ble_eq_true rfl) dX8_init_111 dX8_init_113 (fun q13 H locs hP hD hS => ?_)
  refine lv_aload_n hx hb dX8_init_116 rfl (lv_at hl 0 rfl) ?_
  refine lv_bipush (v := (51 : Int32)) hx hb dX8_init_117 (by decide) ?_
  refine y_newI (N := 51) cx hP hD hS hA ff_X8_53 (Nat.le_of_ble_eq_true rfl) (by decide) (by decide +kernel) (Nat.le_of_ble_eq_true rfl) (Nat.le_of_ble_eq_true rfl) (Nat.le_of_ble_eq_true rfl) dX8_init_119 dX8_init_121 (fun q14 H locs hP hD hS => ?_)
  refine lv_aload_n hx hb dX8_init_124 rfl (lv_at hl 0 rfl) ?_
  refine va_get (D := D) (C := RX8) (T := TX8) (N := 23) (index := 7) (ref := RX8) (v := .ref q0) hx hb hts uX8 hown hK.1 hP 0 rfl rfl 0 (by decide) (hts _ q_fl_X8_7) (fun _ q => q) rfl dX8_init_125 ?_
  refine lv_iconst (v := (1 : Int32)) hx hb dX8_init_128 (by decide) ?_
  refine lv_iconst (v := (1 : Int32)) hx hb dX8_init_129 (by decide) ?_
  refine va_iast (D := D) hx hb hK.1 hP hD hS 1 0 rfl rfl (vp_in_nI (n := 1) (N := 51) (by decide) (by decide)) dX8_init_130 (fun H locs hP hD hS => ?_)
  exact y_end cx (fun j => ([q0, q1, q2, q3, q4, q5, q6, q7, q8, q9, q10, q11, q12, q13, q14] : List Nat).getD j 0) hP hD hS dX8_init_131
/-! new C(), of the nest mates -/
theorem mw_X4 : MW RX7 7 9 RX4 13 yX4_init cX4_init := ⟨q_kl_X7_7, q_is_X4, q_nn_X4, q_nl_X7_9, q_in_X4, q_co_X4, rfl, rfl, ⟨by decide +kernel, by decide +kernel, by decide +kernel⟩⟩
theorem mw_X0 : MW RX7 22 24 RX0 1 yX0_init cX0_init := ⟨q_kl_X7_22, q_is_X0, q_nn_X0, q_nl_X7_24, q_in_X0, q_co_X0, rfl, rfl, ⟨by decide +kernel, by decide +kernel, by decide +kernel⟩⟩
theorem mw_X5 : MW RX7 29 31 RX5 5 yX5_init cX5_init := ⟨q_kl_X7_29, q_is_X5, q_nn_X5, q_nl_X7_31, q_in_X5, q_co_X5, rfl, rfl, ⟨by decide +kernel, by decide +kernel, by decide +kernel⟩⟩
theorem mw_X2 : MW RX7 41 51 RX2 3 yX2_init cX2_init := ⟨q_kl_X7_41, q_is_X2, q_nn_X2, q_nl_X7_51, q_in_X2, q_co_X2, rfl, rfl, ⟨by decide +kernel, by decide +kernel, by decide +kernel⟩⟩
