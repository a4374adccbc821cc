def F_J6_bitCount_0f7a4 (a0 : Int32) (M : Mem) : Option Int32 := pin (a0 - (((a0.toUInt32 >>> ((1 : Int32).toUInt32 &&& Int32.toUInt32 31)).toInt32) &&& (1431655765 : Int32))) (fun y1 => pin ((y1 &&& (858993459 : Int32)) + (((y1.toUInt32 >>> ((2 : Int32).toUInt32 &&& Int32.toUInt32 31)).toInt32) &&& (858993459 : Int32))) (fun y2 => pin ((y2 + ((y2.toUInt32 >>> ((4 : Int32).toUInt32 &&& Int32.toUInt32 31)).toInt32)) &&& (252645135 : Int32)) (fun y3 => pin ((y3 + ((y3.toUInt32 >>> ((8 : Int32).toUInt32 &&& Int32.toUInt32 31)).toInt32)) + (((y3 + ((y3.toUInt32 >>> ((8 : Int32).toUInt32 &&& Int32.toUInt32 31)).toInt32)).toUInt32 >>> ((16 : Int32).toUInt32 &&& Int32.toUInt32 31)).toInt32)) (fun y4 => some (y4 &&& (63 : Int32))))))
set_option maxHeartbeats 4000000 in
set_option maxRecDepth 100000 in
theorem c_J6_bitCount_0f7a4 {l : Launch} {G : GG} {a0 : Int32}  {M : Mem} {r : Int32} (hF : F_J6_bitCount_0f7a4 a0 M = some r) : Met l yJ6_bitCount_0f7a4 (wz yJ6_bitCount_0f7a4 cJ6_bitCount_0f7a4 1 (some .int)) (RM 0 0) (PreC G [.int a0] M) (QcI G r M) 0 0 (g_A G) := by
  rw [F_J6_bitCount_0f7a4] at hF
  refine x_start (by decide) (Nat.le_of_ble_eq_true rfl) (lv := [(0, .int a0)]) rfl ?_
  intro p e s m below meth c cx hr hW hS ls hl
  obtain ⟨hx, hb, hml, hown, hts, hKK, hSS, hlk⟩ := id cx
  refine lv_iload_n hx hb dJ6_bitCount_0f7a4_0 rfl (lv_at hl 0 rfl) ?_
  refine lv_iload_n hx hb dJ6_bitCount_0f7a4_1 rfl (lv_at hl 0 rfl) ?_
  refine lv_iconst (v := (1 : Int32)) hx hb dJ6_bitCount_0f7a4_2 (by decide) ?_
  refine lv_iushr hx hb dJ6_bitCount_0f7a4_3 rfl ?_
  refine x_ldcw cx q_k_J6_265 dJ6_bitCount_0f7a4_4 ?_
  refine lv_iand hx hb dJ6_bitCount_0f7a4_7 ?_
  refine lv_isub hx hb dJ6_bitCount_0f7a4_8 ?_
  refine x_pini hF (fun y1 hF => ?_)
  refine lv_istore_n (lv' := [(0, .int y1)]) hx hb dJ6_bitCount_0f7a4_9 rfl hl (by decide) rfl (fun ls hl => ?_)
  refine lv_iload_n hx hb dJ6_bitCount_0f7a4_10 rfl (lv_at hl 0 rfl) ?_
  refine x_ldcw cx q_k_J6_266 dJ6_bitCount_0f7a4_11 ?_
  refine lv_iand hx hb dJ6_bitCount_0f7a4_14 ?_
  refine lv_iload_n hx hb dJ6_bitCount_0f7a4_15 rfl (lv_at hl 0 rfl) ?_
  refine lv_iconst (v := (2 : Int32)) hx hb dJ6_bitCount_0f7a4_16 (by decide) ?_
  refine lv_iushr hx hb dJ6_bitCount_0f7a4_17 rfl ?_
  refine x_ldcw cx q_k_J6_266 dJ6_bitCount_0f7a4_18 ?_
  refine lv_iand hx hb dJ6_bitCount_0f7a4_21 ?_
  refine lv_iadd hx hb dJ6_bitCount_0f7a4_22 ?_
  refine x_pini hF (fun y2 hF => ?_)
  refine lv_istore_n (lv' := [(0, .int y2)]) hx hb dJ6_bitCount_0f7a4_23 rfl hl (by decide) rfl (fun ls hl => ?_)
  refine lv_iload_n hx hb dJ6_bitCount_0f7a4_24 rfl (lv_at hl 0 rfl) ?_
  refine lv_iload_n hx hb dJ6_bitCount_0f7a4_25 rfl (lv_at hl 0 rfl) ?_
  refine lv_iconst (v := (4 : Int32)) hx hb dJ6_bitCount_0f7a4_26 (by decide) ?_
  refine lv_iushr hx hb dJ6_bitCount_0f7a4_27 rfl ?_
  refine lv_iadd hx hb dJ6_bitCount_0f7a4_28 ?_
  refine x_ldcw cx q_k_J6_267 dJ6_bitCount_0f7a4_29 ?_
  refine lv_iand hx hb dJ6_bitCount_0f7a4_32 ?_
  refine x_pini hF (fun y3 hF => ?_)
  refine lv_istore_n (lv' := [(0, .int y3)]) hx hb dJ6_bitCount_0f7a4_33 rfl hl (by decide) rfl (fun ls hl => ?_)
  refine lv_iload_n hx hb dJ6_bitCount_0f7a4_34 rfl (lv_at hl 0 rfl) ?_
  refine lv_iload_n hx hb dJ6_bitCount_0f7a4_35 rfl (lv_at hl 0 rfl) ?_
  refine lv_bipush (v := (8 : Int32)) hx hb dJ6_bitCount_0f7a4_36 (by decide) ?_
  refine lv_iushr hx hb dJ6_bitCount_0f7a4_38 rfl ?_
  refine lv_iadd hx hb dJ6_bitCount_0f7a4_39 ?_
  refine lv_istore_n (lv' := [(0, .int (y3 + ((y3.toUInt32 >>> ((8 : Int32).toUInt32 &&& Int32.toUInt32 31)).toInt32)))]) hx hb dJ6_bitCount_0f7a4_40 rfl hl (by decide) rfl (fun ls hl => ?_)
  refine lv_iload_n hx hb dJ6_bitCount_0f7a4_41 rfl (lv_at hl 0 rfl) ?_
  refine lv_iload_n hx hb dJ6_bitCount_0f7a4_42 rfl (lv_at hl 0 rfl) ?_
  refine lv_bipush (v := (16 : Int32)) hx hb dJ6_bitCount_0f7a4_43 (by decide) ?_
  refine lv_iushr hx hb dJ6_bitCount_0f7a4_45 rfl ?_
  refine lv_iadd hx hb dJ6_bitCount_0f7a4_46 ?_
  refine x_pini hF (fun y4 hF => ?_)
  refine lv_istore_n (lv' := [(0, .int y4)]) hx hb dJ6_bitCount_0f7a4_47 rfl hl (by decide) rfl (fun ls hl => ?_)
  refine lv_iload_n hx hb dJ6_bitCount_0f7a4_48 rfl (lv_at hl 0 rfl) ?_
  refine lv_bipush (v := (63 : Int32)) hx hb dJ6_bitCount_0f7a4_49 (by decide) ?_
  refine lv_iand hx hb dJ6_bitCount_0f7a4_51 ?_
  exact x_iret cx hr hW hS (Option.some.inj hF) rfl dJ6_bitCount_0f7a4_52
def F_J7_fill_d0a16_6 (a0 : Nat) (a1 : Int64) : Nat → Int32 → Int32 → Mem → Option Mem
  | 0, _, _, _ => none
  | n + 1, x3, x4, M => (if x4 ≤ x3 then some M else ix 40 x3 (fun j2 => pin (w_J M a0 j2 a1) (fun M3 => F_J7_fill_d0a16_6 a0 a1 n (x3 + 1) x4 M3)))
set_option maxHeartbeats 4000000 in
set_option maxRecDepth 100000 in
theorem t_J7_fill_d0a16_6 {p : Program} {l : Launch} {e : Env} {s : State} {m : MethodId} {args : Array Value} {below : List Frame} {meth : Method} {c : Code} {G : GG} {a0 : Nat} {a1 : Int64} (cx : Cx G cJ7_fill_d0a16 RJ7 5 p s m args meth c) (hr : meth.sig.returnType = none) (h0 : kd a0 = 1000 + 40)  {M1 : Mem} : ∀ (n : Nat) (x3 : Int32) (x4 : Int32) (M : Mem), F_J7_fill_d0a16_6 a0 a1 n x3 x4 M = some M1 → ∀ (H : Heap) (locs : List Loc) (ls : Array Slot), WH G M H → va_S (g_A G) s.heap H locs → lv_has ls 5 [(0, .ref (g_ad G a0)), (1, .long a1), (3, .int x3), (4, .int x4)] → W p l e (RM 0 0) s m args below meth c H locs 0 0 (MQ below (QcV G M1) args s 0 0 (g_A G)) (F0 m 6 ls []) := by
  obtain ⟨hx, hb, hml, hown, hts, hKK, hSS, hlk⟩ := id cx
  intro n
  induction n with
  | zero =>
    intro x3 x4 M hF H locs ls hW hS hl
    rw [F_J7_fill_d0a16_6] at hF
    cases hF
  | succ n ih =>
    intro x3 x4 M hF H locs ls hW hS hl
    rw [F_J7_fill_d0a16_6] at hF
    refine lv_iload_n hx hb dJ7_fill_d0a16_6 rfl (lv_at hl 2 rfl) ?_
    refine lv_iload hx hb dJ7_fill_d0a16_7 (lv_at hl 3 rfl) ?_
    refine lv_icmp_ge (tgt := 22) hx hb dJ7_fill_d0a16_9 (by decide) (fun c1 => ?_) (fun c1 => ?_)
    · have hF := it_p c1 hF
      exact x_vret cx hr hW hS (Option.some.inj hF) dJ7_fill_d0a16_22
    · have hF := it_n c1 hF
      refine lv_aload_n hx hb dJ7_fill_d0a16_12 rfl (lv_at hl 0 rfl) ?_
      refine lv_iload_n hx hb dJ7_fill_d0a16_13 rfl (lv_at hl 2 rfl) ?_
      refine lv_lload_n hx hb dJ7_fill_d0a16_14 rfl (lv_at hl 1 rfl) ?_
      obtain ⟨j2, hj2, gj2, hF⟩ := ix_e hF
      obtain ⟨M3, eM3, hF⟩ := pin_e hF
      refine x_last cx hW hS h0 (by decide) hj2 gj2 eM3 dJ7_fill_d0a16_15 (fun H locs hW hS => ?_)
      refine lv_iinc (v := (x3 + 1)) (lv' := [(3, .int (x3 + 1)), (0, .ref (g_ad G a0)), (1, .long a1), (4, .int x4)]) hx hb dJ7_fill_d0a16_16 hl (k := 2) rfl rfl (by decide) rfl (fun ls hl => ?_)
      refine lv_goto (tgt := 6) hx hb dJ7_fill_d0a16_19 (by decide) ?_
      exact ih (x3 + 1) x4 M3 hF _ _ _ hW hS (lv_sub hl [1, 2, 0, 3] rfl)
def F_J7_fill_d0a16 (a0 : Nat) (a1 : Int64) (M : Mem) : Option Mem := F_J7_fill_d0a16_6 a0 a1 FU (0 : Int32) (40 : Int32) M
set_option maxHeartbeats 4000000 in
set_option maxRecDepth 100000 in
theorem c_J7_fill_d0a16 {l : Launch} {G : GG} {a0 : Nat} {a1 : Int64} (h0 : kd a0 = 1000 + 40) {M : Mem} {M1 : Mem} (hF : F_J7_fill_d0a16 a0 a1 M = some M1) : Met l yJ7_fill_d0a16 (wz yJ7_fill_d0a16 cJ7_fill_d0a16 5 none) (RM 0 0) (PreC G [.ref (g_ad G a0), .long a1] M) (QcV G M1) 0 0 (g_A G) := by
  rw [F_J7_fill_d0a16] at hF
  refine x_start (by decide) (Nat.le_of_ble_eq_true rfl) (lv := [(0, .ref (g_ad G a0)), (1, .long a1)]) rfl ?_
  intro p e s m below meth c cx hr hW hS ls hl
  obtain ⟨hx, hb, hml, hown, hts, hKK, hSS, hlk⟩ := id cx
  refine lv_iconst (v := (0 : Int32)) hx hb dJ7_fill_d0a16_0 (by decide) ?_
  refine lv_istore_n (lv' := [(3, .int (0 : Int32)), (0, .ref (g_ad G a0)), (1, .long a1)]) hx hb dJ7_fill_d0a16_1 rfl hl (by decide) rfl (fun ls hl => ?_)
  refine lv_aload_n hx hb dJ7_fill_d0a16_2 rfl (lv_at hl 1 rfl) ?_
  refine x_alenJ (v := (40 : Int32)) cx hW h0 (by decide) (by decide) dJ7_fill_d0a16_3 ?_
  refine lv_istore (lv' := [(4, .int (40 : Int32)), (3, .int (0 : Int32)), (0, .ref (g_ad G a0)), (1, .long a1)]) hx hb dJ7_fill_d0a16_4 hl (by decide) rfl (fun ls hl => ?_)
  exact t_J7_fill_d0a16_6 cx hr h0 FU (0 : Int32) (40 : Int32) M hF _ _ _ hW hS (lv_sub hl [2, 3, 1, 0] rfl)
def F_X6_earned_28 (a0 : Int32) (a1 : Int32) (a2 : Int32) (a3 : Int32) (a4 : Int32) (M : Mem) (x5 : Int32) (x6 : Int32) (t0 : Int32) : Option Int32 := (if a0 = (1 : Int32) then some x6 else (if a0 = (2 : Int32) then some t0 else (if a0 = (3 : Int32) then some (1 : Int32) else (if a0 = (4 : Int32) then some (if (0 : Int32) < (x6 - (a4 / (4 : Int32))) then (x6 - (a4 / (4 : Int32))) else (0 : Int32)) else (if a0 = (5 : Int32) then some ((2 : Int32) * t0) else some x5)))))
set_option maxHeartbeats 4000000 in
set_option maxRecDepth 100000 in
theorem t_X6_earned_28 {p : Program} {l : Launch} {e : Env} {s : State} {m : MethodId} {args : Array Value} {below : List Frame} {meth : Method} {c : Code} {G : GG} {a0 : Int32} {a1 : Int32} {a2 : Int32} {a3 : Int32} {a4 : Int32} (cx : Cx G cX6_earned RX6 8 p s m args meth c) (hr : meth.sig.returnType = (some .int))   {M : Mem} {r : Int32} : ∀ (x5 : Int32) (x6 : Int32) (t0 : Int32), F_X6_earned_28 a0 a1 a2 a3 a4 M x5 x6 t0 = some r → ∀ (H : Heap) (locs : List Loc) (ls : Array Slot), WH G M H → va_S (g_A G) s.heap H locs → lv_has ls 8 [(0, .int a0), (4, .int a4), (5, .int x5), (6, .int x6)] → W p l e (RM 1 21) s m args below meth c H locs 0 0 (MQ below (QcI G r M) args s 0 0 (g_A G)) (F0 m 28 ls [.int t0]) := by
  obtain ⟨hx, hb, hml, hown, hts, hKK, hSS, hlk⟩ := id cx
  intro x5 x6 t0 hF H locs ls hW hS hl
  rw [F_X6_earned_28] at hF
  refine lv_istore (lv' := [(7, .int t0), (0, .int a0), (4, .int a4), (5, .int x5), (6, .int x6)]) hx hb dX6_earned_28 hl (by decide) rfl (fun ls hl => ?_)
  refine lv_iload_n hx hb dX6_earned_30 rfl (lv_at hl 1 rfl) ?_
  refine x_sw (1 : Int32) (fun c2 => ?_) (fun c2 => ?_)
  · have hF := it_p c2 hF
    refine x_tab (tgt := 64) cx dX6_earned_31 c2 (by decide) (by decide) rfl (by decide) ?_
    refine lv_iload hx hb dX6_earned_64 (lv_at hl 4 rfl) ?_
    exact x_iret cx hr hW hS (Option.some.inj hF) rfl dX6_earned_66
  · have hF := it_n c2 hF
    refine x_sw (2 : Int32) (fun c3 => ?_) (fun c3 => ?_)
    · have hF := it_p c3 hF
      refine x_tab (tgt := 67) cx dX6_earned_31 c3 (by decide) (by decide) rfl (by decide) ?_
      refine lv_iload hx hb dX6_earned_67 (lv_at hl 0 rfl) ?_
      exact x_iret cx hr hW hS (Option.some.inj hF) rfl dX6_earned_69
    · have hF := it_n c3 hF
      refine x_sw (3 : Int32) (fun c4 => ?_) (fun c4 => ?_)
      · have hF := it_p c4 hF
        refine x_tab (tgt := 70) cx dX6_earned_31 c4 (by decide) (by decide) rfl (by decide) ?_
        refine lv_iconst (v := (1 : Int32)) hx hb dX6_earned_70 (by decide) ?_
        exact x_iret cx hr hW hS (Option.some.inj hF) rfl dX6_earned_71
      · have hF := it_n c4 hF
        refine x_sw (4 : Int32) (fun c5 => ?_) (fun c5 => ?_)
        · have hF := it_p c5 hF
          refine x_tab (tgt := 72) cx dX6_earned_31 c5 (by decide) (by decide) rfl (by decide) ?_
          refine lv_iconst (v := (0 : Int32)) hx hb dX6_earned_72 (by decide) ?_
          refine lv_iload hx hb dX6_earned_73 (lv_at hl 4 rfl) ?_
          refine lv_iload hx hb dX6_earned_75 (lv_at hl 2 rfl) ?_
          refine lv_iconst (v := (4 : Int32)) hx hb dX6_earned_77 (by decide) ?_
          refine lv_idiv hx hb dX6_earned_78 (by decide) ?_
          refine lv_isub hx hb dX6_earned_79 ?_
          refine x_max cx cm_X6_15 hl.1 (Nat.le_of_ble_eq_true rfl) (Nat.le_of_ble_eq_true rfl) dX6_earned_80 ?_
          exact x_iret cx hr hW hS (Option.some.inj hF) rfl dX6_earned_83
        · have hF := it_n c5 hF
          refine x_sw (5 : Int32) (fun c6 => ?_) (fun c6 => ?_)
          · have hF := it_p c6 hF
            refine x_tab (tgt := 84) cx dX6_earned_31 c6 (by decide) (by decide) rfl (by decide) ?_
            refine lv_iconst (v := (2 : Int32)) hx hb dX6_earned_84 (by decide) ?_
            refine lv_iload hx hb dX6_earned_85 (lv_at hl 0 rfl) ?_
            refine lv_imul hx hb dX6_earned_87 ?_
            exact x_iret cx hr hW hS (Option.some.inj hF) rfl dX6_earned_88
          · have hF := it_n c6 hF
            refine lv_tableOut (tgt := 89) hx hb dX6_earned_31 (by have z0 := lv_neT c2 (a := 1) (by decide); have z1 := lv_neT c3 (a := 2) (by decide); have z2 := lv_neT c4 (a := 3) (by decide); have z3 := lv_neT c5 (a := 4) (by decide); have z4 := lv_neT c6 (a := 5) (by decide); omega) (by decide) ?_
            refine lv_iload hx hb dX6_earned_89 (lv_at hl 3 rfl) ?_
            exact x_iret cx hr hW hS (Option.some.inj hF) rfl dX6_earned_91
def F_X6_earned (a0 : Int32) (a1 : Int32) (a2 : Int32) (a3 : Int32) (a4 : Int32) (M : Mem) : Option Int32 := (if (50 : Int32) ≤ a3 then F_X6_earned_28 a0 a1 a2 a3 a4 M ((a1 + a2) / (2 : Int32)) (((a1 + a2) / (2 : Int32)) + (2 : Int32)) ((a1 + a2) / (2 : Int32)) else F_X6_earned_28 a0 a1 a2 a3 a4 M ((a1 + a2) / (2 : Int32)) (((a1 + a2) / (2 : Int32)) + (2 : Int32)) (((a1 + a2) / (2 : Int32)) + (4 : Int32)))
set_option maxHeartbeats 4000000 in
set_option maxRecDepth 100000 in
theorem c_X6_earned {l : Launch} {G : GG} {a0 : Int32} {a1 : Int32} {a2 : Int32} {a3 : Int32} {a4 : Int32}  {M : Mem} {r : Int32} (hF : F_X6_earned a0 a1 a2 a3 a4 M = some r) : Met l yX6_earned (wz yX6_earned cX6_earned 8 (some .int)) (RM 1 21) (PreC G [.int a0, .int a1, .int a2, .int a3, .int a4] M) (QcI G r M) 0 0 (g_A G) := by
  rw [F_X6_earned] at hF
  refine x_start (by decide) (Nat.le_of_ble_eq_true rfl) (lv := [(0, .int a0), (1, .int a1), (2, .int a2), (3, .int a3), (4, .int a4)]) rfl ?_
  intro p e s m below meth c cx hr hW hS ls hl
  obtain ⟨hx, hb, hml, hown, hts, hKK, hSS, hlk⟩ := id cx
  refine lv_iload_n hx hb dX6_earned_0 rfl (lv_at hl 1 rfl) ?_
  refine lv_iload_n hx hb dX6_earned_1 rfl (lv_at hl 2 rfl) ?_
  refine lv_iadd hx hb dX6_earned_2 ?_
  refine lv_iconst (v := (2 : Int32)) hx hb dX6_earned_3 (by decide) ?_
  refine lv_idiv hx hb dX6_earned_4 (by decide) ?_
  refine lv_istore (lv' := [(5, .int ((a1 + a2) / (2 : Int32))), (0, .int a0), (1, .int a1), (2, .int a2), (3, .int a3), (4, .int a4)]) hx hb dX6_earned_5 hl (by decide) rfl (fun ls hl => ?_)
  refine lv_iload hx hb dX6_earned_7 (lv_at hl 0 rfl) ?_
  refine lv_iconst (v := (2 : Int32)) hx hb dX6_earned_9 (by decide) ?_
  refine lv_iadd hx hb dX6_earned_10 ?_
  refine lv_istore (lv' := [(6, .int (((a1 + a2) / (2 : Int32)) + (2 : Int32))), (5, .int ((a1 + a2) / (2 : Int32))), (0, .int a0), (1, .int a1), (2, .int a2), (3, .int a3), (4, .int a4)]) hx hb dX6_earned_11 hl (by decide) rfl (fun ls hl => ?_)
  refine lv_iload_n hx hb dX6_earned_13 rfl (lv_at hl 5 rfl) ?_
  refine lv_bipush (v := (50 : Int32)) hx hb dX6_earned_14 (by decide) ?_
  refine lv_icmp_ge (tgt := 26) hx hb dX6_earned_16 (by decide) (fun c1 => ?_) (fun c1 => ?_)
  · have hF := it_p c1 hF
    refine lv_iload hx hb dX6_earned_26 (lv_at hl 1 rfl) ?_
    exact t_X6_earned_28 cx hr ((a1 + a2) / (2 : Int32)) (((a1 + a2) / (2 : Int32)) + (2 : Int32)) ((a1 + a2) / (2 : Int32)) hF _ _ _ hW hS (lv_sub hl [2, 6, 1, 0] rfl)
  · have hF := it_n c1 hF
    refine lv_iload hx hb dX6_earned_19 (lv_at hl 1 rfl) ?_
    refine lv_iconst (v := (4 : Int32)) hx hb dX6_earned_21 (by decide) ?_
    refine lv_iadd hx hb dX6_earned_22 ?_
    refine lv_goto (tgt := 28) hx hb dX6_earned_23 (by decide) ?_
    exact t_X6_earned_28 cx hr ((a1 + a2) / (2 : Int32)) (((a1 + a2) / (2 : Int32)) + (2 : Int32)) (((a1 + a2) / (2 : Int32)) + (4 : Int32)) hF _ _ _ hW hS (lv_sub hl [2, 6, 1, 0] rfl)
def F_X1_ordered (a0 : Int32) (M : Mem) : Option Int32 := ix 9 a0 (fun j1 => some (s_O j1))
set_option maxHeartbeats 4000000 in
set_option maxRecDepth 100000 in
theorem c_X1_ordered {l : Launch} {G : GG} {a0 : Int32}  {M : Mem} {r : Int32} (hF : F_X1_ordered a0 M = some r) : Met l yX1_ordered (wz yX1_ordered cX1_ordered 1 (some .int)) (RM 0 0) (PreC G [.int a0] M) (QcI G r M) 0 0 (g_A G) := by
  rw [F_X1_ordered] at hF
  refine x_start (by decide) (Nat.le_of_ble_eq_true rfl) (lv := [(0, .int a0)]) rfl ?_
  intro p e s m below meth c cx hr hW hS ls hl
  obtain ⟨hx, hb, hml, hown, hts, hKK, hSS, hlk⟩ := id cx
  refine x_gets cx hSS.2.1.1 hS q_gs_X1_7 dX1_ordered_0 ?_
  refine lv_iload_n hx hb dX1_ordered_3 rfl (lv_at hl 0 rfl) ?_
  obtain ⟨j1, hj1, gj1, hF⟩ := ix_e hF
  refine x_sald cx hSS.2.1.2 hS hj1 gj1 dX1_ordered_4 ?_
  exact x_iret cx hr hW hS (Option.some.inj hF) rfl dX1_ordered_5
def F_X1_deranged (a0 : Int32) (M : Mem) : Option Int32 := ix 9 a0 (fun j1 => some (s_R j1))
set_option maxHeartbeats 4000000 in
set_option maxRecDepth 100000 in
theorem c_X1_deranged {l : Launch} {G : GG} {a0 : Int32}  {M : Mem} {r : Int32} (hF : F_X1_deranged a0 M = some r) : Met l yX1_deranged (wz yX1_deranged cX1_deranged 1 (some .int)) (RM 0 0) (PreC G [.int a0] M) (QcI G r M) 0 0 (g_A G) := by
  rw [F_X1_deranged] at hF
  refine x_start (by decide) (Nat.le_of_ble_eq_true rfl) (lv := [(0, .int a0)]) rfl ?_
  intro p e s m below meth c cx hr hW hS ls hl
  obtain ⟨hx, hb, hml, hown, hts, hKK, hSS, hlk⟩ := id cx
  refine x_gets cx hSS.2.2.1.1 hS q_gs_X1_13 dX1_deranged_0 ?_
  refine lv_iload_n hx hb dX1_deranged_3 rfl (lv_at hl 0 rfl) ?_
  obtain ⟨j1, hj1, gj1, hF⟩ := ix_e hF
  refine x_sald cx hSS.2.2.1.2 hS hj1 gj1 dX1_deranged_4 ?_
  exact x_iret cx hr hW hS (Option.some.inj hF) rfl dX1_deranged_5
def F_X1_withOwn (a0 : Int32) (a1 : Int32) (M : Mem) : Option Int32 := (if a1 ≤ a0 then ix 9 a1 (fun j2 => ix 9 (a0 - a1) (fun j3 => pin (if (1 : Int32) < ((s_O j2) * (s_O j3)) then ((s_O j2) * (s_O j3)) else (1 : Int32)) (fun y4 => ix 9 a0 (fun j5 => dv y4 (ix 9 (a0 - a1) (fun j7 => some (((s_O j5) / y4) * (s_R j7)))))))) else some (0 : Int32))
set_option maxHeartbeats 4000000 in
set_option maxRecDepth 100000 in
theorem c_X1_withOwn {l : Launch} {G : GG} {a0 : Int32} {a1 : Int32}  {M : Mem} {r : Int32} (hF : F_X1_withOwn a0 a1 M = some r) : Met l yX1_withOwn (wz yX1_withOwn cX1_withOwn 3 (some .int)) (RM 1 21) (PreC G [.int a0, .int a1] M) (QcI G r M) 0 0 (g_A G) := by
  rw [F_X1_withOwn] at hF
  refine x_start (by decide) (Nat.le_of_ble_eq_true rfl) (lv := [(0, .int a0), (1, .int a1)]) rfl ?_
  intro p e s m below meth c cx hr hW hS ls hl
  obtain ⟨hx, hb, hml, hown, hts, hKK, hSS, hlk⟩ := id cx
  refine lv_iload_n hx hb dX1_withOwn_0 rfl (lv_at hl 1 rfl) ?_
  refine lv_iload_n hx hb dX1_withOwn_1 rfl (lv_at hl 0 rfl) ?_
  refine lv_icmp_le (tgt := 7) hx hb dX1_withOwn_2 (by decide) (fun c1 => ?_) (fun c1 => ?_)
  · have hF := it_p c1 hF
    refine lv_iconst (v := (1 : Int32)) hx hb dX1_withOwn_7 (by decide) ?_
    refine x_gets cx hSS.2.1.1 hS q_gs_X1_7 dX1_withOwn_8 ?_
    refine lv_iload_n hx hb dX1_withOwn_11 rfl (lv_at hl 1 rfl) ?_
    obtain ⟨j2, hj2, gj2, hF⟩ := ix_e hF
    refine x_sald cx hSS.2.1.2 hS hj2 gj2 dX1_withOwn_12 ?_
    refine x_gets cx hSS.2.1.1 hS q_gs_X1_7 dX1_withOwn_13 ?_
    refine lv_iload_n hx hb dX1_withOwn_16 rfl (lv_at hl 0 rfl) ?_
    refine lv_iload_n hx hb dX1_withOwn_17 rfl (lv_at hl 1 rfl) ?_
    refine lv_isub hx hb dX1_withOwn_18 ?_
    obtain ⟨j3, hj3, gj3, hF⟩ := ix_e hF
    refine x_sald cx hSS.2.1.2 hS hj3 gj3 dX1_withOwn_19 ?_
    refine lv_imul hx hb dX1_withOwn_20 ?_
    refine x_max cx cm_X1_16 hl.1 (Nat.le_of_ble_eq_true rfl) (Nat.le_of_ble_eq_true rfl) dX1_withOwn_21 ?_
    refine x_pini hF (fun y4 hF => ?_)
    refine lv_istore_n (lv' := [(2, .int y4), (0, .int a0), (1, .int a1)]) hx hb dX1_withOwn_24 rfl hl (by decide) rfl (fun ls hl => ?_)
    refine x_gets cx hSS.2.1.1 hS q_gs_X1_7 dX1_withOwn_25 ?_
    refine lv_iload_n hx hb dX1_withOwn_28 rfl (lv_at hl 1 rfl) ?_
    obtain ⟨j5, hj5, gj5, hF⟩ := ix_e hF
    refine x_sald cx hSS.2.1.2 hS hj5 gj5 dX1_withOwn_29 ?_
    refine lv_iload_n hx hb dX1_withOwn_30 rfl (lv_at hl 0 rfl) ?_
    obtain ⟨d6, hF⟩ := dv_e hF
    refine lv_idiv hx hb dX1_withOwn_31 d6 ?_
    refine x_gets cx hSS.2.2.1.1 hS q_gs_X1_13 dX1_withOwn_32 ?_
    refine lv_iload_n hx hb dX1_withOwn_35 rfl (lv_at hl 1 rfl) ?_
    refine lv_iload_n hx hb dX1_withOwn_36 rfl (lv_at hl 2 rfl) ?_
    refine lv_isub hx hb dX1_withOwn_37 ?_
    obtain ⟨j7, hj7, gj7, hF⟩ := ix_e hF
    refine x_sald cx hSS.2.2.1.2 hS hj7 gj7 dX1_withOwn_38 ?_
    refine lv_imul hx hb dX1_withOwn_39 ?_
    exact x_iret cx hr hW hS (Option.some.inj hF) rfl dX1_withOwn_40
  · have hF := it_n c1 hF
    refine lv_iconst (v := (0 : Int32)) hx hb dX1_withOwn_5 (by decide) ?_
    exact x_iret cx hr hW hS (Option.some.inj hF) rfl dX1_withOwn_6
def F_X1_commonDivisor_7 (a0 : Int32) (a1 : Int32) (M : Mem) : Nat → Int32 → Int32 → Int32 → Option Int32
  | 0, _, _, _ => none
  | n + 1, x2, x3, x4 => (if (64 : Int32) ≤ x4 then some x2 else (if x3 = 0 then some x2 else dv x3 (F_X1_commonDivisor_7 a0 a1 M n x3 (x2 - x2 / x3 * x3) (x4 + 1))))
set_option maxHeartbeats 4000000 in
set_option maxRecDepth 100000 in
theorem t_X1_commonDivisor_7 {p : Program} {l : Launch} {e : Env} {s : State} {m : MethodId} {args : Array Value} {below : List Frame} {meth : Method} {c : Code} {G : GG} {a0 : Int32} {a1 : Int32} (cx : Cx G cX1_commonDivisor RX1 6 p s m args meth c) (hr : meth.sig.returnType = (some .int))   {M : Mem} {r : Int32} : ∀ (n : Nat) (x2 : Int32) (x3 : Int32) (x4 : Int32), F_X1_commonDivisor_7 a0 a1 M n x2 x3 x4 = some r → ∀ (H : Heap) (locs : List Loc) (ls : Array Slot), WH G M H → va_S (g_A G) s.heap H locs → lv_has ls 6 [(2, .int x2), (3, .int x3), (4, .int x4)] → W p l e (RM 0 0) s m args below meth c H locs 0 0 (MQ below (QcI G r M) args s 0 0 (g_A G)) (F0 m 7 ls []) := by
  obtain ⟨hx, hb, hml, hown, hts, hKK, hSS, hlk⟩ := id cx
  intro n
  induction n with
  | zero =>
    intro x2 x3 x4 hF H locs ls hW hS hl
    rw [F_X1_commonDivisor_7] at hF
    cases hF
  | succ n ih =>
    intro x2 x3 x4 hF H locs ls hW hS hl
    rw [F_X1_commonDivisor_7] at hF
    refine lv_iload hx hb dX1_commonDivisor_7 (lv_at hl 2 rfl) ?_
    refine lv_bipush (v := (64 : Int32)) hx hb dX1_commonDivisor_9 (by decide) ?_
    refine lv_icmp_ge (tgt := 34) hx hb dX1_commonDivisor_11 (by decide) (fun c1 => ?_) (fun c1 => ?_)
    · have hF := it_p c1 hF
      refine lv_iload_n hx hb dX1_commonDivisor_34 rfl (lv_at hl 0 rfl) ?_
      exact x_iret cx hr hW hS (Option.some.inj hF) rfl dX1_commonDivisor_35
    · have hF := it_n c1 hF
      refine lv_iload_n hx hb dX1_commonDivisor_14 rfl (lv_at hl 1 rfl) ?_
      refine lv_if_eq (tgt := 34) hx hb dX1_commonDivisor_15 (by decide) (fun c2 => ?_) (fun c2 => ?_)
      · have hF := it_p c2 hF
        refine lv_iload_n hx hb dX1_commonDivisor_34 rfl (lv_at hl 0 rfl) ?_
        exact x_iret cx hr hW hS (Option.some.inj hF) rfl dX1_commonDivisor_35
      · have hF := it_n c2 hF
        refine lv_iload_n hx hb dX1_commonDivisor_18 rfl (lv_at hl 0 rfl) ?_
        refine lv_iload_n hx hb dX1_commonDivisor_19 rfl (lv_at hl 1 rfl) ?_
        obtain ⟨d3, hF⟩ := dv_e hF
        refine lv_irem hx hb dX1_commonDivisor_20 d3 ?_
        refine lv_istore (lv' := [(5, .int (x2 - x2 / x3 * x3)), (2, .int x2), (3, .int x3), (4, .int x4)]) hx hb dX1_commonDivisor_21 hl (by decide) rfl (fun ls hl => ?_)
        refine lv_iload_n hx hb dX1_commonDivisor_23 rfl (lv_at hl 2 rfl) ?_
        refine lv_istore_n (lv' := [(2, .int x3), (5, .int (x2 - x2 / x3 * x3)), (3, .int x3), (4, .int x4)]) hx hb dX1_commonDivisor_24 rfl hl (by decide) rfl (fun ls hl => ?_)
        refine lv_iload hx hb dX1_commonDivisor_25 (lv_at hl 1 rfl) ?_
        refine lv_istore_n (lv' := [(3, .int (x2 - x2 / x3 * x3)), (2, .int x3), (5, .int (x2 - x2 / x3 * x3)), (4, .int x4)]) hx hb dX1_commonDivisor_27 rfl hl (by decide) rfl (fun ls hl => ?_)
        refine lv_iinc (v := (x4 + 1)) (lv' := [(4, .int (x4 + 1)), (3, .int (x2 - x2 / x3 * x3)), (2, .int x3), (5, .int (x2 - x2 / x3 * x3))]) hx hb dX1_commonDivisor_28 hl (k := 3) rfl rfl (by decide) rfl (fun ls hl => ?_)
        refine lv_goto (tgt := 7) hx hb dX1_commonDivisor_31 (by decide) ?_
        exact ih x3 (x2 - x2 / x3 * x3) (x4 + 1) hF _ _ _ hW hS (lv_sub hl [2, 1, 0] rfl)
def F_X1_commonDivisor (a0 : Int32) (a1 : Int32) (M : Mem) : Option Int32 := F_X1_commonDivisor_7 a0 a1 M FU a0 a1 (0 : Int32)
set_option maxHeartbeats 4000000 in
set_option maxRecDepth 100000 in
theorem c_X1_commonDivisor {l : Launch} {G : GG} {a0 : Int32} {a1 : Int32}  {M : Mem} {r : Int32} (hF : F_X1_commonDivisor a0 a1 M = some r) : Met l yX1_commonDivisor (wz yX1_commonDivisor cX1_commonDivisor 6 (some .int)) (RM 0 0) (PreC G [.int a0, .int a1] M) (QcI G r M) 0 0 (g_A G) := by
  rw [F_X1_commonDivisor] at hF
  refine x_start (by decide) (Nat.le_of_ble_eq_true rfl) (lv := [(0, .int a0), (1, .int a1)]) rfl ?_
  intro p e s m below meth c cx hr hW hS ls hl
  obtain ⟨hx, hb, hml, hown, hts, hKK, hSS, hlk⟩ := id cx
  refine lv_iload_n hx hb dX1_commonDivisor_0 rfl (lv_at hl 0 rfl) ?_
  refine lv_istore_n (lv' := [(2, .int a0), (0, .int a0), (1, .int a1)]) hx hb dX1_commonDivisor_1 rfl hl (by decide) rfl (fun ls hl => ?_)
  refine lv_iload_n hx hb dX1_commonDivisor_2 rfl (lv_at hl 2 rfl) ?_
  refine lv_istore_n (lv' := [(3, .int a1), (2, .int a0), (0, .int a0), (1, .int a1)]) hx hb dX1_commonDivisor_3 rfl hl (by decide) rfl (fun ls hl => ?_)
  refine lv_iconst (v := (0 : Int32)) hx hb dX1_commonDivisor_4 (by decide) ?_
  refine lv_istore (lv' := [(4, .int (0 : Int32)), (3, .int a1), (2, .int a0), (0, .int a0), (1, .int a1)]) hx hb dX1_commonDivisor_5 hl (by decide) rfl (fun ls hl => ?_)
  exact t_X1_commonDivisor_7 cx hr FU a0 a1 (0 : Int32) hF _ _ _ hW hS (lv_sub hl [2, 1, 0] rfl)
def F_X2_isMissing (a0 : Nat) (M : Mem) : Option Int32 := (if (m_I M a0 1) = 0 then some (1 : Int32) else some (0 : Int32))
set_option maxHeartbeats 4000000 in
set_option maxRecDepth 100000 in
theorem c_X2_isMissing {l : Launch} {G : GG} {a0 : Nat} (h0 : kd a0 = 1) {M : Mem} {r : Int32} (hF : F_X2_isMissing a0 M = some r) : Met l yX2_isMissing (wz yX2_isMissing cX2_isMissing 1 (some .boolean)) (RM 0 0) (PreC G [.ref (g_ad G a0)] M) (QcI G r M) 0 0 (g_A G) := by
  rw [F_X2_isMissing] at hF
  refine x_start (by decide) (Nat.le_of_ble_eq_true rfl) (lv := [(0, .ref (g_ad G a0))]) rfl ?_
  intro p e s m below meth c cx hr hW hS ls hl
  obtain ⟨hx, hb, hml, hown, hts, hKK, hSS, hlk⟩ := id cx
  refine lv_aload_n hx hb dX2_isMissing_0 rfl (lv_at hl 0 rfl) ?_
  refine x_get cx hW h0 fk_X2_15 (v := .int (m_I M a0 1)) rfl dX2_isMissing_1 ?_
  refine lv_if_ne (tgt := 11) hx hb dX2_isMissing_4 (by decide) (fun c1 => ?_) (fun c1 => ?_)
  · have hF := it_n c1 hF
    refine lv_iconst (v := (0 : Int32)) hx hb dX2_isMissing_11 (by decide) ?_
    exact x_zret cx hr (by decide) hW hS (Option.some.inj hF) rfl dX2_isMissing_12
  · have hF := it_p c1 hF
    refine lv_iconst (v := (1 : Int32)) hx hb dX2_isMissing_7 (by decide) ?_
    refine lv_goto (tgt := 12) hx hb dX2_isMissing_8 (by decide) ?_
    exact x_zret cx hr (by decide) hW hS (Option.some.inj hF) rfl dX2_isMissing_12
def F_X2_begin (a0 : Nat) (a1 : Int32) (a2 : Int32) (M : Mem) : Option (Int32 × Mem) := pin (w_I M a0 1 a1) (fun M1 => (if a1 = 0 then pin (w_I M1 a0 2 (0 : Int32)) (fun M6 => (F_J7_fill_d0a16 (a0 + 1) (0 : Int64) M6).bind (fun M8 => some ((m_I M8 a0 2), M8))) else pin (w_I M1 a0 2 a2) (fun M3 => (F_J7_fill_d0a16 (a0 + 1) (0 : Int64) M3).bind (fun M5 => some ((m_I M5 a0 2), M5)))))
set_option maxHeartbeats 4000000 in
set_option maxRecDepth 100000 in
theorem c_X2_begin {l : Launch} {G : GG} {a0 : Nat} {a1 : Int32} {a2 : Int32} (h0 : kd a0 = 1) {M : Mem} {r : Int32} {M1 : Mem} (hF : F_X2_begin a0 a1 a2 M = some (r, M1)) : Met l yX2_begin (wz yX2_begin cX2_begin 3 (some .int)) (RM 1 24) (PreC G [.ref (g_ad G a0), .int a1, .int a2] M) (QcI G r M1) 0 0 (g_A G) := by
  rw [F_X2_begin] at hF
  refine x_start (by decide) (Nat.le_of_ble_eq_true rfl) (lv := [(0, .ref (g_ad G a0)), (1, .int a1), (2, .int a2)]) rfl ?_
  intro p e s m below meth c cx hr hW hS ls hl
  obtain ⟨hx, hb, hml, hown, hts, hKK, hSS, hlk⟩ := id cx
  refine lv_aload_n hx hb dX2_begin_0 rfl (lv_at hl 0 rfl) ?_
  refine lv_iload_n hx hb dX2_begin_1 rfl (lv_at hl 1 rfl) ?_
  obtain ⟨M1, eM1, hF⟩ := pin_e hF
  refine x_puti cx hW hS h0 fk_X2_15 ft_1_1 (Nat.le_of_ble_eq_true rfl) fs_1_1 eM1 dX2_begin_2 (fun H locs hW hS => ?_)
  refine lv_aload_n hx hb dX2_begin_5 rfl (lv_at hl 0 rfl) ?_
  refine lv_iload_n hx hb dX2_begin_6 rfl (lv_at hl 1 rfl) ?_
  refine lv_if_ne (tgt := 14) hx hb dX2_begin_7 (by decide) (fun c2 => ?_) (fun c2 => ?_)
  · have hF := it_n c2 hF
    refine lv_iload_n hx hb dX2_begin_14 rfl (lv_at hl 2 rfl) ?_
    obtain ⟨M3, eM3, hF⟩ := pin_e hF
    refine x_puti cx hW hS h0 fk_X2_19 ft_1_2 (Nat.le_of_ble_eq_true rfl) fs_1_2 eM3 dX2_begin_15 (fun H locs hW hS => ?_)
    refine lv_aload_n hx hb dX2_begin_18 rfl (lv_at hl 0 rfl) ?_
    refine x_get cx hW h0 fk_X2_9 (v := .ref (g_ad G (a0 + 1))) rfl dX2_begin_19 ?_
    refine lv_lconst (v := (0 : Int64)) hx hb dX2_begin_22 (by decide) ?_
    obtain ⟨M5, hc4, hF⟩ := bi_e hF
    refine x_gov (x_runS cx hW hS (c_J7_fill_d0a16 (l := l) (G := G) (kd_s h0) hc4) cs_X2_22 (rest := []) ⟨Nat.le_of_ble_eq_true rfl, Nat.le_of_ble_eq_true rfl⟩ hl.1 rfl rfl (Nat.le_of_ble_eq_true rfl) ⟨Nat.zero_le _, Nat.zero_le _⟩ dX2_begin_23) hS (fun H locs hW hS => ?_)
    refine lv_aload_n hx hb dX2_begin_26 rfl (lv_at hl 0 rfl) ?_
    refine x_get cx hW h0 fk_X2_19 (v := .int (m_I M5 a0 2)) rfl dX2_begin_27 ?_
    exact x_iret cx hr hW hS (sp_1 hF) (sp_2 hF) dX2_begin_30
  · have hF := it_p c2 hF
    refine lv_iconst (v := (0 : Int32)) hx hb dX2_begin_10 (by decide) ?_
    refine lv_goto (tgt := 15) hx hb dX2_begin_11 (by decide) ?_
    obtain ⟨M6, eM6, hF⟩ := pin_e hF
    refine x_puti cx hW hS h0 fk_X2_19 ft_1_2 (Nat.le_of_ble_eq_true rfl) fs_1_2 eM6 dX2_begin_15 (fun H locs hW hS => ?_)
    refine lv_aload_n hx hb dX2_begin_18 rfl (lv_at hl 0 rfl) ?_
    refine x_get cx hW h0 fk_X2_9 (v := .ref (g_ad G (a0 + 1))) rfl dX2_begin_19 ?_
    refine lv_lconst (v := (0 : Int64)) hx hb dX2_begin_22 (by decide) ?_
    obtain ⟨M8, hc7, hF⟩ := bi_e hF
    refine x_gov (x_runS cx hW hS (c_J7_fill_d0a16 (l := l) (G := G) (kd_s h0) hc7) cs_X2_22 (rest := []) ⟨Nat.le_of_ble_eq_true rfl, Nat.le_of_ble_eq_true rfl⟩ hl.1 rfl rfl (Nat.le_of_ble_eq_true rfl) ⟨Nat.zero_le _, Nat.zero_le _⟩ dX2_begin_23) hS (fun H locs hW hS => ?_)
    refine lv_aload_n hx hb dX2_begin_26 rfl (lv_at hl 0 rfl) ?_
    refine x_get cx hW h0 fk_X2_19 (v := .int (m_I M8 a0 2)) rfl dX2_begin_27 ?_
    exact x_iret cx hr hW hS (sp_1 hF) (sp_2 hF) dX2_begin_30
def F_X2_put (a0 : Nat) (a1 : Int32) (a2 : Int64) (M : Mem) : Option Mem := (if (m_I M a0 1) = (8 : Int32) then ix 40 a1 (fun j2 => pin (w_J M (a0 + 1) j2 (((a2.toInt32).toInt8.toInt32).toInt64)) (fun M3 => some M3)) else (if (m_I M a0 1) = (16 : Int32) then ix 40 a1 (fun j5 => pin (w_J M (a0 + 1) j5 (((a2.toInt32).toInt16.toInt32).toInt64)) (fun M6 => some M6)) else ix 40 a1 (fun j7 => pin (w_J M (a0 + 1) j7 a2) (fun M8 => some M8))))
set_option maxHeartbeats 4000000 in
set_option maxRecDepth 100000 in
theorem c_X2_put {l : Launch} {G : GG} {a0 : Nat} {a1 : Int32} {a2 : Int64} (h0 : kd a0 = 1) {M : Mem} {M1 : Mem} (hF : F_X2_put a0 a1 a2 M = some M1) : Met l yX2_put (wz yX2_put cX2_put 4 none) (RM 0 0) (PreC G [.ref (g_ad G a0), .int a1, .long a2] M) (QcV G M1) 0 0 (g_A G) := by
  rw [F_X2_put] at hF
  refine x_start (by decide) (Nat.le_of_ble_eq_true rfl) (lv := [(0, .ref (g_ad G a0)), (1, .int a1), (2, .long a2)]) rfl ?_
  intro p e s m below meth c cx hr hW hS ls hl
  obtain ⟨hx, hb, hml, hown, hts, hKK, hSS, hlk⟩ := id cx
  refine lv_aload_n hx hb dX2_put_0 rfl (lv_at hl 0 rfl) ?_
  refine x_get cx hW h0 fk_X2_15 (v := .int (m_I M a0 1)) rfl dX2_put_1 ?_
  refine x_sw (8 : Int32) (fun c1 => ?_) (fun c1 => ?_)
  · have hF := it_p c1 hF
    refine x_lkp (tgt := 32) (off := 28) cx dX2_put_4 (by decide) c1 (by decide) (by decide) ?_
    refine lv_aload_n hx hb dX2_put_32 rfl (lv_at hl 0 rfl) ?_
    refine x_get cx hW h0 fk_X2_9 (v := .ref (g_ad G (a0 + 1))) rfl dX2_put_33 ?_
    refine lv_iload_n hx hb dX2_put_36 rfl (lv_at hl 1 rfl) ?_
    refine lv_lload_n hx hb dX2_put_37 rfl (lv_at hl 2 rfl) ?_
    refine lv_l2i hx hb dX2_put_38 rfl ?_
    refine lv_i2b hx hb dX2_put_39 rfl ?_
    refine lv_i2l hx hb dX2_put_40 rfl ?_
    obtain ⟨j2, hj2, gj2, hF⟩ := ix_e hF
    obtain ⟨M3, eM3, hF⟩ := pin_e hF
    refine x_last cx hW hS (kd_s h0) (by decide) hj2 gj2 eM3 dX2_put_41 (fun H locs hW hS => ?_)
    refine lv_goto (tgt := 65) hx hb dX2_put_42 (by decide) ?_
    exact x_vret cx hr hW hS (Option.some.inj hF) dX2_put_65
  · have hF := it_n c1 hF
    refine x_sw (16 : Int32) (fun c4 => ?_) (fun c4 => ?_)
    · have hF := it_p c4 hF
      refine x_lkp (tgt := 45) (off := 41) cx dX2_put_4 (by decide) c4 (by decide) (by decide) ?_
      refine lv_aload_n hx hb dX2_put_45 rfl (lv_at hl 0 rfl) ?_
      refine x_get cx hW h0 fk_X2_9 (v := .ref (g_ad G (a0 + 1))) rfl dX2_put_46 ?_
      refine lv_iload_n hx hb dX2_put_49 rfl (lv_at hl 1 rfl) ?_
      refine lv_lload_n hx hb dX2_put_50 rfl (lv_at hl 2 rfl) ?_
      refine lv_l2i hx hb dX2_put_51 rfl ?_
      refine lv_i2s hx hb dX2_put_52 rfl ?_
      refine lv_i2l hx hb dX2_put_53 rfl ?_
      obtain ⟨j5, hj5, gj5, hF⟩ := ix_e hF
      obtain ⟨M6, eM6, hF⟩ := pin_e hF
      refine x_last cx hW hS (kd_s h0) (by decide) hj5 gj5 eM6 dX2_put_54 (fun H locs hW hS => ?_)
      refine lv_goto (tgt := 65) hx hb dX2_put_55 (by decide) ?_
      exact x_vret cx hr hW hS (Option.some.inj hF) dX2_put_65
    · have hF := it_n c4 hF
      refine lv_lookup (tgt := 58) (off := 54) hx hb dX2_put_4 (by decide) ((lv_osw (k := 8) c1 (by decide)).trans ((lv_osw (k := 16) c4 (by decide)).trans rfl)) (by decide) ?_
      refine lv_aload_n hx hb dX2_put_58 rfl (lv_at hl 0 rfl) ?_
      refine x_get cx hW h0 fk_X2_9 (v := .ref (g_ad G (a0 + 1))) rfl dX2_put_59 ?_
      refine lv_iload_n hx hb dX2_put_62 rfl (lv_at hl 1 rfl) ?_
      refine lv_lload_n hx hb dX2_put_63 rfl (lv_at hl 2 rfl) ?_
      obtain ⟨j7, hj7, gj7, hF⟩ := ix_e hF
      obtain ⟨M8, eM8, hF⟩ := pin_e hF
      refine x_last cx hW hS (kd_s h0) (by decide) hj7 gj7 eM8 dX2_put_64 (fun H locs hW hS => ?_)
      exact x_vret cx hr hW hS (Option.some.inj hF) dX2_put_65
def F_X2_hasRun (a0 : Nat) (a1 : Int32) (a2 : Int32) (M : Mem) : Option Int32 := (if a1 < 0 then some (0 : Int32) else (if a2 < 0 then some (0 : Int32) else (if (m_I M a0 2) < a1 then some (0 : Int32) else (if ((m_I M a0 2) - a1) < a2 then some (0 : Int32) else some (1 : Int32)))))
set_option maxHeartbeats 4000000 in
set_option maxRecDepth 100000 in
theorem c_X2_hasRun {l : Launch} {G : GG} {a0 : Nat} {a1 : Int32} {a2 : Int32} (h0 : kd a0 = 1) {M : Mem} {r : Int32} (hF : F_X2_hasRun a0 a1 a2 M = some r) : Met l yX2_hasRun (wz yX2_hasRun cX2_hasRun 3 (some .boolean)) (RM 0 0) (PreC G [.ref (g_ad G a0), .int a1, .int a2] M) (QcI G r M) 0 0 (g_A G) := by
  rw [F_X2_hasRun] at hF
  refine x_start (by decide) (Nat.le_of_ble_eq_true rfl) (lv := [(0, .ref (g_ad G a0)), (1, .int a1), (2, .int a2)]) rfl ?_
  intro p e s m below meth c cx hr hW hS ls hl
  obtain ⟨hx, hb, hml, hown, hts, hKK, hSS, hlk⟩ := id cx
  refine lv_iload_n hx hb dX2_hasRun_0 rfl (lv_at hl 1 rfl) ?_
  refine lv_if_lt (tgt := 30) hx hb dX2_hasRun_1 (by decide) (fun c1 => ?_) (fun c1 => ?_)
  · have hF := it_p c1 hF
    refine lv_iconst (v := (0 : Int32)) hx hb dX2_hasRun_30 (by decide) ?_
    exact x_zret cx hr (by decide) hW hS (Option.some.inj hF) rfl dX2_hasRun_31
  · have hF := it_n c1 hF
    refine lv_iload_n hx hb dX2_hasRun_4 rfl (lv_at hl 2 rfl) ?_
    refine lv_if_lt (tgt := 30) hx hb dX2_hasRun_5 (by decide) (fun c2 => ?_) (fun c2 => ?_)
    · have hF := it_p c2 hF
      refine lv_iconst (v := (0 : Int32)) hx hb dX2_hasRun_30 (by decide) ?_
      exact x_zret cx hr (by decide) hW hS (Option.some.inj hF) rfl dX2_hasRun_31
    · have hF := it_n c2 hF
      refine lv_iload_n hx hb dX2_hasRun_8 rfl (lv_at hl 1 rfl) ?_
      refine lv_aload_n hx hb dX2_hasRun_9 rfl (lv_at hl 0 rfl) ?_
      refine x_get cx hW h0 fk_X2_19 (v := .int (m_I M a0 2)) rfl dX2_hasRun_10 ?_
      refine lv_icmp_gt (tgt := 30) hx hb dX2_hasRun_13 (by decide) (fun c3 => ?_) (fun c3 => ?_)
      · have hF := it_p c3 hF
        refine lv_iconst (v := (0 : Int32)) hx hb dX2_hasRun_30 (by decide) ?_
        exact x_zret cx hr (by decide) hW hS (Option.some.inj hF) rfl dX2_hasRun_31
      · have hF := it_n c3 hF
        refine lv_iload_n hx hb dX2_hasRun_16 rfl (lv_at hl 2 rfl) ?_
        refine lv_aload_n hx hb dX2_hasRun_17 rfl (lv_at hl 0 rfl) ?_
        refine x_get cx hW h0 fk_X2_19 (v := .int (m_I M a0 2)) rfl dX2_hasRun_18 ?_
        refine lv_iload_n hx hb dX2_hasRun_21 rfl (lv_at hl 1 rfl) ?_
        refine lv_isub hx hb dX2_hasRun_22 ?_
        refine lv_icmp_gt (tgt := 30) hx hb dX2_hasRun_23 (by decide) (fun c4 => ?_) (fun c4 => ?_)
        · have hF := it_p c4 hF
          refine lv_iconst (v := (0 : Int32)) hx hb dX2_hasRun_30 (by decide) ?_
          exact x_zret cx hr (by decide) hW hS (Option.some.inj hF) rfl dX2_hasRun_31
        · have hF := it_n c4 hF
          refine lv_iconst (v := (1 : Int32)) hx hb dX2_hasRun_26 (by decide) ?_
          refine lv_goto (tgt := 31) hx hb dX2_hasRun_27 (by decide) ?_
          exact x_zret cx hr (by decide) hW hS (Option.some.inj hF) rfl dX2_hasRun_31
def F_X3_add (a1 : Int32) (M : Mem) : Option Mem := ix 120 (m_I M 37 1) (fun j1 => pin (w_I M 38 j1 a1) (fun M2 => pin (w_I M2 37 1 ((m_I M2 37 1) + (1 : Int32))) (fun M3 => some M3)))
set_option maxHeartbeats 4000000 in
set_option maxRecDepth 100000 in
theorem c_X3_add {l : Launch} {G : GG} {a1 : Int32}  {M : Mem} {M1 : Mem} (hF : F_X3_add a1 M = some M1) : Met l yX3_add (wz yX3_add cX3_add 2 none) (RM 0 0) (PreC G [.ref (g_ad G 37), .int a1] M) (QcV G M1) 0 0 (g_A G) := by
  rw [F_X3_add] at hF
  refine x_start (by decide) (Nat.le_of_ble_eq_true rfl) (lv := [(0, .ref (g_ad G 37)), (1, .int a1)]) rfl ?_
  intro p e s m below meth c cx hr hW hS ls hl
  obtain ⟨hx, hb, hml, hown, hts, hKK, hSS, hlk⟩ := id cx
  refine lv_aload_n hx hb dX3_add_0 rfl (lv_at hl 0 rfl) ?_
  refine x_get cx hW kc_37 fk_X3_9 (v := .ref (g_ad G 38)) rfl dX3_add_1 ?_
  refine lv_aload_n hx hb dX3_add_4 rfl (lv_at hl 0 rfl) ?_
  refine x_get cx hW kc_37 fk_X3_15 (v := .int (m_I M 37 1)) rfl dX3_add_5 ?_
  refine lv_iload_n hx hb dX3_add_8 rfl (lv_at hl 1 rfl) ?_
  obtain ⟨j1, hj1, gj1, hF⟩ := ix_e hF
  obtain ⟨M2, eM2, hF⟩ := pin_e hF
  refine x_iast cx hW hS kc_38 (by decide) hj1 gj1 eM2 dX3_add_9 (fun H locs hW hS => ?_)
  refine lv_aload_n hx hb dX3_add_10 rfl (lv_at hl 0 rfl) ?_
  refine lv_dup hx hb dX3_add_11 rfl ?_
  refine x_get cx hW kc_37 fk_X3_15 (v := .int (m_I M2 37 1)) rfl dX3_add_12 ?_
  refine lv_iconst (v := (1 : Int32)) hx hb dX3_add_15 (by decide) ?_
  refine lv_iadd hx hb dX3_add_16 ?_
  obtain ⟨M3, eM3, hF⟩ := pin_e hF
  refine x_puti cx hW hS kc_37 fk_X3_15 ft_2_1 (Nat.le_of_ble_eq_true rfl) fs_2_1 eM3 dX3_add_17 (fun H locs hW hS => ?_)
  exact x_vret cx hr hW hS (Option.some.inj hF) dX3_add_20
def F_X3_at (a1 : Int32) (M : Mem) : Option Int32 := (if a1 < 0 then some (-1 : Int32) else (if (m_I M 37 1) ≤ a1 then some (-1 : Int32) else ix 120 a1 (fun j3 => some (m_I M 38 j3))))
set_option maxHeartbeats 4000000 in
set_option maxRecDepth 100000 in
theorem c_X3_at {l : Launch} {G : GG} {a1 : Int32}  {M : Mem} {r : Int32} (hF : F_X3_at a1 M = some r) : Met l yX3_at (wz yX3_at cX3_at 2 (some .int)) (RM 0 0) (PreC G [.ref (g_ad G 37), .int a1] M) (QcI G r M) 0 0 (g_A G) := by
  rw [F_X3_at] at hF
  refine x_start (by decide) (Nat.le_of_ble_eq_true rfl) (lv := [(0, .ref (g_ad G 37)), (1, .int a1)]) rfl ?_
  intro p e s m below meth c cx hr hW hS ls hl
  obtain ⟨hx, hb, hml, hown, hts, hKK, hSS, hlk⟩ := id cx
  refine lv_iload_n hx hb dX3_at_0 rfl (lv_at hl 1 rfl) ?_
  refine lv_if_lt (tgt := 21) hx hb dX3_at_1 (by decide) (fun c1 => ?_) (fun c1 => ?_)
  · have hF := it_p c1 hF
    refine lv_iconst (v := (-1 : Int32)) hx hb dX3_at_21 (by decide) ?_
    exact x_iret cx hr hW hS (Option.some.inj hF) rfl dX3_at_22
  · have hF := it_n c1 hF
    refine lv_iload_n hx hb dX3_at_4 rfl (lv_at hl 1 rfl) ?_
    refine lv_aload_n hx hb dX3_at_5 rfl (lv_at hl 0 rfl) ?_
    refine x_get cx hW kc_37 fk_X3_15 (v := .int (m_I M 37 1)) rfl dX3_at_6 ?_
    refine lv_icmp_ge (tgt := 21) hx hb dX3_at_9 (by decide) (fun c2 => ?_) (fun c2 => ?_)
    · have hF := it_p c2 hF
      refine lv_iconst (v := (-1 : Int32)) hx hb dX3_at_21 (by decide) ?_
      exact x_iret cx hr hW hS (Option.some.inj hF) rfl dX3_at_22
    · have hF := it_n c2 hF
      refine lv_aload_n hx hb dX3_at_12 rfl (lv_at hl 0 rfl) ?_
      refine x_get cx hW kc_37 fk_X3_9 (v := .ref (g_ad G 38)) rfl dX3_at_13 ?_
      refine lv_iload_n hx hb dX3_at_16 rfl (lv_at hl 1 rfl) ?_
      obtain ⟨j3, hj3, gj3, hF⟩ := ix_e hF
      refine x_iald cx hW kc_38 (by decide) hj3 gj3 dX3_at_17 ?_
      refine lv_goto (tgt := 22) hx hb dX3_at_18 (by decide) ?_
      exact x_iret cx hr hW hS (Option.some.inj hF) rfl dX3_at_22
def F_X6_said_10 (a0 : Int32) (a1 : Int32) (a2 : Int32) (M : Mem) (t0 : Int32) : Option Int32 := (if a0 = (2 : Int32) then some (3 : Int32) else (if a0 = (3 : Int32) then some (0 : Int32) else (if a0 = (4 : Int32) then some (t0 + (1 : Int32)) else (if a0 = (5 : Int32) then some (-2 : Int32) else some t0))))
set_option maxHeartbeats 4000000 in
set_option maxRecDepth 100000 in
theorem t_X6_said_10 {p : Program} {l : Launch} {e : Env} {s : State} {m : MethodId} {args : Array Value} {below : List Frame} {meth : Method} {c : Code} {G : GG} {a0 : Int32} {a1 : Int32} {a2 : Int32} (cx : Cx G cX6_said RX6 4 p s m args meth c) (hr : meth.sig.returnType = (some .int))   {M : Mem} {r : Int32} : ∀ (t0 : Int32), F_X6_said_10 a0 a1 a2 M t0 = some r → ∀ (H : Heap) (locs : List Loc) (ls : Array Slot), WH G M H → va_S (g_A G) s.heap H locs → lv_has ls 4 [(0, .int a0)] → W p l e (RM 0 0) s m args below meth c H locs 0 0 (MQ below (QcI G r M) args s 0 0 (g_A G)) (F0 m 10 ls [.int t0]) := by
  obtain ⟨hx, hb, hml, hown, hts, hKK, hSS, hlk⟩ := id cx
  intro t0 hF H locs ls hW hS hl
  rw [F_X6_said_10] at hF
  refine lv_istore_n (lv' := [(3, .int t0), (0, .int a0)]) hx hb dX6_said_10 rfl hl (by decide) rfl (fun ls hl => ?_)
  refine lv_iload_n hx hb dX6_said_11 rfl (lv_at hl 1 rfl) ?_
  refine x_sw (2 : Int32) (fun c2 => ?_) (fun c2 => ?_)
  · have hF := it_p c2 hF
    refine x_tab (tgt := 44) cx dX6_said_12 c2 (by decide) (by decide) rfl (by decide) ?_
    refine lv_iconst (v := (3 : Int32)) hx hb dX6_said_44 (by decide) ?_
    exact x_iret cx hr hW hS (Option.some.inj hF) rfl dX6_said_45
  · have hF := it_n c2 hF
    refine x_sw (3 : Int32) (fun c3 => ?_) (fun c3 => ?_)
    · have hF := it_p c3 hF
      refine x_tab (tgt := 46) cx dX6_said_12 c3 (by decide) (by decide) rfl (by decide) ?_
      refine lv_iconst (v := (0 : Int32)) hx hb dX6_said_46 (by decide) ?_
      exact x_iret cx hr hW hS (Option.some.inj hF) rfl dX6_said_47
    · have hF := it_n c3 hF
      refine x_sw (4 : Int32) (fun c4 => ?_) (fun c4 => ?_)
      · have hF := it_p c4 hF
        refine x_tab (tgt := 48) cx dX6_said_12 c4 (by decide) (by decide) rfl (by decide) ?_
        refine lv_iload_n hx hb dX6_said_48 rfl (lv_at hl 0 rfl) ?_
        refine lv_iconst (v := (1 : Int32)) hx hb dX6_said_49 (by decide) ?_
        refine lv_iadd hx hb dX6_said_50 ?_
        exact x_iret cx hr hW hS (Option.some.inj hF) rfl dX6_said_51
      · have hF := it_n c4 hF
        refine x_sw (5 : Int32) (fun c5 => ?_) (fun c5 => ?_)
        · have hF := it_p c5 hF
          refine x_tab (tgt := 52) cx dX6_said_12 c5 (by decide) (by decide) rfl (by decide) ?_
          refine lv_bipush (v := (-2 : Int32)) hx hb dX6_said_52 (by decide) ?_
          exact x_iret cx hr hW hS (Option.some.inj hF) rfl dX6_said_54
        · have hF := it_n c5 hF
          refine lv_tableOut (tgt := 55) hx hb dX6_said_12 (by have z0 := lv_neT c2 (a := 2) (by decide); have z1 := lv_neT c3 (a := 3) (by decide); have z2 := lv_neT c4 (a := 4) (by decide); have z3 := lv_neT c5 (a := 5) (by decide); omega) (by decide) ?_
          refine lv_iload_n hx hb dX6_said_55 rfl (lv_at hl 0 rfl) ?_
          exact x_iret cx hr hW hS (Option.some.inj hF) rfl dX6_said_56
def F_X6_said (a0 : Int32) (a1 : Int32) (a2 : Int32) (M : Mem) : Option Int32 := (if a1 < a2 then F_X6_said_10 a0 a1 a2 M (-1 : Int32) else F_X6_said_10 a0 a1 a2 M (1 : Int32))
set_option maxHeartbeats 4000000 in
set_option maxRecDepth 100000 in
theorem c_X6_said {l : Launch} {G : GG} {a0 : Int32} {a1 : Int32} {a2 : Int32}  {M : Mem} {r : Int32} (hF : F_X6_said a0 a1 a2 M = some r) : Met l yX6_said (wz yX6_said cX6_said 4 (some .int)) (RM 0 0) (PreC G [.int a0, .int a1, .int a2] M) (QcI G r M) 0 0 (g_A G) := by
  rw [F_X6_said] at hF
  refine x_start (by decide) (Nat.le_of_ble_eq_true rfl) (lv := [(0, .int a0), (1, .int a1), (2, .int a2)]) rfl ?_
  intro p e s m below meth c cx hr hW hS ls hl
  obtain ⟨hx, hb, hml, hown, hts, hKK, hSS, hlk⟩ := id cx
  refine lv_iload_n hx hb dX6_said_0 rfl (lv_at hl 1 rfl) ?_
  refine lv_iload_n hx hb dX6_said_1 rfl (lv_at hl 2 rfl) ?_
  refine lv_icmp_lt (tgt := 9) hx hb dX6_said_2 (by decide) (fun c1 => ?_) (fun c1 => ?_)
  · have hF := it_p c1 hF
    refine lv_iconst (v := (-1 : Int32)) hx hb dX6_said_9 (by decide) ?_
    exact t_X6_said_10 cx hr (-1 : Int32) hF _ _ _ hW hS (lv_sub hl [0] rfl)
  · have hF := it_n c1 hF
    refine lv_iconst (v := (1 : Int32)) hx hb dX6_said_5 (by decide) ?_
    refine lv_goto (tgt := 10) hx hb dX6_said_6 (by decide) ?_
    exact t_X6_said_10 cx hr (1 : Int32) hF _ _ _ hW hS (lv_sub hl [0] rfl)
def F_X6_heard_11 (a0 : Int32) (a1 : Int32) (M : Mem) (t0 : Int32) : Option Int32 := (if a0 = (2 : Int32) then some ((2 : Int32) * t0) else (if a0 = (3 : Int32) then some (0 : Int32) else (if a0 = (4 : Int32) then some (t0 + (1 : Int32)) else (if a0 = (5 : Int32) then some ((2 : Int32) * t0) else some t0))))
set_option maxHeartbeats 4000000 in
set_option maxRecDepth 100000 in
theorem t_X6_heard_11 {p : Program} {l : Launch} {e : Env} {s : State} {m : MethodId} {args : Array Value} {below : List Frame} {meth : Method} {c : Code} {G : GG} {a0 : Int32} {a1 : Int32} (cx : Cx G cX6_heard RX6 3 p s m args meth c) (hr : meth.sig.returnType = (some .int))   {M : Mem} {r : Int32} : ∀ (t0 : Int32), F_X6_heard_11 a0 a1 M t0 = some r → ∀ (H : Heap) (locs : List Loc) (ls : Array Slot), WH G M H → va_S (g_A G) s.heap H locs → lv_has ls 3 [(0, .int a0)] → W p l e (RM 0 0) s m args below meth c H locs 0 0 (MQ below (QcI G r M) args s 0 0 (g_A G)) (F0 m 11 ls [.int t0]) := by
  obtain ⟨hx, hb, hml, hown, hts, hKK, hSS, hlk⟩ := id cx
  intro t0 hF H locs ls hW hS hl
  rw [F_X6_heard_11] at hF
  refine lv_istore_n (lv' := [(2, .int t0), (0, .int a0)]) hx hb dX6_heard_11 rfl hl (by decide) rfl (fun ls hl => ?_)
  refine lv_iload_n hx hb dX6_heard_12 rfl (lv_at hl 1 rfl) ?_
  refine x_sw (2 : Int32) (fun c2 => ?_) (fun c2 => ?_)
  · have hF := it_p c2 hF
    refine x_tab (tgt := 44) cx dX6_heard_13 c2 (by decide) (by decide) rfl (by decide) ?_
    refine lv_iconst (v := (2 : Int32)) hx hb dX6_heard_44 (by decide) ?_
    refine lv_iload_n hx hb dX6_heard_45 rfl (lv_at hl 0 rfl) ?_
    refine lv_imul hx hb dX6_heard_46 ?_
    exact x_iret cx hr hW hS (Option.some.inj hF) rfl dX6_heard_47
  · have hF := it_n c2 hF
    refine x_sw (3 : Int32) (fun c3 => ?_) (fun c3 => ?_)
    · have hF := it_p c3 hF
      refine x_tab (tgt := 48) cx dX6_heard_13 c3 (by decide) (by decide) rfl (by decide) ?_
      refine lv_iconst (v := (0 : Int32)) hx hb dX6_heard_48 (by decide) ?_
      exact x_iret cx hr hW hS (Option.some.inj hF) rfl dX6_heard_49
    · have hF := it_n c3 hF
      refine x_sw (4 : Int32) (fun c4 => ?_) (fun c4 => ?_)
      · have hF := it_p c4 hF
        refine x_tab (tgt := 50) cx dX6_heard_13 c4 (by decide) (by decide) rfl (by decide) ?_
        refine lv_iload_n hx hb dX6_heard_50 rfl (lv_at hl 0 rfl) ?_
        refine lv_iconst (v := (1 : Int32)) hx hb dX6_heard_51 (by decide) ?_
        refine lv_iadd hx hb dX6_heard_52 ?_
        exact x_iret cx hr hW hS (Option.some.inj hF) rfl dX6_heard_53
      · have hF := it_n c4 hF
        refine x_sw (5 : Int32) (fun c5 => ?_) (fun c5 => ?_)
        · have hF := it_p c5 hF
          refine x_tab (tgt := 44) cx dX6_heard_13 c5 (by decide) (by decide) rfl (by decide) ?_
          refine lv_iconst (v := (2 : Int32)) hx hb dX6_heard_44 (by decide) ?_
          refine lv_iload_n hx hb dX6_heard_45 rfl (lv_at hl 0 rfl) ?_
          refine lv_imul hx hb dX6_heard_46 ?_
          exact x_iret cx hr hW hS (Option.some.inj hF) rfl dX6_heard_47
        · have hF := it_n c5 hF
          refine lv_tableOut (tgt := 54) hx hb dX6_heard_13 (by have z0 := lv_neT c2 (a := 2) (by decide); have z1 := lv_neT c3 (a := 3) (by decide); have z2 := lv_neT c4 (a := 4) (by decide); have z3 := lv_neT c5 (a := 5) (by decide); omega) (by decide) ?_
          refine lv_iload_n hx hb dX6_heard_54 rfl (lv_at hl 0 rfl) ?_
          exact x_iret cx hr hW hS (Option.some.inj hF) rfl dX6_heard_55
def F_X6_heard (a0 : Int32) (a1 : Int32) (M : Mem) : Option Int32 := (if (20 : Int32) ≤ a1 then F_X6_heard_11 a0 a1 M (0 : Int32) else F_X6_heard_11 a0 a1 M (2 : Int32))
set_option maxHeartbeats 4000000 in
set_option maxRecDepth 100000 in
theorem c_X6_heard {l : Launch} {G : GG} {a0 : Int32} {a1 : Int32}  {M : Mem} {r : Int32} (hF : F_X6_heard a0 a1 M = some r) : Met l yX6_heard (wz yX6_heard cX6_heard 3 (some .int)) (RM 0 0) (PreC G [.int a0, .int a1] M) (QcI G r M) 0 0 (g_A G) := by
  rw [F_X6_heard] at hF
  refine x_start (by decide) (Nat.le_of_ble_eq_true rfl) (lv := [(0, .int a0), (1, .int a1)]) rfl ?_
  intro p e s m below meth c cx hr hW hS ls hl
  obtain ⟨hx, hb, hml, hown, hts, hKK, hSS, hlk⟩ := id cx
  refine lv_iload_n hx hb dX6_heard_0 rfl (lv_at hl 1 rfl) ?_
  refine lv_bipush (v := (20 : Int32)) hx hb dX6_heard_1 (by decide) ?_
  refine lv_icmp_ge (tgt := 10) hx hb dX6_heard_3 (by decide) (fun c1 => ?_) (fun c1 => ?_)
  · have hF := it_p c1 hF
    refine lv_iconst (v := (0 : Int32)) hx hb dX6_heard_10 (by decide) ?_
    exact t_X6_heard_11 cx hr (0 : Int32) hF _ _ _ hW hS (lv_sub hl [0] rfl)
  · have hF := it_n c1 hF
    refine lv_iconst (v := (2 : Int32)) hx hb dX6_heard_6 (by decide) ?_
    refine lv_goto (tgt := 11) hx hb dX6_heard_7 (by decide) ?_
    exact t_X6_heard_11 cx hr (2 : Int32) hF _ _ _ hW hS (lv_sub hl [0] rfl)
def F_X6_isUnder_4 (a0 : Int32) (a1 : Int32) (M : Mem) : Nat → Int32 → Int32 → Option Int32
  | 0, _, _ => none
  | n + 1, x2, x3 => (if (6 : Int32) ≤ x3 then some (0 : Int32) else (if x2 < 0 then some (0 : Int32) else (if x2 = a1 then some (1 : Int32) else ix 6 x2 (fun j4 => F_X6_isUnder_4 a0 a1 M n (s_A j4) (x3 + 1)))))
set_option maxHeartbeats 4000000 in
set_option maxRecDepth 100000 in
theorem t_X6_isUnder_4 {p : Program} {l : Launch} {e : Env} {s : State} {m : MethodId} {args : Array Value} {below : List Frame} {meth : Method} {c : Code} {G : GG} {a0 : Int32} {a1 : Int32} (cx : Cx G cX6_isUnder RX6 4 p s m args meth c) (hr : meth.sig.returnType = (some .boolean))   {M : Mem} {r : Int32} : ∀ (n : Nat) (x2 : Int32) (x3 : Int32), F_X6_isUnder_4 a0 a1 M n x2 x3 = some r → ∀ (H : Heap) (locs : List Loc) (ls : Array Slot), WH G M H → va_S (g_A G) s.heap H locs → lv_has ls 4 [(1, .int a1), (2, .int x2), (3, .int x3)] → W p l e (RM 0 0) s m args below meth c H locs 0 0 (MQ below (QcI G r M) args s 0 0 (g_A G)) (F0 m 4 ls []) := by
  obtain ⟨hx, hb, hml, hown, hts, hKK, hSS, hlk⟩ := id cx
  intro n
  induction n with
  | zero =>
    intro x2 x3 hF H locs ls hW hS hl
    rw [F_X6_isUnder_4] at hF
    cases hF
  | succ n ih =>
    intro x2 x3 hF H locs ls hW hS hl
    rw [F_X6_isUnder_4] at hF
    refine lv_iload_n hx hb dX6_isUnder_4 rfl (lv_at hl 2 rfl) ?_
    refine lv_bipush (v := (6 : Int32)) hx hb dX6_isUnder_5 (by decide) ?_
    refine lv_icmp_ge (tgt := 33) hx hb dX6_isUnder_7 (by decide) (fun c1 => ?_) (fun c1 => ?_)
    · have hF := it_p c1 hF
      refine lv_iconst (v := (0 : Int32)) hx hb dX6_isUnder_33 (by decide) ?_
      exact x_zret cx hr (by decide) hW hS (Option.some.inj hF) rfl dX6_isUnder_34
    · have hF := it_n c1 hF
      refine lv_iload_n hx hb dX6_isUnder_10 rfl (lv_at hl 1 rfl) ?_
      refine lv_if_lt (tgt := 33) hx hb dX6_isUnder_11 (by decide) (fun c2 => ?_) (fun c2 => ?_)
      · have hF := it_p c2 hF
        refine lv_iconst (v := (0 : Int32)) hx hb dX6_isUnder_33 (by decide) ?_
        exact x_zret cx hr (by decide) hW hS (Option.some.inj hF) rfl dX6_isUnder_34
      · have hF := it_n c2 hF
        refine lv_iload_n hx hb dX6_isUnder_14 rfl (lv_at hl 1 rfl) ?_
        refine lv_iload_n hx hb dX6_isUnder_15 rfl (lv_at hl 0 rfl) ?_
        refine lv_icmp_ne (tgt := 21) hx hb dX6_isUnder_16 (by decide) (fun c3 => ?_) (fun c3 => ?_)
        · have hF := it_n c3 hF
          refine x_gets cx hSS.1.1 hS q_gs_X6_9 dX6_isUnder_21 ?_
          refine lv_iload_n hx hb dX6_isUnder_24 rfl (lv_at hl 1 rfl) ?_
          obtain ⟨j4, hj4, gj4, hF⟩ := ix_e hF
          refine x_sald cx hSS.1.2 hS hj4 gj4 dX6_isUnder_25 ?_
          refine lv_istore_n (lv' := [(2, .int (s_A j4)), (1, .int a1), (3, .int x3)]) hx hb dX6_isUnder_26 rfl hl (by decide) rfl (fun ls hl => ?_)
          refine lv_iinc (v := (x3 + 1)) (lv' := [(3, .int (x3 + 1)), (2, .int (s_A j4)), (1, .int a1)]) hx hb dX6_isUnder_27 hl (k := 2) rfl rfl (by decide) rfl (fun ls hl => ?_)
          refine lv_goto (tgt := 4) hx hb dX6_isUnder_30 (by decide) ?_
          exact ih (s_A j4) (x3 + 1) hF _ _ _ hW hS (lv_sub hl [2, 1, 0] rfl)
        · have hF := it_p c3 hF
          refine lv_iconst (v := (1 : Int32)) hx hb dX6_isUnder_19 (by decide) ?_
          exact x_zret cx hr (by decide) hW hS (Option.some.inj hF) rfl dX6_isUnder_20
def F_X6_isUnder (a0 : Int32) (a1 : Int32) (M : Mem) : Option Int32 := F_X6_isUnder_4 a0 a1 M FU a0 (0 : Int32)
set_option maxHeartbeats 4000000 in
set_option maxRecDepth 100000 in
theorem c_X6_isUnder {l : Launch} {G : GG} {a0 : Int32} {a1 : Int32}  {M : Mem} {r : Int32} (hF : F_X6_isUnder a0 a1 M = some r) : Met l yX6_isUnder (wz yX6_isUnder cX6_isUnder 4 (some .boolean)) (RM 0 0) (PreC G [.int a0, .int a1] M) (QcI G r M) 0 0 (g_A G) := by
  rw [F_X6_isUnder] at hF
  refine x_start (by decide) (Nat.le_of_ble_eq_true rfl) (lv := [(0, .int a0), (1, .int a1)]) rfl ?_
  intro p e s m below meth c cx hr hW hS ls hl
  obtain ⟨hx, hb, hml, hown, hts, hKK, hSS, hlk⟩ := id cx
  refine lv_iload_n hx hb dX6_isUnder_0 rfl (lv_at hl 0 rfl) ?_
  refine lv_istore_n (lv' := [(2, .int a0), (0, .int a0), (1, .int a1)]) hx hb dX6_isUnder_1 rfl hl (by decide) rfl (fun ls hl => ?_)
  refine lv_iconst (v := (0 : Int32)) hx hb dX6_isUnder_2 (by decide) ?_
  refine lv_istore_n (lv' := [(3, .int (0 : Int32)), (2, .int a0), (0, .int a0), (1, .int a1)]) hx hb dX6_isUnder_3 rfl hl (by decide) rfl (fun ls hl => ?_)
  exact t_X6_isUnder_4 cx hr FU a0 (0 : Int32) hF _ _ _ hW hS (lv_sub hl [3, 1, 0] rfl)
