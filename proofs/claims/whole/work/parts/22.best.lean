def F_X0_mostWith (a1 : Int32) (a2 : Int32) (a3 : Int32) (a4 : Nat) (M : Mem) : Option Int32 := (if ((a1 >>> (a3 &&& 31)) &&& (1 : Int32)) = 0 then (F_X4_areAlike a4 a2 a3 M).bind (fun r3 => (if r3 = 0 then some (-1 : Int32) else ix 256 (a1 ||| ((1 : Int32) <<< (a3 &&& 31))) (fun j5 => (if 0 ≤ (m_I M 36 j5) then (F_X4_earning a4 a2 a3 M).bind (fun r8 => some ((m_I M 36 j5) + r8)) else some (-1 : Int32))))) else some (-1 : Int32))
set_option maxHeartbeats 4000000 in
set_option maxRecDepth 100000 in
theorem c_X0_mostWith {l : Launch} {G : GG} {a1 : Int32} {a2 : Int32} {a3 : Int32} {a4 : Nat} (h4 : kd a4 = 3) {M : Mem} {r : Int32} (hF : F_X0_mostWith a1 a2 a3 a4 M = some r) : Met l yX0_mostWith (wz yX0_mostWith cX0_mostWith 6 (some .int)) (RM 4 93) (PreC G [.ref (g_ad G 35), .int a1, .int a2, .int a3, .ref (g_ad G a4)] M) (QcI G r M) 0 0 (g_A G) := by
  rw [F_X0_mostWith] at hF
  refine x_start (by decide) (Nat.le_of_ble_eq_true rfl) (lv := [(0, .ref (g_ad G 35)), (1, .int a1), (2, .int a2), (3, .int a3), (4, .ref (g_ad G a4))]) rfl ?_
  intro p e s m below meth c cx hr hW hS ls hl
  obtain ⟨hx, hb, hml, hown, hts, hKK, hSS, hlk⟩ := id cx
  refine lv_iload_n hx hb dX0_mostWith_0 rfl (lv_at hl 1 rfl) ?_
  refine lv_iload_n hx hb dX0_mostWith_1 rfl (lv_at hl 3 rfl) ?_
  refine lv_ishr hx hb dX0_mostWith_2 ?_
  refine lv_iconst (v := (1 : Int32)) hx hb dX0_mostWith_3 (by decide) ?_
  refine lv_iand hx hb dX0_mostWith_4 ?_
  refine lv_if_ne (tgt := 18) hx hb dX0_mostWith_5 (by decide) (fun c1 => ?_) (fun c1 => ?_)
  · have hF := it_n c1 hF
    refine lv_iconst (v := (-1 : Int32)) hx hb dX0_mostWith_18 (by decide) ?_
    exact x_iret cx hr hW hS (Option.some.inj hF) rfl dX0_mostWith_19
  · have hF := it_p c1 hF
    refine lv_aload hx hb dX0_mostWith_8 (lv_at hl 4 rfl) ?_
    refine lv_iload_n hx hb dX0_mostWith_10 rfl (lv_at hl 2 rfl) ?_
    refine lv_iload_n hx hb dX0_mostWith_11 rfl (lv_at hl 3 rfl) ?_
    obtain ⟨r3, hc2, hF⟩ := bi_e hF
    refine x_goi (x_runV cx hW hS (c_X4_areAlike (l := l) (G := G) h4 hc2) cv_X0_37 h4 rfl (rest := []) ⟨Nat.le_of_ble_eq_true rfl, Nat.le_of_ble_eq_true rfl⟩ hl.1 rfl rfl (Nat.le_of_ble_eq_true rfl) ⟨Nat.zero_le _, Nat.zero_le _⟩ dX0_mostWith_12) hS (fun H locs hW hS => ?_)
    refine lv_if_ne (tgt := 20) hx hb dX0_mostWith_15 (by decide) (fun c4 => ?_) (fun c4 => ?_)
    · have hF := it_n c4 hF
      refine lv_aload_n hx hb dX0_mostWith_20 rfl (lv_at hl 0 rfl) ?_
      refine x_get cx hW kc_35 fk_X0_9 (v := .ref (g_ad G 36)) rfl dX0_mostWith_21 ?_
      refine lv_iload_n hx hb dX0_mostWith_24 rfl (lv_at hl 1 rfl) ?_
      refine lv_iconst (v := (1 : Int32)) hx hb dX0_mostWith_25 (by decide) ?_
      refine lv_iload_n hx hb dX0_mostWith_26 rfl (lv_at hl 3 rfl) ?_
      refine lv_ishl hx hb dX0_mostWith_27 ?_
      refine lv_ior hx hb dX0_mostWith_28 ?_
      obtain ⟨j5, hj5, gj5, hF⟩ := ix_e hF
      refine x_iald cx hW kc_36 (by decide) hj5 gj5 dX0_mostWith_29 ?_
      refine lv_istore (lv' := [(5, .int (m_I M 36 j5)), (0, .ref (g_ad G 35)), (1, .int a1), (2, .int a2), (3, .int a3), (4, .ref (g_ad G a4))]) hx hb dX0_mostWith_30 hl (by decide) rfl (fun ls hl => ?_)
      refine lv_iload hx hb dX0_mostWith_32 (lv_at hl 0 rfl) ?_
      refine lv_if_ge (tgt := 41) hx hb dX0_mostWith_34 (by decide) (fun c6 => ?_) (fun c6 => ?_)
      · have hF := it_p c6 hF
        refine lv_iload hx hb dX0_mostWith_41 (lv_at hl 0 rfl) ?_
        refine lv_aload hx hb dX0_mostWith_43 (lv_at hl 5 rfl) ?_
        refine lv_iload_n hx hb dX0_mostWith_45 rfl (lv_at hl 3 rfl) ?_
        refine lv_iload_n hx hb dX0_mostWith_46 rfl (lv_at hl 4 rfl) ?_
        obtain ⟨r8, hc7, hF⟩ := bi_e hF
        refine x_goi (x_runV cx hW hS (c_X4_earning (l := l) (G := G) h4 hc7) cv_X0_41 h4 rfl (rest := [.int (m_I M 36 j5)]) ⟨Nat.le_of_ble_eq_true rfl, Nat.le_of_ble_eq_true rfl⟩ hl.1 rfl rfl (Nat.le_of_ble_eq_true rfl) ⟨Nat.zero_le _, Nat.zero_le _⟩ dX0_mostWith_47) hS (fun H locs hW hS => ?_)
        refine lv_iadd hx hb dX0_mostWith_50 ?_
        exact x_iret cx hr hW hS (Option.some.inj hF) rfl dX0_mostWith_51
      · have hF := it_n c6 hF
        refine lv_iconst (v := (-1 : Int32)) hx hb dX0_mostWith_37 (by decide) ?_
        refine lv_goto (tgt := 51) hx hb dX0_mostWith_38 (by decide) ?_
        exact x_iret cx hr hW hS (Option.some.inj hF) rfl dX0_mostWith_51
    · have hF := it_p c4 hF
      refine lv_iconst (v := (-1 : Int32)) hx hb dX0_mostWith_18 (by decide) ?_
      exact x_iret cx hr hW hS (Option.some.inj hF) rfl dX0_mostWith_19
def F_X0_search_36 (a1 : Nat) (k20 : Int32 → Mem → Option (Int32 × Mem)) : Nat → Int32 → Int32 → Int32 → Int32 → Mem → Option (Int32 × Mem)
  | 0, _, _, _, _, _ => none
  | n + 1, x3, x4, x5, x6, M => (if (m_I M a1 2) ≤ x6 then ix 256 x3 (fun j8 => pin (w_I M 36 j8 x5) (fun M9 => k20 (x3 + (-1 : Int32)) M9)) else (F_X0_mostWith x3 x4 x6 a1 M).bind (fun r11 => F_X0_search_36 a1 k20 n x3 x4 (if x5 < r11 then r11 else x5) (x6 + 1) M))
set_option maxHeartbeats 4000000 in
set_option maxRecDepth 100000 in
theorem t_X0_search_36 {p : Program} {l : Launch} {e : Env} {s : State} {m : MethodId} {args : Array Value} {below : List Frame} {meth : Method} {c : Code} {G : GG} {a1 : Nat} (cx : Cx G cX0_search RX0 7 p s m args meth c) (hr : meth.sig.returnType = (some .int)) (h1 : kd a1 = 3)  {r : Int32} {M1 : Mem} {k20 : Int32 → Mem → Option (Int32 × Mem)} (hk20 : ∀ (x3 : Int32) (M : Mem), k20 x3 M = some (r, M1) → ∀ (H : Heap) (locs : List Loc) (ls : Array Slot), WH G M H → va_S (g_A G) s.heap H locs → lv_has ls 7 [(0, .ref (g_ad G 35)), (1, .ref (g_ad G a1)), (3, .int x3)] → W p l e (RM 5 118) s m args below meth c H locs 0 0 (MQ below (QcI G r M1) args s 0 0 (g_A G)) (F0 m 20 ls [])) : ∀ (n : Nat) (x3 : Int32) (x4 : Int32) (x5 : Int32) (x6 : Int32) (M : Mem), F_X0_search_36 a1 k20 n x3 x4 x5 x6 M = some (r, M1) → ∀ (H : Heap) (locs : List Loc) (ls : Array Slot), WH G M H → va_S (g_A G) s.heap H locs → lv_has ls 7 [(0, .ref (g_ad G 35)), (1, .ref (g_ad G a1)), (3, .int x3), (4, .int x4), (5, .int x5), (6, .int x6)] → W p l e (RM 5 118) s m args below meth c H locs 0 0 (MQ below (QcI G r M1) args s 0 0 (g_A G)) (F0 m 36 ls []) := by
  obtain ⟨hx, hb, hml, hown, hts, hKK, hSS, hlk⟩ := id cx
  intro n
  induction n with
  | zero =>
    intro x3 x4 x5 x6 M hF H locs ls hW hS hl
    rw [F_X0_search_36] at hF
    cases hF
  | succ n ih =>
    intro x3 x4 x5 x6 M hF H locs ls hW hS hl
    rw [F_X0_search_36] at hF
    refine lv_iload hx hb dX0_search_36 (lv_at hl 5 rfl) ?_
    refine lv_aload_n hx hb dX0_search_38 rfl (lv_at hl 1 rfl) ?_
    refine x_get cx hW h1 fk_X0_15 (v := .int (m_I M a1 2)) rfl dX0_search_39 ?_
    refine lv_icmp_ge (tgt := 68) hx hb dX0_search_42 (by decide) (fun c7 => ?_) (fun c7 => ?_)
    · have hF := it_p c7 hF
      refine lv_aload_n hx hb dX0_search_68 rfl (lv_at hl 0 rfl) ?_
      refine x_get cx hW kc_35 fk_X0_9 (v := .ref (g_ad G 36)) rfl dX0_search_69 ?_
      refine lv_iload_n hx hb dX0_search_72 rfl (lv_at hl 2 rfl) ?_
      refine lv_iload hx hb dX0_search_73 (lv_at hl 4 rfl) ?_
      obtain ⟨j8, hj8, gj8, hF⟩ := ix_e hF
      obtain ⟨M9, eM9, hF⟩ := pin_e hF
      refine x_iast cx hW hS kc_36 (by decide) hj8 gj8 eM9 dX0_search_75 (fun H locs hW hS => ?_)
      refine lv_iinc (v := (x3 + (-1 : Int32))) (lv' := [(3, .int (x3 + (-1 : Int32))), (0, .ref (g_ad G 35)), (1, .ref (g_ad G a1)), (4, .int x4), (5, .int x5), (6, .int x6)]) hx hb dX0_search_76 hl (k := 2) rfl rfl (by decide) rfl (fun ls hl => ?_)
      refine lv_goto (tgt := 20) hx hb dX0_search_79 (by decide) ?_
      exact hk20 (x3 + (-1 : Int32)) M9 hF _ _ _ hW hS (lv_sub hl [1, 2, 0] rfl)
    · have hF := it_n c7 hF
      refine lv_iload hx hb dX0_search_45 (lv_at hl 4 rfl) ?_
      refine lv_aload_n hx hb dX0_search_47 rfl (lv_at hl 0 rfl) ?_
      refine lv_iload_n hx hb dX0_search_48 rfl (lv_at hl 2 rfl) ?_
      refine lv_iload hx hb dX0_search_49 (lv_at hl 3 rfl) ?_
      refine lv_iload hx hb dX0_search_51 (lv_at hl 5 rfl) ?_
      refine lv_aload_n hx hb dX0_search_53 rfl (lv_at hl 1 rfl) ?_
      obtain ⟨r11, hc10, hF⟩ := bi_e hF
      refine x_goi (x_runV cx hW hS (c_X0_mostWith (l := l) (G := G) h1 hc10) cv_X0_27 kc_35 rfl (rest := [.int x5]) ⟨Nat.le_of_ble_eq_true rfl, Nat.le_of_ble_eq_true rfl⟩ hl.1 rfl rfl (Nat.le_of_ble_eq_true rfl) ⟨Nat.zero_le _, Nat.zero_le _⟩ dX0_search_54) hS (fun H locs hW hS => ?_)
      refine x_max cx cm_X0_31 hl.1 (Nat.le_of_ble_eq_true rfl) (Nat.le_of_ble_eq_true rfl) dX0_search_57 ?_
      refine lv_istore (lv' := [(5, .int (if x5 < r11 then r11 else x5)), (0, .ref (g_ad G 35)), (1, .ref (g_ad G a1)), (3, .int x3), (4, .int x4), (6, .int x6)]) hx hb dX0_search_60 hl (by decide) rfl (fun ls hl => ?_)
      refine lv_iinc (v := (x6 + 1)) (lv' := [(6, .int (x6 + 1)), (5, .int (if x5 < r11 then r11 else x5)), (0, .ref (g_ad G 35)), (1, .ref (g_ad G a1)), (3, .int x3), (4, .int x4)]) hx hb dX0_search_62 hl (k := 5) rfl rfl (by decide) rfl (fun ls hl => ?_)
      refine lv_goto (tgt := 36) hx hb dX0_search_65 (by decide) ?_
      exact ih x3 x4 (if x5 < r11 then r11 else x5) (x6 + 1) M hF _ _ _ hW hS (lv_sub hl [2, 3, 4, 5, 1, 0] rfl)
def F_X0_search_20 (a1 : Nat) : Nat → Int32 → Mem → Option (Int32 × Mem)
  | 0, _, _ => none
  | n + 1, x3, M => (if x3 < 0 then ix 256 (0 : Int32) (fun j4 => some ((m_I M 36 j4), M)) else (F_J6_bitCount_0f7a4 x3 M).bind (fun r6 => F_X0_search_36 a1 (F_X0_search_20 a1 n) FU x3 r6 (-1 : Int32) (0 : Int32) M))
set_option maxHeartbeats 4000000 in
set_option maxRecDepth 100000 in
theorem t_X0_search_20 {p : Program} {l : Launch} {e : Env} {s : State} {m : MethodId} {args : Array Value} {below : List Frame} {meth : Method} {c : Code} {G : GG} {a1 : Nat} (cx : Cx G cX0_search RX0 7 p s m args meth c) (hr : meth.sig.returnType = (some .int)) (h1 : kd a1 = 3)  {r : Int32} {M1 : Mem} : ∀ (n : Nat) (x3 : Int32) (M : Mem), F_X0_search_20 a1 n x3 M = some (r, M1) → ∀ (H : Heap) (locs : List Loc) (ls : Array Slot), WH G M H → va_S (g_A G) s.heap H locs → lv_has ls 7 [(0, .ref (g_ad G 35)), (1, .ref (g_ad G a1)), (3, .int x3)] → W p l e (RM 5 118) s m args below meth c H locs 0 0 (MQ below (QcI G r M1) args s 0 0 (g_A G)) (F0 m 20 ls []) := by
  obtain ⟨hx, hb, hml, hown, hts, hKK, hSS, hlk⟩ := id cx
  intro n
  induction n with
  | zero =>
    intro x3 M hF H locs ls hW hS hl
    rw [F_X0_search_20] at hF
    cases hF
  | succ n ih =>
    intro x3 M hF H locs ls hW hS hl
    rw [F_X0_search_20] at hF
    refine lv_iload_n hx hb dX0_search_20 rfl (lv_at hl 2 rfl) ?_
    refine lv_if_lt (tgt := 82) hx hb dX0_search_21 (by decide) (fun c3 => ?_) (fun c3 => ?_)
    · have hF := it_p c3 hF
      refine lv_aload_n hx hb dX0_search_82 rfl (lv_at hl 0 rfl) ?_
      refine x_get cx hW kc_35 fk_X0_9 (v := .ref (g_ad G 36)) rfl dX0_search_83 ?_
      refine lv_iconst (v := (0 : Int32)) hx hb dX0_search_86 (by decide) ?_
      obtain ⟨j4, hj4, gj4, hF⟩ := ix_e hF
      refine x_iald cx hW kc_36 (by decide) hj4 gj4 dX0_search_87 ?_
      exact x_iret cx hr hW hS (sp_1 hF) (sp_2 hF) dX0_search_88
    · have hF := it_n c3 hF
      refine lv_iload_n hx hb dX0_search_24 rfl (lv_at hl 2 rfl) ?_
      obtain ⟨r6, hc5, hF⟩ := bi_e hF
      refine x_goi (x_runS cx hW hS (c_J6_bitCount_0f7a4 (l := l) (G := G) hc5) cs_X0_21 (rest := []) ⟨Nat.le_of_ble_eq_true rfl, Nat.le_of_ble_eq_true rfl⟩ hl.1 rfl rfl (Nat.le_of_ble_eq_true rfl) ⟨Nat.zero_le _, Nat.zero_le _⟩ dX0_search_25) hS (fun H locs hW hS => ?_)
      refine lv_istore (lv' := [(4, .int r6), (0, .ref (g_ad G 35)), (1, .ref (g_ad G a1)), (3, .int x3)]) hx hb dX0_search_28 hl (by decide) rfl (fun ls hl => ?_)
      refine lv_iconst (v := (-1 : Int32)) hx hb dX0_search_30 (by decide) ?_
      refine lv_istore (lv' := [(5, .int (-1 : Int32)), (4, .int r6), (0, .ref (g_ad G 35)), (1, .ref (g_ad G a1)), (3, .int x3)]) hx hb dX0_search_31 hl (by decide) rfl (fun ls hl => ?_)
      refine lv_iconst (v := (0 : Int32)) hx hb dX0_search_33 (by decide) ?_
      refine lv_istore (lv' := [(6, .int (0 : Int32)), (5, .int (-1 : Int32)), (4, .int r6), (0, .ref (g_ad G 35)), (1, .ref (g_ad G a1)), (3, .int x3)]) hx hb dX0_search_34 hl (by decide) rfl (fun ls hl => ?_)
      exact t_X0_search_36 cx hr h1 ih FU x3 r6 (-1 : Int32) (0 : Int32) M hF _ _ _ hW hS (lv_sub hl [3, 4, 5, 2, 1, 0] rfl)
def F_X0_search (a1 : Nat) (M : Mem) : Option (Int32 × Mem) := ix 256 (((1 : Int32) <<< ((m_I M a1 2) &&& 31)) - (1 : Int32)) (fun j1 => pin (w_I M 36 j1 (0 : Int32)) (fun M2 => F_X0_search_20 a1 FU ((((1 : Int32) <<< ((m_I M a1 2) &&& 31)) - (1 : Int32)) - (1 : Int32)) M2))
set_option maxHeartbeats 4000000 in
set_option maxRecDepth 100000 in
theorem c_X0_search {l : Launch} {G : GG} {a1 : Nat} (h1 : kd a1 = 3) {M : Mem} {r : Int32} {M1 : Mem} (hF : F_X0_search a1 M = some (r, M1)) : Met l yX0_search (wz yX0_search cX0_search 7 (some .int)) (RM 5 118) (PreC G [.ref (g_ad G 35), .ref (g_ad G a1)] M) (QcI G r M1) 0 0 (g_A G) := by
  rw [F_X0_search] at hF
  refine x_start (by decide) (Nat.le_of_ble_eq_true rfl) (lv := [(0, .ref (g_ad G 35)), (1, .ref (g_ad G a1))]) rfl ?_
  intro p e s m below meth c cx hr hW hS ls hl
  obtain ⟨hx, hb, hml, hown, hts, hKK, hSS, hlk⟩ := id cx
  refine lv_iconst (v := (1 : Int32)) hx hb dX0_search_0 (by decide) ?_
  refine lv_aload_n hx hb dX0_search_1 rfl (lv_at hl 1 rfl) ?_
  refine x_get cx hW h1 fk_X0_15 (v := .int (m_I M a1 2)) rfl dX0_search_2 ?_
  refine lv_ishl hx hb dX0_search_5 ?_
  refine lv_iconst (v := (1 : Int32)) hx hb dX0_search_6 (by decide) ?_
  refine lv_isub hx hb dX0_search_7 ?_
  refine lv_istore_n (lv' := [(2, .int (((1 : Int32) <<< ((m_I M a1 2) &&& 31)) - (1 : Int32))), (0, .ref (g_ad G 35)), (1, .ref (g_ad G a1))]) hx hb dX0_search_8 rfl hl (by decide) rfl (fun ls hl => ?_)
  refine lv_aload_n hx hb dX0_search_9 rfl (lv_at hl 1 rfl) ?_
  refine x_get cx hW kc_35 fk_X0_9 (v := .ref (g_ad G 36)) rfl dX0_search_10 ?_
  refine lv_iload_n hx hb dX0_search_13 rfl (lv_at hl 0 rfl) ?_
  refine lv_iconst (v := (0 : Int32)) hx hb dX0_search_14 (by decide) ?_
  obtain ⟨j1, hj1, gj1, hF⟩ := ix_e hF
  obtain ⟨M2, eM2, hF⟩ := pin_e hF
  refine x_iast cx hW hS kc_36 (by decide) hj1 gj1 eM2 dX0_search_15 (fun H locs hW hS => ?_)
  refine lv_iload_n hx hb dX0_search_16 rfl (lv_at hl 0 rfl) ?_
  refine lv_iconst (v := (1 : Int32)) hx hb dX0_search_17 (by decide) ?_
  refine lv_isub hx hb dX0_search_18 ?_
  refine lv_istore_n (lv' := [(3, .int ((((1 : Int32) <<< ((m_I M a1 2) &&& 31)) - (1 : Int32)) - (1 : Int32))), (2, .int (((1 : Int32) <<< ((m_I M a1 2) &&& 31)) - (1 : Int32))), (0, .ref (g_ad G 35)), (1, .ref (g_ad G a1))]) hx hb dX0_search_19 rfl hl (by decide) rfl (fun ls hl => ?_)
  exact t_X0_search_20 cx hr h1 FU ((((1 : Int32) <<< ((m_I M a1 2) &&& 31)) - (1 : Int32)) - (1 : Int32)) M2 hF _ _ _ hW hS (lv_sub hl [2, 3, 0] rfl)
def F_X0_leastBest_3 (a1 : Int32) (a2 : Int32) (a3 : Nat) (M : Mem) : Nat → Int32 → Option Int32
  | 0, _ => none
  | n + 1, x4 => (if (m_I M a3 2) ≤ x4 then some a2 else ix 256 a1 (fun j2 => (if (m_I M 36 j2) < 0 then F_X0_leastBest_3 a1 a2 a3 M n (x4 + 1) else (F_X0_mostWith a1 a2 x4 a3 M).bind (fun r5 => ix 256 a1 (fun j6 => (if r5 = (m_I M 36 j6) then some x4 else F_X0_leastBest_3 a1 a2 a3 M n (x4 + 1)))))))
set_option maxHeartbeats 4000000 in
set_option maxRecDepth 100000 in
theorem t_X0_leastBest_3 {p : Program} {l : Launch} {e : Env} {s : State} {m : MethodId} {args : Array Value} {below : List Frame} {meth : Method} {c : Code} {G : GG} {a1 : Int32} {a2 : Int32} {a3 : Nat} (cx : Cx G cX0_leastBest RX0 5 p s m args meth c) (hr : meth.sig.returnType = (some .int)) (h3 : kd a3 = 3)  {M : Mem} {r : Int32} : ∀ (n : Nat) (x4 : Int32), F_X0_leastBest_3 a1 a2 a3 M n x4 = some r → ∀ (H : Heap) (locs : List Loc) (ls : Array Slot), WH G M H → va_S (g_A G) s.heap H locs → lv_has ls 5 [(0, .ref (g_ad G 35)), (1, .int a1), (2, .int a2), (3, .ref (g_ad G a3)), (4, .int x4)] → W p l e (RM 5 118) s m args below meth c H locs 0 0 (MQ below (QcI G r M) args s 0 0 (g_A G)) (F0 m 3 ls []) := by
  obtain ⟨hx, hb, hml, hown, hts, hKK, hSS, hlk⟩ := id cx
  intro n
  induction n with
  | zero =>
    intro x4 hF H locs ls hW hS hl
    rw [F_X0_leastBest_3] at hF
    cases hF
  | succ n ih =>
    intro x4 hF H locs ls hW hS hl
    rw [F_X0_leastBest_3] at hF
    refine lv_iload hx hb dX0_leastBest_3 (lv_at hl 4 rfl) ?_
    refine lv_aload_n hx hb dX0_leastBest_5 rfl (lv_at hl 3 rfl) ?_
    refine x_get cx hW h3 fk_X0_15 (v := .int (m_I M a3 2)) rfl dX0_leastBest_6 ?_
    refine lv_icmp_ge (tgt := 48) hx hb dX0_leastBest_9 (by decide) (fun c1 => ?_) (fun c1 => ?_)
    · have hF := it_p c1 hF
      refine lv_iload_n hx hb dX0_leastBest_48 rfl (lv_at hl 2 rfl) ?_
      exact x_iret cx hr hW hS (Option.some.inj hF) rfl dX0_leastBest_49
    · have hF := it_n c1 hF
      refine lv_aload_n hx hb dX0_leastBest_12 rfl (lv_at hl 0 rfl) ?_
      refine x_get cx hW kc_35 fk_X0_9 (v := .ref (g_ad G 36)) rfl dX0_leastBest_13 ?_
      refine lv_iload_n hx hb dX0_leastBest_16 rfl (lv_at hl 1 rfl) ?_
      obtain ⟨j2, hj2, gj2, hF⟩ := ix_e hF
      refine x_iald cx hW kc_36 (by decide) hj2 gj2 dX0_leastBest_17 ?_
      refine lv_if_lt (tgt := 42) hx hb dX0_leastBest_18 (by decide) (fun c3 => ?_) (fun c3 => ?_)
      · have hF := it_p c3 hF
        refine lv_iinc (v := (x4 + 1)) (lv' := [(4, .int (x4 + 1)), (0, .ref (g_ad G 35)), (1, .int a1), (2, .int a2), (3, .ref (g_ad G a3))]) hx hb dX0_leastBest_42 hl (k := 4) rfl rfl (by decide) rfl (fun ls hl => ?_)
        refine lv_goto (tgt := 3) hx hb dX0_leastBest_45 (by decide) ?_
        exact ih (x4 + 1) hF _ _ _ hW hS (lv_sub hl [1, 2, 3, 4, 0] rfl)
      · have hF := it_n c3 hF
        refine lv_aload_n hx hb dX0_leastBest_21 rfl (lv_at hl 0 rfl) ?_
        refine lv_iload_n hx hb dX0_leastBest_22 rfl (lv_at hl 1 rfl) ?_
        refine lv_iload_n hx hb dX0_leastBest_23 rfl (lv_at hl 2 rfl) ?_
        refine lv_iload hx hb dX0_leastBest_24 (lv_at hl 4 rfl) ?_
        refine lv_aload_n hx hb dX0_leastBest_26 rfl (lv_at hl 3 rfl) ?_
        obtain ⟨r5, hc4, hF⟩ := bi_e hF
        refine x_goi (x_runV cx hW hS (c_X0_mostWith (l := l) (G := G) h3 hc4) cv_X0_27 kc_35 rfl (rest := []) ⟨Nat.le_of_ble_eq_true rfl, Nat.le_of_ble_eq_true rfl⟩ hl.1 rfl rfl (Nat.le_of_ble_eq_true rfl) ⟨Nat.zero_le _, Nat.zero_le _⟩ dX0_leastBest_27) hS (fun H locs hW hS => ?_)
        refine lv_aload_n hx hb dX0_leastBest_30 rfl (lv_at hl 0 rfl) ?_
        refine x_get cx hW kc_35 fk_X0_9 (v := .ref (g_ad G 36)) rfl dX0_leastBest_31 ?_
        refine lv_iload_n hx hb dX0_leastBest_34 rfl (lv_at hl 1 rfl) ?_
        obtain ⟨j6, hj6, gj6, hF⟩ := ix_e hF
        refine x_iald cx hW kc_36 (by decide) hj6 gj6 dX0_leastBest_35 ?_
        refine lv_icmp_ne (tgt := 42) hx hb dX0_leastBest_36 (by decide) (fun c7 => ?_) (fun c7 => ?_)
        · have hF := it_n c7 hF
          refine lv_iinc (v := (x4 + 1)) (lv' := [(4, .int (x4 + 1)), (0, .ref (g_ad G 35)), (1, .int a1), (2, .int a2), (3, .ref (g_ad G a3))]) hx hb dX0_leastBest_42 hl (k := 4) rfl rfl (by decide) rfl (fun ls hl => ?_)
          refine lv_goto (tgt := 3) hx hb dX0_leastBest_45 (by decide) ?_
          exact ih (x4 + 1) hF _ _ _ hW hS (lv_sub hl [1, 2, 3, 4, 0] rfl)
        · have hF := it_p c7 hF
          refine lv_iload hx hb dX0_leastBest_39 (lv_at hl 4 rfl) ?_
          exact x_iret cx hr hW hS (Option.some.inj hF) rfl dX0_leastBest_41
def F_X0_leastBest (a1 : Int32) (a2 : Int32) (a3 : Nat) (M : Mem) : Option Int32 := F_X0_leastBest_3 a1 a2 a3 M FU (0 : Int32)
set_option maxHeartbeats 4000000 in
set_option maxRecDepth 100000 in
theorem c_X0_leastBest {l : Launch} {G : GG} {a1 : Int32} {a2 : Int32} {a3 : Nat} (h3 : kd a3 = 3) {M : Mem} {r : Int32} (hF : F_X0_leastBest a1 a2 a3 M = some r) : Met l yX0_leastBest (wz yX0_leastBest cX0_leastBest 5 (some .int)) (RM 5 118) (PreC G [.ref (g_ad G 35), .int a1, .int a2, .ref (g_ad G a3)] M) (QcI G r M) 0 0 (g_A G) := by
  rw [F_X0_leastBest] at hF
  refine x_start (by decide) (Nat.le_of_ble_eq_true rfl) (lv := [(0, .ref (g_ad G 35)), (1, .int a1), (2, .int a2), (3, .ref (g_ad G a3))]) rfl ?_
  intro p e s m below meth c cx hr hW hS ls hl
  obtain ⟨hx, hb, hml, hown, hts, hKK, hSS, hlk⟩ := id cx
  refine lv_iconst (v := (0 : Int32)) hx hb dX0_leastBest_0 (by decide) ?_
  refine lv_istore (lv' := [(4, .int (0 : Int32)), (0, .ref (g_ad G 35)), (1, .int a1), (2, .int a2), (3, .ref (g_ad G a3))]) hx hb dX0_leastBest_1 hl (by decide) rfl (fun ls hl => ?_)
  exact t_X0_leastBest_3 cx hr h3 FU (0 : Int32) hF _ _ _ hW hS (lv_sub hl [1, 2, 3, 4, 0] rfl)
def F_X0_slipOf_8 (a1 : Int32) (a2 : Nat) (M : Mem) : Nat → Int32 → Int32 → Int32 → Option Int32
  | 0, _, _, _ => none
  | n + 1, x3, x4, x5 => (if a1 < x5 then some x4 else (F_X0_leastBest x3 x5 a2 M).bind (fun r3 => F_X0_slipOf_8 a1 a2 M n (x3 ||| ((1 : Int32) <<< (r3 &&& 31))) r3 (x5 + 1)))
set_option maxHeartbeats 4000000 in
set_option maxRecDepth 100000 in
theorem t_X0_slipOf_8 {p : Program} {l : Launch} {e : Env} {s : State} {m : MethodId} {args : Array Value} {below : List Frame} {meth : Method} {c : Code} {G : GG} {a1 : Int32} {a2 : Nat} (cx : Cx G cX0_slipOf RX0 6 p s m args meth c) (hr : meth.sig.returnType = (some .int)) (h2 : kd a2 = 3)  {M : Mem} {r : Int32} : ∀ (n : Nat) (x3 : Int32) (x4 : Int32) (x5 : Int32), F_X0_slipOf_8 a1 a2 M n x3 x4 x5 = some r → ∀ (H : Heap) (locs : List Loc) (ls : Array Slot), WH G M H → va_S (g_A G) s.heap H locs → lv_has ls 6 [(0, .ref (g_ad G 35)), (1, .int a1), (2, .ref (g_ad G a2)), (3, .int x3), (4, .int x4), (5, .int x5)] → W p l e (RM 6 142) s m args below meth c H locs 0 0 (MQ below (QcI G r M) args s 0 0 (g_A G)) (F0 m 8 ls []) := by
  obtain ⟨hx, hb, hml, hown, hts, hKK, hSS, hlk⟩ := id cx
  intro n
  induction n with
  | zero =>
    intro x3 x4 x5 hF H locs ls hW hS hl
    rw [F_X0_slipOf_8] at hF
    cases hF
  | succ n ih =>
    intro x3 x4 x5 hF H locs ls hW hS hl
    rw [F_X0_slipOf_8] at hF
    refine lv_iload hx hb dX0_slipOf_8 (lv_at hl 5 rfl) ?_
    refine lv_iload_n hx hb dX0_slipOf_10 rfl (lv_at hl 1 rfl) ?_
    refine lv_icmp_gt (tgt := 37) hx hb dX0_slipOf_11 (by decide) (fun c1 => ?_) (fun c1 => ?_)
    · have hF := it_p c1 hF
      refine lv_iload hx hb dX0_slipOf_37 (lv_at hl 4 rfl) ?_
      exact x_iret cx hr hW hS (Option.some.inj hF) rfl dX0_slipOf_39
    · have hF := it_n c1 hF
      refine lv_aload_n hx hb dX0_slipOf_14 rfl (lv_at hl 0 rfl) ?_
      refine lv_iload_n hx hb dX0_slipOf_15 rfl (lv_at hl 3 rfl) ?_
      refine lv_iload hx hb dX0_slipOf_16 (lv_at hl 5 rfl) ?_
      refine lv_aload_n hx hb dX0_slipOf_18 rfl (lv_at hl 2 rfl) ?_
      obtain ⟨r3, hc2, hF⟩ := bi_e hF
      refine x_goi (x_runV cx hW hS (c_X0_leastBest (l := l) (G := G) h2 hc2) cv_X0_44 kc_35 rfl (rest := []) ⟨Nat.le_of_ble_eq_true rfl, Nat.le_of_ble_eq_true rfl⟩ hl.1 rfl rfl (Nat.le_of_ble_eq_true rfl) ⟨Nat.zero_le _, Nat.zero_le _⟩ dX0_slipOf_19) hS (fun H locs hW hS => ?_)
      refine lv_istore (lv' := [(4, .int r3), (0, .ref (g_ad G 35)), (1, .int a1), (2, .ref (g_ad G a2)), (3, .int x3), (5, .int x5)]) hx hb dX0_slipOf_22 hl (by decide) rfl (fun ls hl => ?_)
      refine lv_iload_n hx hb dX0_slipOf_24 rfl (lv_at hl 4 rfl) ?_
      refine lv_iconst (v := (1 : Int32)) hx hb dX0_slipOf_25 (by decide) ?_
      refine lv_iload hx hb dX0_slipOf_26 (lv_at hl 0 rfl) ?_
      refine lv_ishl hx hb dX0_slipOf_28 ?_
      refine lv_ior hx hb dX0_slipOf_29 ?_
      refine lv_istore_n (lv' := [(3, .int (x3 ||| ((1 : Int32) <<< (r3 &&& 31)))), (4, .int r3), (0, .ref (g_ad G 35)), (1, .int a1), (2, .ref (g_ad G a2)), (5, .int x5)]) hx hb dX0_slipOf_30 rfl hl (by decide) rfl (fun ls hl => ?_)
      refine lv_iinc (v := (x5 + 1)) (lv' := [(5, .int (x5 + 1)), (3, .int (x3 ||| ((1 : Int32) <<< (r3 &&& 31)))), (4, .int r3), (0, .ref (g_ad G 35)), (1, .int a1), (2, .ref (g_ad G a2))]) hx hb dX0_slipOf_31 hl (k := 5) rfl rfl (by decide) rfl (fun ls hl => ?_)
      refine lv_goto (tgt := 8) hx hb dX0_slipOf_34 (by decide) ?_
      exact ih (x3 ||| ((1 : Int32) <<< (r3 &&& 31))) r3 (x5 + 1) hF _ _ _ hW hS (lv_sub hl [3, 4, 5, 1, 2, 0] rfl)
def F_X0_slipOf (a1 : Int32) (a2 : Nat) (M : Mem) : Option Int32 := F_X0_slipOf_8 a1 a2 M FU (0 : Int32) a1 (0 : Int32)
set_option maxHeartbeats 4000000 in
set_option maxRecDepth 100000 in
theorem c_X0_slipOf {l : Launch} {G : GG} {a1 : Int32} {a2 : Nat} (h2 : kd a2 = 3) {M : Mem} {r : Int32} (hF : F_X0_slipOf a1 a2 M = some r) : Met l yX0_slipOf (wz yX0_slipOf cX0_slipOf 6 (some .int)) (RM 6 142) (PreC G [.ref (g_ad G 35), .int a1, .ref (g_ad G a2)] M) (QcI G r M) 0 0 (g_A G) := by
  rw [F_X0_slipOf] at hF
  refine x_start (by decide) (Nat.le_of_ble_eq_true rfl) (lv := [(0, .ref (g_ad G 35)), (1, .int a1), (2, .ref (g_ad G a2))]) rfl ?_
  intro p e s m below meth c cx hr hW hS ls hl
  obtain ⟨hx, hb, hml, hown, hts, hKK, hSS, hlk⟩ := id cx
  refine lv_iconst (v := (0 : Int32)) hx hb dX0_slipOf_0 (by decide) ?_
  refine lv_istore_n (lv' := [(3, .int (0 : Int32)), (0, .ref (g_ad G 35)), (1, .int a1), (2, .ref (g_ad G a2))]) hx hb dX0_slipOf_1 rfl hl (by decide) rfl (fun ls hl => ?_)
  refine lv_iload_n hx hb dX0_slipOf_2 rfl (lv_at hl 2 rfl) ?_
  refine lv_istore (lv' := [(4, .int a1), (3, .int (0 : Int32)), (0, .ref (g_ad G 35)), (1, .int a1), (2, .ref (g_ad G a2))]) hx hb dX0_slipOf_3 hl (by decide) rfl (fun ls hl => ?_)
  refine lv_iconst (v := (0 : Int32)) hx hb dX0_slipOf_5 (by decide) ?_
  refine lv_istore (lv' := [(5, .int (0 : Int32)), (4, .int a1), (3, .int (0 : Int32)), (0, .ref (g_ad G 35)), (1, .int a1), (2, .ref (g_ad G a2))]) hx hb dX0_slipOf_6 hl (by decide) rfl (fun ls hl => ?_)
  exact t_X0_slipOf_8 cx hr h2 FU (0 : Int32) a1 (0 : Int32) hF _ _ _ hW hS (lv_sub hl [3, 4, 5, 2, 1, 0] rfl)
