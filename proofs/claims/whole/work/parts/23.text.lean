def F_X5_isLetter (a0 : Int32) (M : Mem) : Option Int32 := (if a0 < (97 : Int32) then some (0 : Int32) else (if (122 : Int32) < a0 then some (0 : Int32) else some (1 : Int32)))
set_option maxHeartbeats 4000000 in
set_option maxRecDepth 100000 in
theorem c_X5_isLetter {l : Launch} {G : GG} {a0 : Int32}  {M : Mem} {r : Int32} (hF : F_X5_isLetter a0 M = some r) : Met l yX5_isLetter (wz yX5_isLetter cX5_isLetter 1 (some .boolean)) (RM 0 0) (PreC G [.int a0] M) (QcI G r M) 0 0 (g_A G) := by
  rw [F_X5_isLetter] at hF
  refine x_start (by decide) (Nat.le_of_ble_eq_true rfl) (lv := [(0, .int a0)]) rfl ?_
  intro p e s m below meth c cx hr hW hS ls hl
  obtain ⟨hx, hb, hml, hown, hts, hKK, hSS, hlk⟩ := id cx
  refine lv_iload_n hx hb dX5_isLetter_0 rfl (lv_at hl 0 rfl) ?_
  refine lv_bipush (v := (97 : Int32)) hx hb dX5_isLetter_1 (by decide) ?_
  refine lv_icmp_lt (tgt := 16) hx hb dX5_isLetter_3 (by decide) (fun c1 => ?_) (fun c1 => ?_)
  · have hF := it_p c1 hF
    refine lv_iconst (v := (0 : Int32)) hx hb dX5_isLetter_16 (by decide) ?_
    exact x_zret cx hr (by decide) hW hS (Option.some.inj hF) rfl dX5_isLetter_17
  · have hF := it_n c1 hF
    refine lv_iload_n hx hb dX5_isLetter_6 rfl (lv_at hl 0 rfl) ?_
    refine lv_bipush (v := (122 : Int32)) hx hb dX5_isLetter_7 (by decide) ?_
    refine lv_icmp_gt (tgt := 16) hx hb dX5_isLetter_9 (by decide) (fun c2 => ?_) (fun c2 => ?_)
    · have hF := it_p c2 hF
      refine lv_iconst (v := (0 : Int32)) hx hb dX5_isLetter_16 (by decide) ?_
      exact x_zret cx hr (by decide) hW hS (Option.some.inj hF) rfl dX5_isLetter_17
    · have hF := it_n c2 hF
      refine lv_iconst (v := (1 : Int32)) hx hb dX5_isLetter_12 (by decide) ?_
      refine lv_goto (tgt := 17) hx hb dX5_isLetter_13 (by decide) ?_
      exact x_zret cx hr (by decide) hW hS (Option.some.inj hF) rfl dX5_isLetter_17
def F_X5_passLetters_0  : Nat → Mem → Option Mem
  | 0, _ => none
  | n + 1, M => (if (m_I M 37 1) ≤ (m_I M 39 2) then some M else (F_X3_at (m_I M 39 2) M).bind (fun r3 => (F_X5_isLetter r3 M).bind (fun r5 => (if r5 = 0 then some M else pin (w_I M 39 2 ((m_I M 39 2) + (1 : Int32))) (fun M7 => F_X5_passLetters_0 n M7)))))
set_option maxHeartbeats 4000000 in
set_option maxRecDepth 100000 in
theorem t_X5_passLetters_0 {p : Program} {l : Launch} {e : Env} {s : State} {m : MethodId} {args : Array Value} {below : List Frame} {meth : Method} {c : Code} {G : GG}  (cx : Cx G cX5_passLetters RX5 1 p s m args meth c) (hr : meth.sig.returnType = none)   {M1 : Mem} : ∀ (n : Nat) (M : Mem), F_X5_passLetters_0  n M = some M1 → ∀ (H : Heap) (locs : List Loc) (ls : Array Slot), WH G M H → va_S (g_A G) s.heap H locs → lv_has ls 1 [(0, .ref (g_ad G 39))] → W p l e (RM 1 21) s m args below meth c H locs 0 0 (MQ below (QcV G M1) args s 0 0 (g_A G)) (F0 m 0 ls []) := by
  obtain ⟨hx, hb, hml, hown, hts, hKK, hSS, hlk⟩ := id cx
  intro n
  induction n with
  | zero =>
    intro M hF H locs ls hW hS hl
    rw [F_X5_passLetters_0] at hF
    cases hF
  | succ n ih =>
    intro M hF H locs ls hW hS hl
    rw [F_X5_passLetters_0] at hF
    refine lv_aload_n hx hb dX5_passLetters_0 rfl (lv_at hl 0 rfl) ?_
    refine x_get cx hW kc_39 fk_X5_18 (v := .int (m_I M 39 2)) rfl dX5_passLetters_1 ?_
    refine lv_aload_n hx hb dX5_passLetters_4 rfl (lv_at hl 0 rfl) ?_
    refine x_get cx hW kc_39 fk_X5_12 (v := .ref (g_ad G 37)) rfl dX5_passLetters_5 ?_
    refine x_get cx hW kc_37 fk_X5_122 (v := .int (m_I M 37 1)) rfl dX5_passLetters_8 ?_
    refine lv_icmp_ge (tgt := 44) hx hb dX5_passLetters_11 (by decide) (fun c1 => ?_) (fun c1 => ?_)
    · have hF := it_p c1 hF
      exact x_vret cx hr hW hS (Option.some.inj hF) dX5_passLetters_44
    · have hF := it_n c1 hF
      refine lv_aload_n hx hb dX5_passLetters_14 rfl (lv_at hl 0 rfl) ?_
      refine x_get cx hW kc_39 fk_X5_12 (v := .ref (g_ad G 37)) rfl dX5_passLetters_15 ?_
      refine lv_aload_n hx hb dX5_passLetters_18 rfl (lv_at hl 0 rfl) ?_
      refine x_get cx hW kc_39 fk_X5_18 (v := .int (m_I M 39 2)) rfl dX5_passLetters_19 ?_
      obtain ⟨r3, hc2, hF⟩ := bi_e hF
      refine x_goi (x_runV cx hW hS (c_X3_at (l := l) (G := G) hc2) cv_X5_115 kc_37 rfl (rest := []) ⟨Nat.le_of_ble_eq_true rfl, Nat.le_of_ble_eq_true rfl⟩ hl.1 rfl rfl (Nat.le_of_ble_eq_true rfl) ⟨Nat.zero_le _, Nat.zero_le _⟩ dX5_passLetters_22) hS (fun H locs hW hS => ?_)
      obtain ⟨r5, hc4, hF⟩ := bi_e hF
      refine x_goi (x_runS cx hW hS (c_X5_isLetter (l := l) (G := G) hc4) cs_X5_125 (rest := []) ⟨Nat.le_of_ble_eq_true rfl, Nat.le_of_ble_eq_true rfl⟩ hl.1 rfl rfl (Nat.le_of_ble_eq_true rfl) ⟨Nat.zero_le _, Nat.zero_le _⟩ dX5_passLetters_25) hS (fun H locs hW hS => ?_)
      refine lv_if_eq (tgt := 44) hx hb dX5_passLetters_28 (by decide) (fun c6 => ?_) (fun c6 => ?_)
      · have hF := it_p c6 hF
        exact x_vret cx hr hW hS (Option.some.inj hF) dX5_passLetters_44
      · have hF := it_n c6 hF
        refine lv_aload_n hx hb dX5_passLetters_31 rfl (lv_at hl 0 rfl) ?_
        refine lv_dup hx hb dX5_passLetters_32 rfl ?_
        refine x_get cx hW kc_39 fk_X5_18 (v := .int (m_I M 39 2)) rfl dX5_passLetters_33 ?_
        refine lv_iconst (v := (1 : Int32)) hx hb dX5_passLetters_36 (by decide) ?_
        refine lv_iadd hx hb dX5_passLetters_37 ?_
        obtain ⟨M7, eM7, hF⟩ := pin_e hF
        refine x_puti cx hW hS kc_39 fk_X5_18 ft_4_2 (Nat.le_of_ble_eq_true rfl) fs_4_2 eM7 dX5_passLetters_38 (fun H locs hW hS => ?_)
        refine lv_goto (tgt := 0) hx hb dX5_passLetters_41 (by decide) ?_
        exact ih M7 hF _ _ _ hW hS (lv_sub hl [0] rfl)
def F_X5_passLetters (M : Mem) : Option Mem := F_X5_passLetters_0 FU M
set_option maxHeartbeats 4000000 in
set_option maxRecDepth 100000 in
theorem c_X5_passLetters {l : Launch} {G : GG}   {M : Mem} {M1 : Mem} (hF : F_X5_passLetters M = some M1) : Met l yX5_passLetters (wz yX5_passLetters cX5_passLetters 1 none) (RM 1 21) (PreC G [.ref (g_ad G 39)] M) (QcV G M1) 0 0 (g_A G) := by
  rw [F_X5_passLetters] at hF
  refine x_start (by decide) (Nat.le_of_ble_eq_true rfl) (lv := [(0, .ref (g_ad G 39))]) rfl ?_
  intro p e s m below meth c cx hr hW hS ls hl
  obtain ⟨hx, hb, hml, hown, hts, hKK, hSS, hlk⟩ := id cx
  exact t_X5_passLetters_0 cx hr FU M hF _ _ _ hW hS (lv_sub hl [0] rfl)
def F_X5_isDigit (a0 : Int32) (M : Mem) : Option Int32 := (if a0 < (48 : Int32) then some (0 : Int32) else (if (57 : Int32) < a0 then some (0 : Int32) else some (1 : Int32)))
set_option maxHeartbeats 4000000 in
set_option maxRecDepth 100000 in
theorem c_X5_isDigit {l : Launch} {G : GG} {a0 : Int32}  {M : Mem} {r : Int32} (hF : F_X5_isDigit a0 M = some r) : Met l yX5_isDigit (wz yX5_isDigit cX5_isDigit 1 (some .boolean)) (RM 0 0) (PreC G [.int a0] M) (QcI G r M) 0 0 (g_A G) := by
  rw [F_X5_isDigit] at hF
  refine x_start (by decide) (Nat.le_of_ble_eq_true rfl) (lv := [(0, .int a0)]) rfl ?_
  intro p e s m below meth c cx hr hW hS ls hl
  obtain ⟨hx, hb, hml, hown, hts, hKK, hSS, hlk⟩ := id cx
  refine lv_iload_n hx hb dX5_isDigit_0 rfl (lv_at hl 0 rfl) ?_
  refine lv_bipush (v := (48 : Int32)) hx hb dX5_isDigit_1 (by decide) ?_
  refine lv_icmp_lt (tgt := 16) hx hb dX5_isDigit_3 (by decide) (fun c1 => ?_) (fun c1 => ?_)
  · have hF := it_p c1 hF
    refine lv_iconst (v := (0 : Int32)) hx hb dX5_isDigit_16 (by decide) ?_
    exact x_zret cx hr (by decide) hW hS (Option.some.inj hF) rfl dX5_isDigit_17
  · have hF := it_n c1 hF
    refine lv_iload_n hx hb dX5_isDigit_6 rfl (lv_at hl 0 rfl) ?_
    refine lv_bipush (v := (57 : Int32)) hx hb dX5_isDigit_7 (by decide) ?_
    refine lv_icmp_gt (tgt := 16) hx hb dX5_isDigit_9 (by decide) (fun c2 => ?_) (fun c2 => ?_)
    · have hF := it_p c2 hF
      refine lv_iconst (v := (0 : Int32)) hx hb dX5_isDigit_16 (by decide) ?_
      exact x_zret cx hr (by decide) hW hS (Option.some.inj hF) rfl dX5_isDigit_17
    · have hF := it_n c2 hF
      refine lv_iconst (v := (1 : Int32)) hx hb dX5_isDigit_12 (by decide) ?_
      refine lv_goto (tgt := 17) hx hb dX5_isDigit_13 (by decide) ?_
      exact x_zret cx hr (by decide) hW hS (Option.some.inj hF) rfl dX5_isDigit_17
def F_X5_passDigits_5  : Nat → Mem → Option Mem
  | 0, _ => none
  | n + 1, M => (if (m_I M 37 1) ≤ (m_I M 39 2) then some M else (F_X3_at (m_I M 39 2) M).bind (fun r4 => (F_X5_isDigit r4 M).bind (fun r6 => (if r6 = 0 then some M else (F_X3_at (m_I M 39 2) M).bind (fun r9 => pin (w_I M 39 4 (if ((((10 : Int32) * (m_I M 39 4)) + r9) - (48 : Int32)) < (1000 : Int32) then ((((10 : Int32) * (m_I M 39 4)) + r9) - (48 : Int32)) else (1000 : Int32))) (fun M10 => pin (w_I M10 39 2 ((m_I M10 39 2) + (1 : Int32))) (fun M11 => F_X5_passDigits_5 n M11)))))))
set_option maxHeartbeats 4000000 in
set_option maxRecDepth 100000 in
theorem t_X5_passDigits_5 {p : Program} {l : Launch} {e : Env} {s : State} {m : MethodId} {args : Array Value} {below : List Frame} {meth : Method} {c : Code} {G : GG}  (cx : Cx G cX5_passDigits RX5 1 p s m args meth c) (hr : meth.sig.returnType = none)   {M1 : Mem} : ∀ (n : Nat) (M : Mem), F_X5_passDigits_5  n M = some M1 → ∀ (H : Heap) (locs : List Loc) (ls : Array Slot), WH G M H → va_S (g_A G) s.heap H locs → lv_has ls 1 [(0, .ref (g_ad G 39))] → W p l e (RM 1 21) s m args below meth c H locs 0 0 (MQ below (QcV G M1) args s 0 0 (g_A G)) (F0 m 5 ls []) := by
  obtain ⟨hx, hb, hml, hown, hts, hKK, hSS, hlk⟩ := id cx
  intro n
  induction n with
  | zero =>
    intro M hF H locs ls hW hS hl
    rw [F_X5_passDigits_5] at hF
    cases hF
  | succ n ih =>
    intro M hF H locs ls hW hS hl
    rw [F_X5_passDigits_5] at hF
    refine lv_aload_n hx hb dX5_passDigits_5 rfl (lv_at hl 0 rfl) ?_
    refine x_get cx hW kc_39 fk_X5_18 (v := .int (m_I M 39 2)) rfl dX5_passDigits_6 ?_
    refine lv_aload_n hx hb dX5_passDigits_9 rfl (lv_at hl 0 rfl) ?_
    refine x_get cx hW kc_39 fk_X5_12 (v := .ref (g_ad G 37)) rfl dX5_passDigits_10 ?_
    refine x_get cx hW kc_37 fk_X5_122 (v := .int (m_I M 37 1)) rfl dX5_passDigits_13 ?_
    refine lv_icmp_ge (tgt := 81) hx hb dX5_passDigits_16 (by decide) (fun c2 => ?_) (fun c2 => ?_)
    · have hF := it_p c2 hF
      exact x_vret cx hr hW hS (Option.some.inj hF) dX5_passDigits_81
    · have hF := it_n c2 hF
      refine lv_aload_n hx hb dX5_passDigits_19 rfl (lv_at hl 0 rfl) ?_
      refine x_get cx hW kc_39 fk_X5_12 (v := .ref (g_ad G 37)) rfl dX5_passDigits_20 ?_
      refine lv_aload_n hx hb dX5_passDigits_23 rfl (lv_at hl 0 rfl) ?_
      refine x_get cx hW kc_39 fk_X5_18 (v := .int (m_I M 39 2)) rfl dX5_passDigits_24 ?_
      obtain ⟨r4, hc3, hF⟩ := bi_e hF
      refine x_goi (x_runV cx hW hS (c_X3_at (l := l) (G := G) hc3) cv_X5_115 kc_37 rfl (rest := []) ⟨Nat.le_of_ble_eq_true rfl, Nat.le_of_ble_eq_true rfl⟩ hl.1 rfl rfl (Nat.le_of_ble_eq_true rfl) ⟨Nat.zero_le _, Nat.zero_le _⟩ dX5_passDigits_27) hS (fun H locs hW hS => ?_)
      obtain ⟨r6, hc5, hF⟩ := bi_e hF
      refine x_goi (x_runS cx hW hS (c_X5_isDigit (l := l) (G := G) hc5) cs_X5_131 (rest := []) ⟨Nat.le_of_ble_eq_true rfl, Nat.le_of_ble_eq_true rfl⟩ hl.1 rfl rfl (Nat.le_of_ble_eq_true rfl) ⟨Nat.zero_le _, Nat.zero_le _⟩ dX5_passDigits_30) hS (fun H locs hW hS => ?_)
      refine lv_if_eq (tgt := 81) hx hb dX5_passDigits_33 (by decide) (fun c7 => ?_) (fun c7 => ?_)
      · have hF := it_p c7 hF
        exact x_vret cx hr hW hS (Option.some.inj hF) dX5_passDigits_81
      · have hF := it_n c7 hF
        refine lv_aload_n hx hb dX5_passDigits_36 rfl (lv_at hl 0 rfl) ?_
        refine lv_sipush (v := (1000 : Int32)) hx hb dX5_passDigits_37 (by decide) ?_
        refine lv_bipush (v := (10 : Int32)) hx hb dX5_passDigits_40 (by decide) ?_
        refine lv_aload_n hx hb dX5_passDigits_42 rfl (lv_at hl 0 rfl) ?_
        refine x_get cx hW kc_39 fk_X5_78 (v := .int (m_I M 39 4)) rfl dX5_passDigits_43 ?_
        refine lv_imul hx hb dX5_passDigits_46 ?_
        refine lv_aload_n hx hb dX5_passDigits_47 rfl (lv_at hl 0 rfl) ?_
        refine x_get cx hW kc_39 fk_X5_12 (v := .ref (g_ad G 37)) rfl dX5_passDigits_48 ?_
        refine lv_aload_n hx hb dX5_passDigits_51 rfl (lv_at hl 0 rfl) ?_
        refine x_get cx hW kc_39 fk_X5_18 (v := .int (m_I M 39 2)) rfl dX5_passDigits_52 ?_
        obtain ⟨r9, hc8, hF⟩ := bi_e hF
        refine x_goi (x_runV cx hW hS (c_X3_at (l := l) (G := G) hc8) cv_X5_115 kc_37 rfl (rest := [.int ((10 : Int32) * (m_I M 39 4)), .int (1000 : Int32), .ref (g_ad G 39)]) ⟨Nat.le_of_ble_eq_true rfl, Nat.le_of_ble_eq_true rfl⟩ hl.1 rfl rfl (Nat.le_of_ble_eq_true rfl) ⟨Nat.zero_le _, Nat.zero_le _⟩ dX5_passDigits_55) hS (fun H locs hW hS => ?_)
        refine lv_iadd hx hb dX5_passDigits_58 ?_
        refine lv_bipush (v := (48 : Int32)) hx hb dX5_passDigits_59 (by decide) ?_
        refine lv_isub hx hb dX5_passDigits_61 ?_
        refine x_min cx cm_X5_137 hl.1 (Nat.le_of_ble_eq_true rfl) (Nat.le_of_ble_eq_true rfl) dX5_passDigits_62 ?_
        obtain ⟨M10, eM10, hF⟩ := pin_e hF
        refine x_puti cx hW hS kc_39 fk_X5_78 ft_4_4 (Nat.le_of_ble_eq_true rfl) fs_4_4 eM10 dX5_passDigits_65 (fun H locs hW hS => ?_)
        refine lv_aload_n hx hb dX5_passDigits_68 rfl (lv_at hl 0 rfl) ?_
        refine lv_dup hx hb dX5_passDigits_69 rfl ?_
        refine x_get cx hW kc_39 fk_X5_18 (v := .int (m_I M10 39 2)) rfl dX5_passDigits_70 ?_
        refine lv_iconst (v := (1 : Int32)) hx hb dX5_passDigits_73 (by decide) ?_
        refine lv_iadd hx hb dX5_passDigits_74 ?_
        obtain ⟨M11, eM11, hF⟩ := pin_e hF
        refine x_puti cx hW hS kc_39 fk_X5_18 ft_4_2 (Nat.le_of_ble_eq_true rfl) fs_4_2 eM11 dX5_passDigits_75 (fun H locs hW hS => ?_)
        refine lv_goto (tgt := 5) hx hb dX5_passDigits_78 (by decide) ?_
        exact ih M11 hF _ _ _ hW hS (lv_sub hl [0] rfl)
def F_X5_passDigits (M : Mem) : Option Mem := pin (w_I M 39 4 (0 : Int32)) (fun M1 => F_X5_passDigits_5 FU M1)
set_option maxHeartbeats 4000000 in
set_option maxRecDepth 100000 in
theorem c_X5_passDigits {l : Launch} {G : GG}   {M : Mem} {M1 : Mem} (hF : F_X5_passDigits M = some M1) : Met l yX5_passDigits (wz yX5_passDigits cX5_passDigits 1 none) (RM 1 21) (PreC G [.ref (g_ad G 39)] M) (QcV G M1) 0 0 (g_A G) := by
  rw [F_X5_passDigits] at hF
  refine x_start (by decide) (Nat.le_of_ble_eq_true rfl) (lv := [(0, .ref (g_ad G 39))]) rfl ?_
  intro p e s m below meth c cx hr hW hS ls hl
  obtain ⟨hx, hb, hml, hown, hts, hKK, hSS, hlk⟩ := id cx
  refine lv_aload_n hx hb dX5_passDigits_0 rfl (lv_at hl 0 rfl) ?_
  refine lv_iconst (v := (0 : Int32)) hx hb dX5_passDigits_1 (by decide) ?_
  obtain ⟨M1, eM1, hF⟩ := pin_e hF
  refine x_puti cx hW hS kc_39 fk_X5_78 ft_4_4 (Nat.le_of_ble_eq_true rfl) fs_4_4 eM1 dX5_passDigits_2 (fun H locs hW hS => ?_)
  exact t_X5_passDigits_5 cx hr FU M1 hF _ _ _ hW hS (lv_sub hl [0] rfl)
def F_X5_step_51  (M : Mem) : Option Mem := pin (w_I M 39 2 (m_I M 39 1)) (fun M3 => (F_X3_at (m_I M3 39 1) M3).bind (fun r5 => (if 0 ≤ r5 then (F_X5_isLetter r5 M3).bind (fun r8 => (if r8 = 0 then (F_X5_isDigit r5 M3).bind (fun r11 => (if r11 = 0 then (if r5 = (59 : Int32) then pin (w_I M3 39 3 (3 : Int32)) (fun M16 => pin (w_I M16 39 2 ((m_I M16 39 2) + (1 : Int32))) (fun M17 => some M17)) else pin (w_I M3 39 3 (4 : Int32)) (fun M14 => pin (w_I M14 39 2 ((m_I M14 39 2) + (1 : Int32))) (fun M15 => some M15))) else pin (w_I M3 39 3 (2 : Int32)) (fun M18 => (F_X5_passDigits M18).bind (fun M20 => some M20)))) else pin (w_I M3 39 3 (1 : Int32)) (fun M21 => (F_X5_passLetters M21).bind (fun M23 => some M23)))) else pin (w_I M3 39 3 (0 : Int32)) (fun M24 => some M24))))
set_option maxHeartbeats 4000000 in
set_option maxRecDepth 100000 in
theorem t_X5_step_51 {p : Program} {l : Launch} {e : Env} {s : State} {m : MethodId} {args : Array Value} {below : List Frame} {meth : Method} {c : Code} {G : GG}  (cx : Cx G cX5_step RX5 2 p s m args meth c) (hr : meth.sig.returnType = none)   {M1 : Mem} : ∀ (M : Mem), F_X5_step_51  M = some M1 → ∀ (H : Heap) (locs : List Loc) (ls : Array Slot), WH G M H → va_S (g_A G) s.heap H locs → lv_has ls 2 [(0, .ref (g_ad G 39))] → W p l e (RM 2 41) s m args below meth c H locs 0 0 (MQ below (QcV G M1) args s 0 0 (g_A G)) (F0 m 51 ls []) := by
  obtain ⟨hx, hb, hml, hown, hts, hKK, hSS, hlk⟩ := id cx
  intro M hF H locs ls hW hS hl
  rw [F_X5_step_51] at hF
  refine lv_aload_n hx hb dX5_step_51 rfl (lv_at hl 0 rfl) ?_
  refine lv_aload_n hx hb dX5_step_52 rfl (lv_at hl 0 rfl) ?_
  refine x_get cx hW kc_39 fk_X5_41 (v := .int (m_I M 39 1)) rfl dX5_step_53 ?_
  obtain ⟨M3, eM3, hF⟩ := pin_e hF
  refine x_puti cx hW hS kc_39 fk_X5_18 ft_4_2 (Nat.le_of_ble_eq_true rfl) fs_4_2 eM3 dX5_step_56 (fun H locs hW hS => ?_)
  refine lv_aload_n hx hb dX5_step_59 rfl (lv_at hl 0 rfl) ?_
  refine x_get cx hW kc_39 fk_X5_12 (v := .ref (g_ad G 37)) rfl dX5_step_60 ?_
  refine lv_aload_n hx hb dX5_step_63 rfl (lv_at hl 0 rfl) ?_
  refine x_get cx hW kc_39 fk_X5_41 (v := .int (m_I M3 39 1)) rfl dX5_step_64 ?_
  obtain ⟨r5, hc4, hF⟩ := bi_e hF
  refine x_goi (x_runV cx hW hS (c_X3_at (l := l) (G := G) hc4) cv_X5_115 kc_37 rfl (rest := []) ⟨Nat.le_of_ble_eq_true rfl, Nat.le_of_ble_eq_true rfl⟩ hl.1 rfl rfl (Nat.le_of_ble_eq_true rfl) ⟨Nat.zero_le _, Nat.zero_le _⟩ dX5_step_67) hS (fun H locs hW hS => ?_)
  refine lv_istore_n (lv' := [(1, .int r5), (0, .ref (g_ad G 39))]) hx hb dX5_step_70 rfl hl (by decide) rfl (fun ls hl => ?_)
  refine lv_iload_n hx hb dX5_step_71 rfl (lv_at hl 0 rfl) ?_
  refine lv_if_ge (tgt := 83) hx hb dX5_step_72 (by decide) (fun c6 => ?_) (fun c6 => ?_)
  · have hF := it_p c6 hF
    refine lv_iload_n hx hb dX5_step_83 rfl (lv_at hl 0 rfl) ?_
    obtain ⟨r8, hc7, hF⟩ := bi_e hF
    refine x_goi (x_runS cx hW hS (c_X5_isLetter (l := l) (G := G) hc7) cs_X5_125 (rest := []) ⟨Nat.le_of_ble_eq_true rfl, Nat.le_of_ble_eq_true rfl⟩ hl.1 rfl rfl (Nat.le_of_ble_eq_true rfl) ⟨Nat.zero_le _, Nat.zero_le _⟩ dX5_step_84) hS (fun H locs hW hS => ?_)
    refine lv_if_eq (tgt := 102) hx hb dX5_step_87 (by decide) (fun c9 => ?_) (fun c9 => ?_)
    · have hF := it_p c9 hF
      refine lv_iload_n hx hb dX5_step_102 rfl (lv_at hl 0 rfl) ?_
      obtain ⟨r11, hc10, hF⟩ := bi_e hF
      refine x_goi (x_runS cx hW hS (c_X5_isDigit (l := l) (G := G) hc10) cs_X5_131 (rest := []) ⟨Nat.le_of_ble_eq_true rfl, Nat.le_of_ble_eq_true rfl⟩ hl.1 rfl rfl (Nat.le_of_ble_eq_true rfl) ⟨Nat.zero_le _, Nat.zero_le _⟩ dX5_step_103) hS (fun H locs hW hS => ?_)
      refine lv_if_eq (tgt := 121) hx hb dX5_step_106 (by decide) (fun c12 => ?_) (fun c12 => ?_)
      · have hF := it_p c12 hF
        refine lv_aload_n hx hb dX5_step_121 rfl (lv_at hl 1 rfl) ?_
        refine lv_iload_n hx hb dX5_step_122 rfl (lv_at hl 0 rfl) ?_
        refine lv_bipush (v := (59 : Int32)) hx hb dX5_step_123 (by decide) ?_
        refine lv_icmp_ne (tgt := 132) hx hb dX5_step_125 (by decide) (fun c13 => ?_) (fun c13 => ?_)
        · have hF := it_n c13 hF
          refine lv_iconst (v := (4 : Int32)) hx hb dX5_step_132 (by decide) ?_
          obtain ⟨M14, eM14, hF⟩ := pin_e hF
          refine x_puti cx hW hS kc_39 fk_X5_38 ft_4_3 (Nat.le_of_ble_eq_true rfl) fs_4_3 eM14 dX5_step_133 (fun H locs hW hS => ?_)
          refine lv_aload_n hx hb dX5_step_136 rfl (lv_at hl 1 rfl) ?_
          refine lv_dup hx hb dX5_step_137 rfl ?_
          refine x_get cx hW kc_39 fk_X5_18 (v := .int (m_I M14 39 2)) rfl dX5_step_138 ?_
          refine lv_iconst (v := (1 : Int32)) hx hb dX5_step_141 (by decide) ?_
          refine lv_iadd hx hb dX5_step_142 ?_
          obtain ⟨M15, eM15, hF⟩ := pin_e hF
          refine x_puti cx hW hS kc_39 fk_X5_18 ft_4_2 (Nat.le_of_ble_eq_true rfl) fs_4_2 eM15 dX5_step_143 (fun H locs hW hS => ?_)
          exact x_vret cx hr hW hS (Option.some.inj hF) dX5_step_146
        · have hF := it_p c13 hF
          refine lv_iconst (v := (3 : Int32)) hx hb dX5_step_128 (by decide) ?_
          refine lv_goto (tgt := 133) hx hb dX5_step_129 (by decide) ?_
          obtain ⟨M16, eM16, hF⟩ := pin_e hF
          refine x_puti cx hW hS kc_39 fk_X5_38 ft_4_3 (Nat.le_of_ble_eq_true rfl) fs_4_3 eM16 dX5_step_133 (fun H locs hW hS => ?_)
          refine lv_aload_n hx hb dX5_step_136 rfl (lv_at hl 1 rfl) ?_
          refine lv_dup hx hb dX5_step_137 rfl ?_
          refine x_get cx hW kc_39 fk_X5_18 (v := .int (m_I M16 39 2)) rfl dX5_step_138 ?_
          refine lv_iconst (v := (1 : Int32)) hx hb dX5_step_141 (by decide) ?_
          refine lv_iadd hx hb dX5_step_142 ?_
          obtain ⟨M17, eM17, hF⟩ := pin_e hF
          refine x_puti cx hW hS kc_39 fk_X5_18 ft_4_2 (Nat.le_of_ble_eq_true rfl) fs_4_2 eM17 dX5_step_143 (fun H locs hW hS => ?_)
          exact x_vret cx hr hW hS (Option.some.inj hF) dX5_step_146
      · have hF := it_n c12 hF
        refine lv_aload_n hx hb dX5_step_109 rfl (lv_at hl 1 rfl) ?_
        refine lv_iconst (v := (2 : Int32)) hx hb dX5_step_110 (by decide) ?_
        obtain ⟨M18, eM18, hF⟩ := pin_e hF
        refine x_puti cx hW hS kc_39 fk_X5_38 ft_4_3 (Nat.le_of_ble_eq_true rfl) fs_4_3 eM18 dX5_step_111 (fun H locs hW hS => ?_)
        refine lv_aload_n hx hb dX5_step_114 rfl (lv_at hl 1 rfl) ?_
        obtain ⟨M20, hc19, hF⟩ := bi_e hF
        refine x_gov (x_runV cx hW hS (c_X5_passDigits (l := l) (G := G) hc19) cv_X5_134 kc_39 rfl (rest := []) ⟨Nat.le_of_ble_eq_true rfl, Nat.le_of_ble_eq_true rfl⟩ hl.1 rfl rfl (Nat.le_of_ble_eq_true rfl) ⟨Nat.zero_le _, Nat.zero_le _⟩ dX5_step_115) hS (fun H locs hW hS => ?_)
        refine lv_goto (tgt := 146) hx hb dX5_step_118 (by decide) ?_
        exact x_vret cx hr hW hS (Option.some.inj hF) dX5_step_146
    · have hF := it_n c9 hF
      refine lv_aload_n hx hb dX5_step_90 rfl (lv_at hl 1 rfl) ?_
      refine lv_iconst (v := (1 : Int32)) hx hb dX5_step_91 (by decide) ?_
      obtain ⟨M21, eM21, hF⟩ := pin_e hF
      refine x_puti cx hW hS kc_39 fk_X5_38 ft_4_3 (Nat.le_of_ble_eq_true rfl) fs_4_3 eM21 dX5_step_92 (fun H locs hW hS => ?_)
      refine lv_aload_n hx hb dX5_step_95 rfl (lv_at hl 1 rfl) ?_
      obtain ⟨M23, hc22, hF⟩ := bi_e hF
      refine x_gov (x_runV cx hW hS (c_X5_passLetters (l := l) (G := G) hc22) cv_X5_128 kc_39 rfl (rest := []) ⟨Nat.le_of_ble_eq_true rfl, Nat.le_of_ble_eq_true rfl⟩ hl.1 rfl rfl (Nat.le_of_ble_eq_true rfl) ⟨Nat.zero_le _, Nat.zero_le _⟩ dX5_step_96) hS (fun H locs hW hS => ?_)
      refine lv_goto (tgt := 146) hx hb dX5_step_99 (by decide) ?_
      exact x_vret cx hr hW hS (Option.some.inj hF) dX5_step_146
  · have hF := it_n c6 hF
    refine lv_aload_n hx hb dX5_step_75 rfl (lv_at hl 1 rfl) ?_
    refine lv_iconst (v := (0 : Int32)) hx hb dX5_step_76 (by decide) ?_
    obtain ⟨M24, eM24, hF⟩ := pin_e hF
    refine x_puti cx hW hS kc_39 fk_X5_38 ft_4_3 (Nat.le_of_ble_eq_true rfl) fs_4_3 eM24 dX5_step_77 (fun H locs hW hS => ?_)
    refine lv_goto (tgt := 146) hx hb dX5_step_80 (by decide) ?_
    exact x_vret cx hr hW hS (Option.some.inj hF) dX5_step_146
def F_X5_step_8  : Nat → Mem → Option Mem
  | 0, _ => none
  | n + 1, M => (if (m_I M 37 1) ≤ (m_I M 39 1) then F_X5_step_51 M else (F_X3_at (m_I M 39 1) M).bind (fun r26 => (if r26 = (32 : Int32) then pin (w_I M 39 1 ((m_I M 39 1) + (1 : Int32))) (fun M28 => F_X5_step_8 n M28) else F_X5_step_51 M)))
set_option maxHeartbeats 4000000 in
set_option maxRecDepth 100000 in
theorem t_X5_step_8 {p : Program} {l : Launch} {e : Env} {s : State} {m : MethodId} {args : Array Value} {below : List Frame} {meth : Method} {c : Code} {G : GG}  (cx : Cx G cX5_step RX5 2 p s m args meth c) (hr : meth.sig.returnType = none)   {M1 : Mem} : ∀ (n : Nat) (M : Mem), F_X5_step_8  n M = some M1 → ∀ (H : Heap) (locs : List Loc) (ls : Array Slot), WH G M H → va_S (g_A G) s.heap H locs → lv_has ls 2 [(0, .ref (g_ad G 39))] → W p l e (RM 2 41) s m args below meth c H locs 0 0 (MQ below (QcV G M1) args s 0 0 (g_A G)) (F0 m 8 ls []) := by
  obtain ⟨hx, hb, hml, hown, hts, hKK, hSS, hlk⟩ := id cx
  intro n
  induction n with
  | zero =>
    intro M hF H locs ls hW hS hl
    rw [F_X5_step_8] at hF
    cases hF
  | succ n ih =>
    intro M hF H locs ls hW hS hl
    rw [F_X5_step_8] at hF
    refine lv_aload_n hx hb dX5_step_8 rfl (lv_at hl 0 rfl) ?_
    refine x_get cx hW kc_39 fk_X5_41 (v := .int (m_I M 39 1)) rfl dX5_step_9 ?_
    refine lv_aload_n hx hb dX5_step_12 rfl (lv_at hl 0 rfl) ?_
    refine x_get cx hW kc_39 fk_X5_12 (v := .ref (g_ad G 37)) rfl dX5_step_13 ?_
    refine x_get cx hW kc_37 fk_X5_122 (v := .int (m_I M 37 1)) rfl dX5_step_16 ?_
    refine lv_icmp_ge (tgt := 51) hx hb dX5_step_19 (by decide) (fun c2 => ?_) (fun c2 => ?_)
    · have hF := it_p c2 hF
      exact t_X5_step_51 cx hr M hF _ _ _ hW hS (lv_sub hl [0] rfl)
    · have hF := it_n c2 hF
      refine lv_aload_n hx hb dX5_step_22 rfl (lv_at hl 0 rfl) ?_
      refine x_get cx hW kc_39 fk_X5_12 (v := .ref (g_ad G 37)) rfl dX5_step_23 ?_
      refine lv_aload_n hx hb dX5_step_26 rfl (lv_at hl 0 rfl) ?_
      refine x_get cx hW kc_39 fk_X5_41 (v := .int (m_I M 39 1)) rfl dX5_step_27 ?_
      obtain ⟨r26, hc25, hF⟩ := bi_e hF
      refine x_goi (x_runV cx hW hS (c_X3_at (l := l) (G := G) hc25) cv_X5_115 kc_37 rfl (rest := []) ⟨Nat.le_of_ble_eq_true rfl, Nat.le_of_ble_eq_true rfl⟩ hl.1 rfl rfl (Nat.le_of_ble_eq_true rfl) ⟨Nat.zero_le _, Nat.zero_le _⟩ dX5_step_30) hS (fun H locs hW hS => ?_)
      refine lv_bipush (v := (32 : Int32)) hx hb dX5_step_33 (by decide) ?_
      refine lv_icmp_ne (tgt := 51) hx hb dX5_step_35 (by decide) (fun c27 => ?_) (fun c27 => ?_)
      · have hF := it_n c27 hF
        exact t_X5_step_51 cx hr M hF _ _ _ hW hS (lv_sub hl [0] rfl)
      · have hF := it_p c27 hF
        refine lv_aload_n hx hb dX5_step_38 rfl (lv_at hl 0 rfl) ?_
        refine lv_dup hx hb dX5_step_39 rfl ?_
        refine x_get cx hW kc_39 fk_X5_41 (v := .int (m_I M 39 1)) rfl dX5_step_40 ?_
        refine lv_iconst (v := (1 : Int32)) hx hb dX5_step_43 (by decide) ?_
        refine lv_iadd hx hb dX5_step_44 ?_
        obtain ⟨M28, eM28, hF⟩ := pin_e hF
        refine x_puti cx hW hS kc_39 fk_X5_41 ft_4_1 (Nat.le_of_ble_eq_true rfl) fs_4_1 eM28 dX5_step_45 (fun H locs hW hS => ?_)
        refine lv_goto (tgt := 8) hx hb dX5_step_48 (by decide) ?_
        exact ih M28 hF _ _ _ hW hS (lv_sub hl [0] rfl)
def F_X5_step (M : Mem) : Option Mem := pin (w_I M 39 1 (m_I M 39 2)) (fun M1 => F_X5_step_8 FU M1)
set_option maxHeartbeats 4000000 in
set_option maxRecDepth 100000 in
theorem c_X5_step {l : Launch} {G : GG}   {M : Mem} {M1 : Mem} (hF : F_X5_step M = some M1) : Met l yX5_step (wz yX5_step cX5_step 2 none) (RM 2 41) (PreC G [.ref (g_ad G 39)] M) (QcV G M1) 0 0 (g_A G) := by
  rw [F_X5_step] at hF
  refine x_start (by decide) (Nat.le_of_ble_eq_true rfl) (lv := [(0, .ref (g_ad G 39))]) rfl ?_
  intro p e s m below meth c cx hr hW hS ls hl
  obtain ⟨hx, hb, hml, hown, hts, hKK, hSS, hlk⟩ := id cx
  refine lv_aload_n hx hb dX5_step_0 rfl (lv_at hl 0 rfl) ?_
  refine lv_aload_n hx hb dX5_step_1 rfl (lv_at hl 0 rfl) ?_
  refine x_get cx hW kc_39 fk_X5_18 (v := .int (m_I M 39 2)) rfl dX5_step_2 ?_
  obtain ⟨M1, eM1, hF⟩ := pin_e hF
  refine x_puti cx hW hS kc_39 fk_X5_41 ft_4_1 (Nat.le_of_ble_eq_true rfl) fs_4_1 eM1 dX5_step_5 (fun H locs hW hS => ?_)
  exact t_X5_step_8 cx hr FU M1 hF _ _ _ hW hS (lv_sub hl [0] rfl)
def F_X5_isWord_28 (a1 : Nat) (M : Mem) : Nat → Int32 → Option Int32
  | 0, _ => none
  | n + 1, x2 => (if (nI (lenL.getD a1 0)) ≤ x2 then some (1 : Int32) else (F_X3_at ((m_I M 39 1) + x2) M).bind (fun r5 => ix (lenL.getD a1 0) x2 (fun j6 => (if r5 = (chS a1 j6) then F_X5_isWord_28 a1 M n (x2 + 1) else some (0 : Int32)))))
set_option maxHeartbeats 4000000 in
set_option maxRecDepth 100000 in
theorem t_X5_isWord_28 {p : Program} {l : Launch} {e : Env} {s : State} {m : MethodId} {args : Array Value} {below : List Frame} {meth : Method} {c : Code} {G : GG} {a1 : Nat} (cx : Cx G cX5_isWord RX5 3 p s m args meth c) (hr : meth.sig.returnType = (some .boolean)) (h1 : a1 < 11)  {M : Mem} {r : Int32} : ∀ (n : Nat) (x2 : Int32), F_X5_isWord_28 a1 M n x2 = some r → ∀ (H : Heap) (locs : List Loc) (ls : Array Slot), WH G M H → va_S (g_A G) s.heap H locs → lv_has ls 3 [(0, .ref (g_ad G 39)), (1, .ref (g_ak G a1)), (2, .int x2)] → W p l e (RM 4 85) s m args below meth c H locs 0 0 (MQ below (QcI G r M) args s 0 0 (g_A G)) (F0 m 28 ls []) := by
  obtain ⟨hx, hb, hml, hown, hts, hKK, hSS, hlk⟩ := id cx
  intro n
  induction n with
  | zero =>
    intro x2 hF H locs ls hW hS hl
    rw [F_X5_isWord_28] at hF
    cases hF
  | succ n ih =>
    intro x2 hF H locs ls hW hS hl
    rw [F_X5_isWord_28] at hF
    refine lv_iload_n hx hb dX5_isWord_28 rfl (lv_at hl 2 rfl) ?_
    refine lv_aload_n hx hb dX5_isWord_29 rfl (lv_at hl 1 rfl) ?_
    refine x_strlen cx (rest := [.int x2]) h1 hW hS cv_X5_110 hl.1 ⟨Nat.le_of_ble_eq_true rfl, Nat.le_of_ble_eq_true rfl⟩ (Nat.le_of_ble_eq_true rfl) dX5_isWord_30 (fun H locs hW hS => ?_)
    refine lv_icmp_ge (tgt := 65) hx hb dX5_isWord_33 (by decide) (fun c3 => ?_) (fun c3 => ?_)
    · have hF := it_p c3 hF
      refine lv_iconst (v := (1 : Int32)) hx hb dX5_isWord_65 (by decide) ?_
      exact x_zret cx hr (by decide) hW hS (Option.some.inj hF) rfl dX5_isWord_66
    · have hF := it_n c3 hF
      refine lv_aload_n hx hb dX5_isWord_36 rfl (lv_at hl 0 rfl) ?_
      refine x_get cx hW kc_39 fk_X5_12 (v := .ref (g_ad G 37)) rfl dX5_isWord_37 ?_
      refine lv_aload_n hx hb dX5_isWord_40 rfl (lv_at hl 0 rfl) ?_
      refine x_get cx hW kc_39 fk_X5_41 (v := .int (m_I M 39 1)) rfl dX5_isWord_41 ?_
      refine lv_iload_n hx hb dX5_isWord_44 rfl (lv_at hl 2 rfl) ?_
      refine lv_iadd hx hb dX5_isWord_45 ?_
      obtain ⟨r5, hc4, hF⟩ := bi_e hF
      refine x_goi (x_runV cx hW hS (c_X3_at (l := l) (G := G) hc4) cv_X5_115 kc_37 rfl (rest := []) ⟨Nat.le_of_ble_eq_true rfl, Nat.le_of_ble_eq_true rfl⟩ hl.1 rfl rfl (Nat.le_of_ble_eq_true rfl) ⟨Nat.zero_le _, Nat.zero_le _⟩ dX5_isWord_46) hS (fun H locs hW hS => ?_)
      refine lv_aload_n hx hb dX5_isWord_49 rfl (lv_at hl 1 rfl) ?_
      refine lv_iload_n hx hb dX5_isWord_50 rfl (lv_at hl 2 rfl) ?_
      obtain ⟨j6, hj6, gj6, hF⟩ := ix_e hF
      refine x_charAt cx (rest := [.int r5]) h1 hW hS hj6 gj6 cv_X5_118 hl.1 ⟨Nat.le_of_ble_eq_true rfl, Nat.le_of_ble_eq_true rfl⟩ (Nat.le_of_ble_eq_true rfl) dX5_isWord_51 (fun H locs hW hS => ?_)
      refine lv_icmp_eq (tgt := 59) hx hb dX5_isWord_54 (by decide) (fun c7 => ?_) (fun c7 => ?_)
      · have hF := it_p c7 hF
        refine lv_iinc (v := (x2 + 1)) (lv' := [(2, .int (x2 + 1)), (0, .ref (g_ad G 39)), (1, .ref (g_ak G a1))]) hx hb dX5_isWord_59 hl (k := 2) rfl rfl (by decide) rfl (fun ls hl => ?_)
        refine lv_goto (tgt := 28) hx hb dX5_isWord_62 (by decide) ?_
        exact ih (x2 + 1) hF _ _ _ hW hS (lv_sub hl [1, 2, 0] rfl)
      · have hF := it_n c7 hF
        refine lv_iconst (v := (0 : Int32)) hx hb dX5_isWord_57 (by decide) ?_
        exact x_zret cx hr (by decide) hW hS (Option.some.inj hF) rfl dX5_isWord_58
def F_X5_isWord (a1 : Nat) (M : Mem) : Option Int32 := (if (m_I M 39 3) = (1 : Int32) then (if ((m_I M 39 2) - (m_I M 39 1)) = (nI (lenL.getD a1 0)) then F_X5_isWord_28 a1 M FU (0 : Int32) else some (0 : Int32)) else some (0 : Int32))
set_option maxHeartbeats 4000000 in
set_option maxRecDepth 100000 in
theorem c_X5_isWord {l : Launch} {G : GG} {a1 : Nat} (h1 : a1 < 11) {M : Mem} {r : Int32} (hF : F_X5_isWord a1 M = some r) : Met l yX5_isWord (wz yX5_isWord cX5_isWord 3 (some .boolean)) (RM 4 85) (PreC G [.ref (g_ad G 39), .ref (g_ak G a1)] M) (QcI G r M) 0 0 (g_A G) := by
  rw [F_X5_isWord] at hF
  refine x_start (by decide) (Nat.le_of_ble_eq_true rfl) (lv := [(0, .ref (g_ad G 39)), (1, .ref (g_ak G a1))]) rfl ?_
  intro p e s m below meth c cx hr hW hS ls hl
  obtain ⟨hx, hb, hml, hown, hts, hKK, hSS, hlk⟩ := id cx
  refine lv_aload_n hx hb dX5_isWord_0 rfl (lv_at hl 0 rfl) ?_
  refine x_get cx hW kc_39 fk_X5_38 (v := .int (m_I M 39 3)) rfl dX5_isWord_1 ?_
  refine lv_iconst (v := (1 : Int32)) hx hb dX5_isWord_4 (by decide) ?_
  refine lv_icmp_ne (tgt := 24) hx hb dX5_isWord_5 (by decide) (fun c1 => ?_) (fun c1 => ?_)
  · have hF := it_n c1 hF
    refine lv_iconst (v := (0 : Int32)) hx hb dX5_isWord_24 (by decide) ?_
    exact x_zret cx hr (by decide) hW hS (Option.some.inj hF) rfl dX5_isWord_25
  · have hF := it_p c1 hF
    refine lv_aload_n hx hb dX5_isWord_8 rfl (lv_at hl 0 rfl) ?_
    refine x_get cx hW kc_39 fk_X5_18 (v := .int (m_I M 39 2)) rfl dX5_isWord_9 ?_
    refine lv_aload_n hx hb dX5_isWord_12 rfl (lv_at hl 0 rfl) ?_
    refine x_get cx hW kc_39 fk_X5_41 (v := .int (m_I M 39 1)) rfl dX5_isWord_13 ?_
    refine lv_isub hx hb dX5_isWord_16 ?_
    refine lv_aload_n hx hb dX5_isWord_17 rfl (lv_at hl 1 rfl) ?_
    refine x_strlen cx (rest := [.int ((m_I M 39 2) - (m_I M 39 1))]) h1 hW hS cv_X5_110 hl.1 ⟨Nat.le_of_ble_eq_true rfl, Nat.le_of_ble_eq_true rfl⟩ (Nat.le_of_ble_eq_true rfl) dX5_isWord_18 (fun H locs hW hS => ?_)
    refine lv_icmp_eq (tgt := 26) hx hb dX5_isWord_21 (by decide) (fun c2 => ?_) (fun c2 => ?_)
    · have hF := it_p c2 hF
      refine lv_iconst (v := (0 : Int32)) hx hb dX5_isWord_26 (by decide) ?_
      refine lv_istore_n (lv' := [(2, .int (0 : Int32)), (0, .ref (g_ad G 39)), (1, .ref (g_ak G a1))]) hx hb dX5_isWord_27 rfl hl (by decide) rfl (fun ls hl => ?_)
      exact t_X5_isWord_28 cx hr h1 FU (0 : Int32) hF _ _ _ hW hS (lv_sub hl [1, 2, 0] rfl)
    · have hF := it_n c2 hF
      refine lv_iconst (v := (0 : Int32)) hx hb dX5_isWord_24 (by decide) ?_
      exact x_zret cx hr (by decide) hW hS (Option.some.inj hF) rfl dX5_isWord_25
def F_X5_takeSlip (a1 : Nat) (M : Mem) : Option (Int32 × Mem) := (F_X5_step M).bind (fun M2 => (if (m_I M2 39 3) = (2 : Int32) then (F_X4_has a1 (m_I M2 39 4) M2).bind (fun r5 => (if r5 = 0 then some ((0 : Int32), M2) else (F_X5_step M2).bind (fun M8 => (F_X5_isWord 1 M8).bind (fun r10 => (if r10 = 0 then some ((0 : Int32), M8) else (F_X5_step M8).bind (fun M13 => (if (m_I M13 39 3) = (2 : Int32) then (F_X4_has a1 (m_I M13 39 4) M13).bind (fun r16 => (if r16 = 0 then some ((0 : Int32), M13) else (F_X4_holder a1 (m_I M13 39 4) M13).bind (fun r19 => (F_X4_exchange a1 (m_I M2 39 4) r19 M13).bind (fun M21 => (F_X5_step M21).bind (fun M23 => some ((1 : Int32), M23)))))) else some ((0 : Int32), M13)))))))) else some ((0 : Int32), M2)))
set_option maxHeartbeats 4000000 in
set_option maxRecDepth 100000 in
theorem c_X5_takeSlip {l : Launch} {G : GG} {a1 : Nat} (h1 : kd a1 = 3) {M : Mem} {r : Int32} {M1 : Mem} (hF : F_X5_takeSlip a1 M = some (r, M1)) : Met l yX5_takeSlip (wz yX5_takeSlip cX5_takeSlip 3 (some .boolean)) (RM 5 107) (PreC G [.ref (g_ad G 39), .ref (g_ad G a1)] M) (QcI G r M1) 0 0 (g_A G) := by
  rw [F_X5_takeSlip] at hF
  refine x_start (by decide) (Nat.le_of_ble_eq_true rfl) (lv := [(0, .ref (g_ad G 39)), (1, .ref (g_ad G a1))]) rfl ?_
  intro p e s m below meth c cx hr hW hS ls hl
  obtain ⟨hx, hb, hml, hown, hts, hKK, hSS, hlk⟩ := id cx
  refine lv_aload_n hx hb dX5_takeSlip_0 rfl (lv_at hl 0 rfl) ?_
  obtain ⟨M2, hc1, hF⟩ := bi_e hF
  refine x_gov (x_runV cx hW hS (c_X5_step (l := l) (G := G) hc1) cv_X5_22 kc_39 rfl (rest := []) ⟨Nat.le_of_ble_eq_true rfl, Nat.le_of_ble_eq_true rfl⟩ hl.1 rfl rfl (Nat.le_of_ble_eq_true rfl) ⟨Nat.zero_le _, Nat.zero_le _⟩ dX5_takeSlip_1) hS (fun H locs hW hS => ?_)
  refine lv_aload_n hx hb dX5_takeSlip_4 rfl (lv_at hl 0 rfl) ?_
  refine x_get cx hW kc_39 fk_X5_38 (v := .int (m_I M2 39 3)) rfl dX5_takeSlip_5 ?_
  refine lv_iconst (v := (2 : Int32)) hx hb dX5_takeSlip_8 (by decide) ?_
  refine lv_icmp_ne (tgt := 23) hx hb dX5_takeSlip_9 (by decide) (fun c3 => ?_) (fun c3 => ?_)
  · have hF := it_n c3 hF
    refine lv_iconst (v := (0 : Int32)) hx hb dX5_takeSlip_23 (by decide) ?_
    exact x_zret cx hr (by decide) hW hS (sp_1 hF) (sp_2 hF) dX5_takeSlip_24
  · have hF := it_p c3 hF
    refine lv_aload_n hx hb dX5_takeSlip_12 rfl (lv_at hl 1 rfl) ?_
    refine lv_aload_n hx hb dX5_takeSlip_13 rfl (lv_at hl 0 rfl) ?_
    refine x_get cx hW kc_39 fk_X5_78 (v := .int (m_I M2 39 4)) rfl dX5_takeSlip_14 ?_
    obtain ⟨r5, hc4, hF⟩ := bi_e hF
    refine x_goi (x_runV cx hW hS (c_X4_has (l := l) (G := G) h1 hc4) cv_X5_81 h1 rfl (rest := []) ⟨Nat.le_of_ble_eq_true rfl, Nat.le_of_ble_eq_true rfl⟩ hl.1 rfl rfl (Nat.le_of_ble_eq_true rfl) ⟨Nat.zero_le _, Nat.zero_le _⟩ dX5_takeSlip_17) hS (fun H locs hW hS => ?_)
    refine lv_if_ne (tgt := 25) hx hb dX5_takeSlip_20 (by decide) (fun c6 => ?_) (fun c6 => ?_)
    · have hF := it_n c6 hF
      refine lv_aload_n hx hb dX5_takeSlip_25 rfl (lv_at hl 0 rfl) ?_
      refine x_get cx hW kc_39 fk_X5_78 (v := .int (m_I M2 39 4)) rfl dX5_takeSlip_26 ?_
      refine lv_istore_n (lv' := [(2, .int (m_I M2 39 4)), (0, .ref (g_ad G 39)), (1, .ref (g_ad G a1))]) hx hb dX5_takeSlip_29 rfl hl (by decide) rfl (fun ls hl => ?_)
      refine lv_aload_n hx hb dX5_takeSlip_30 rfl (lv_at hl 1 rfl) ?_
      obtain ⟨M8, hc7, hF⟩ := bi_e hF
      refine x_gov (x_runV cx hW hS (c_X5_step (l := l) (G := G) hc7) cv_X5_22 kc_39 rfl (rest := []) ⟨Nat.le_of_ble_eq_true rfl, Nat.le_of_ble_eq_true rfl⟩ hl.1 rfl rfl (Nat.le_of_ble_eq_true rfl) ⟨Nat.zero_le _, Nat.zero_le _⟩ dX5_takeSlip_31) hS (fun H locs hW hS => ?_)
      refine lv_aload_n hx hb dX5_takeSlip_34 rfl (lv_at hl 1 rfl) ?_
      refine x_ldcS cx (i := 1) (by decide) rfl dX5_takeSlip_35 ?_
      obtain ⟨r10, hc9, hF⟩ := bi_e hF
      refine x_goi (x_runV cx hW hS (c_X5_isWord (l := l) (G := G) (by decide) hc9) cv_X5_27 kc_39 rfl (rest := []) ⟨Nat.le_of_ble_eq_true rfl, Nat.le_of_ble_eq_true rfl⟩ hl.1 rfl rfl (Nat.le_of_ble_eq_true rfl) ⟨Nat.zero_le _, Nat.zero_le _⟩ dX5_takeSlip_37) hS (fun H locs hW hS => ?_)
      refine lv_if_ne (tgt := 45) hx hb dX5_takeSlip_40 (by decide) (fun c11 => ?_) (fun c11 => ?_)
      · have hF := it_n c11 hF
        refine lv_aload_n hx hb dX5_takeSlip_45 rfl (lv_at hl 1 rfl) ?_
        obtain ⟨M13, hc12, hF⟩ := bi_e hF
        refine x_gov (x_runV cx hW hS (c_X5_step (l := l) (G := G) hc12) cv_X5_22 kc_39 rfl (rest := []) ⟨Nat.le_of_ble_eq_true rfl, Nat.le_of_ble_eq_true rfl⟩ hl.1 rfl rfl (Nat.le_of_ble_eq_true rfl) ⟨Nat.zero_le _, Nat.zero_le _⟩ dX5_takeSlip_46) hS (fun H locs hW hS => ?_)
        refine lv_aload_n hx hb dX5_takeSlip_49 rfl (lv_at hl 1 rfl) ?_
        refine x_get cx hW kc_39 fk_X5_38 (v := .int (m_I M13 39 3)) rfl dX5_takeSlip_50 ?_
        refine lv_iconst (v := (2 : Int32)) hx hb dX5_takeSlip_53 (by decide) ?_
        refine lv_icmp_ne (tgt := 68) hx hb dX5_takeSlip_54 (by decide) (fun c14 => ?_) (fun c14 => ?_)
        · have hF := it_n c14 hF
          refine lv_iconst (v := (0 : Int32)) hx hb dX5_takeSlip_68 (by decide) ?_
          exact x_zret cx hr (by decide) hW hS (sp_1 hF) (sp_2 hF) dX5_takeSlip_69
        · have hF := it_p c14 hF
          refine lv_aload_n hx hb dX5_takeSlip_57 rfl (lv_at hl 2 rfl) ?_
          refine lv_aload_n hx hb dX5_takeSlip_58 rfl (lv_at hl 1 rfl) ?_
          refine x_get cx hW kc_39 fk_X5_78 (v := .int (m_I M13 39 4)) rfl dX5_takeSlip_59 ?_
          obtain ⟨r16, hc15, hF⟩ := bi_e hF
          refine x_goi (x_runV cx hW hS (c_X4_has (l := l) (G := G) h1 hc15) cv_X5_81 h1 rfl (rest := []) ⟨Nat.le_of_ble_eq_true rfl, Nat.le_of_ble_eq_true rfl⟩ hl.1 rfl rfl (Nat.le_of_ble_eq_true rfl) ⟨Nat.zero_le _, Nat.zero_le _⟩ dX5_takeSlip_62) hS (fun H locs hW hS => ?_)
          refine lv_if_ne (tgt := 70) hx hb dX5_takeSlip_65 (by decide) (fun c17 => ?_) (fun c17 => ?_)
          · have hF := it_n c17 hF
            refine lv_aload_n hx hb dX5_takeSlip_70 rfl (lv_at hl 2 rfl) ?_
            refine lv_iload_n hx hb dX5_takeSlip_71 rfl (lv_at hl 0 rfl) ?_
            refine lv_aload_n hx hb dX5_takeSlip_72 rfl (lv_at hl 2 rfl) ?_
            refine lv_aload_n hx hb dX5_takeSlip_73 rfl (lv_at hl 1 rfl) ?_
            refine x_get cx hW kc_39 fk_X5_78 (v := .int (m_I M13 39 4)) rfl dX5_takeSlip_74 ?_
            obtain ⟨r19, hc18, hF⟩ := bi_e hF
            refine x_goi (x_runV cx hW hS (c_X4_holder (l := l) (G := G) h1 hc18) cv_X5_87 h1 rfl (rest := [.int (m_I M2 39 4), .ref (g_ad G a1)]) ⟨Nat.le_of_ble_eq_true rfl, Nat.le_of_ble_eq_true rfl⟩ hl.1 rfl rfl (Nat.le_of_ble_eq_true rfl) ⟨Nat.zero_le _, Nat.zero_le _⟩ dX5_takeSlip_77) hS (fun H locs hW hS => ?_)
            obtain ⟨M21, hc20, hF⟩ := bi_e hF
            refine x_gov (x_runV cx hW hS (c_X4_exchange (l := l) (G := G) h1 hc20) cv_X5_90 h1 rfl (rest := []) ⟨Nat.le_of_ble_eq_true rfl, Nat.le_of_ble_eq_true rfl⟩ hl.1 rfl rfl (Nat.le_of_ble_eq_true rfl) ⟨Nat.zero_le _, Nat.zero_le _⟩ dX5_takeSlip_80) hS (fun H locs hW hS => ?_)
            refine lv_aload_n hx hb dX5_takeSlip_83 rfl (lv_at hl 1 rfl) ?_
            obtain ⟨M23, hc22, hF⟩ := bi_e hF
            refine x_gov (x_runV cx hW hS (c_X5_step (l := l) (G := G) hc22) cv_X5_22 kc_39 rfl (rest := []) ⟨Nat.le_of_ble_eq_true rfl, Nat.le_of_ble_eq_true rfl⟩ hl.1 rfl rfl (Nat.le_of_ble_eq_true rfl) ⟨Nat.zero_le _, Nat.zero_le _⟩ dX5_takeSlip_84) hS (fun H locs hW hS => ?_)
            refine lv_iconst (v := (1 : Int32)) hx hb dX5_takeSlip_87 (by decide) ?_
            exact x_zret cx hr (by decide) hW hS (sp_1 hF) (sp_2 hF) dX5_takeSlip_88
          · have hF := it_p c17 hF
            refine lv_iconst (v := (0 : Int32)) hx hb dX5_takeSlip_68 (by decide) ?_
            exact x_zret cx hr (by decide) hW hS (sp_1 hF) (sp_2 hF) dX5_takeSlip_69
      · have hF := it_p c11 hF
        refine lv_iconst (v := (0 : Int32)) hx hb dX5_takeSlip_43 (by decide) ?_
        exact x_zret cx hr (by decide) hW hS (sp_1 hF) (sp_2 hF) dX5_takeSlip_44
    · have hF := it_p c6 hF
      refine lv_iconst (v := (0 : Int32)) hx hb dX5_takeSlip_23 (by decide) ?_
      exact x_zret cx hr (by decide) hW hS (sp_1 hF) (sp_2 hF) dX5_takeSlip_24
def F_X5_nameOf (a0 : Int32) (M : Mem) : Option Nat := (if a0 = (1 : Int32) then some 2 else (if a0 = (2 : Int32) then some 3 else (if a0 = (3 : Int32) then some 4 else (if a0 = (4 : Int32) then some 5 else (if a0 = (5 : Int32) then some 6 else some 7)))))
set_option maxHeartbeats 4000000 in
set_option maxRecDepth 100000 in
theorem c_X5_nameOf {l : Launch} {G : GG} {a0 : Int32}  {M : Mem} {r : Nat} (hF : F_X5_nameOf a0 M = some r) : Met l yX5_nameOf (wz yX5_nameOf cX5_nameOf 1 (some (.object "java/lang/String"))) (RM 0 0) (PreC G [.int a0] M) (QcS G r M) 0 0 (g_A G) := by
  rw [F_X5_nameOf] at hF
  refine x_start (by decide) (Nat.le_of_ble_eq_true rfl) (lv := [(0, .int a0)]) rfl ?_
  intro p e s m below meth c cx hr hW hS ls hl
  obtain ⟨hx, hb, hml, hown, hts, hKK, hSS, hlk⟩ := id cx
  refine lv_iload_n hx hb dX5_nameOf_0 rfl (lv_at hl 0 rfl) ?_
  refine x_sw (1 : Int32) (fun c1 => ?_) (fun c1 => ?_)
  · have hF := it_p c1 hF
    refine x_tab (tgt := 36) cx dX5_nameOf_1 c1 (by decide) (by decide) rfl (by decide) ?_
    refine x_ldcS cx (i := 2) (by decide) rfl dX5_nameOf_36 ?_
    exact x_sret cx hr hW hS (Option.some.inj hF) rfl dX5_nameOf_38
  · have hF := it_n c1 hF
    refine x_sw (2 : Int32) (fun c2 => ?_) (fun c2 => ?_)
    · have hF := it_p c2 hF
      refine x_tab (tgt := 39) cx dX5_nameOf_1 c2 (by decide) (by decide) rfl (by decide) ?_
      refine x_ldcS cx (i := 3) (by decide) rfl dX5_nameOf_39 ?_
      exact x_sret cx hr hW hS (Option.some.inj hF) rfl dX5_nameOf_41
    · have hF := it_n c2 hF
      refine x_sw (3 : Int32) (fun c3 => ?_) (fun c3 => ?_)
      · have hF := it_p c3 hF
        refine x_tab (tgt := 42) cx dX5_nameOf_1 c3 (by decide) (by decide) rfl (by decide) ?_
        refine x_ldcS cx (i := 4) (by decide) rfl dX5_nameOf_42 ?_
        exact x_sret cx hr hW hS (Option.some.inj hF) rfl dX5_nameOf_44
      · have hF := it_n c3 hF
        refine x_sw (4 : Int32) (fun c4 => ?_) (fun c4 => ?_)
        · have hF := it_p c4 hF
          refine x_tab (tgt := 45) cx dX5_nameOf_1 c4 (by decide) (by decide) rfl (by decide) ?_
          refine x_ldcS cx (i := 5) (by decide) rfl dX5_nameOf_45 ?_
          exact x_sret cx hr hW hS (Option.some.inj hF) rfl dX5_nameOf_47
        · have hF := it_n c4 hF
          refine x_sw (5 : Int32) (fun c5 => ?_) (fun c5 => ?_)
          · have hF := it_p c5 hF
            refine x_tab (tgt := 48) cx dX5_nameOf_1 c5 (by decide) (by decide) rfl (by decide) ?_
            refine x_ldcS cx (i := 6) (by decide) rfl dX5_nameOf_48 ?_
            exact x_sret cx hr hW hS (Option.some.inj hF) rfl dX5_nameOf_50
          · have hF := it_n c5 hF
            refine lv_tableOut (tgt := 51) hx hb dX5_nameOf_1 (by have z0 := lv_neT c1 (a := 1) (by decide); have z1 := lv_neT c2 (a := 2) (by decide); have z2 := lv_neT c3 (a := 3) (by decide); have z3 := lv_neT c4 (a := 4) (by decide); have z4 := lv_neT c5 (a := 5) (by decide); omega) (by decide) ?_
            refine x_ldcS cx (i := 7) (by decide) rfl dX5_nameOf_51 ?_
            exact x_sret cx hr hW hS (Option.some.inj hF) rfl dX5_nameOf_53
def F_X5_namedKind_2  (M : Mem) : Nat → Int32 → Option Int32
  | 0, _ => none
  | n + 1, x1 => (if (6 : Int32) ≤ x1 then some (-1 : Int32) else (F_X5_nameOf x1 M).bind (fun r3 => sg r3 ((F_X5_isWord r3 M).bind (fun r6 => (if r6 = 0 then F_X5_namedKind_2 M n (x1 + 1) else some x1)))))
set_option maxHeartbeats 4000000 in
set_option maxRecDepth 100000 in
theorem t_X5_namedKind_2 {p : Program} {l : Launch} {e : Env} {s : State} {m : MethodId} {args : Array Value} {below : List Frame} {meth : Method} {c : Code} {G : GG}  (cx : Cx G cX5_namedKind RX5 2 p s m args meth c) (hr : meth.sig.returnType = (some .int))   {M : Mem} {r : Int32} : ∀ (n : Nat) (x1 : Int32), F_X5_namedKind_2  M n x1 = some r → ∀ (H : Heap) (locs : List Loc) (ls : Array Slot), WH G M H → va_S (g_A G) s.heap H locs → lv_has ls 2 [(0, .ref (g_ad G 39)), (1, .int x1)] → W p l e (RM 5 107) s m args below meth c H locs 0 0 (MQ below (QcI G r M) args s 0 0 (g_A G)) (F0 m 2 ls []) := by
  obtain ⟨hx, hb, hml, hown, hts, hKK, hSS, hlk⟩ := id cx
  intro n
  induction n with
  | zero =>
    intro x1 hF H locs ls hW hS hl
    rw [F_X5_namedKind_2] at hF
    cases hF
  | succ n ih =>
    intro x1 hF H locs ls hW hS hl
    rw [F_X5_namedKind_2] at hF
    refine lv_iload_n hx hb dX5_namedKind_2 rfl (lv_at hl 1 rfl) ?_
    refine lv_bipush (v := (6 : Int32)) hx hb dX5_namedKind_3 (by decide) ?_
    refine lv_icmp_ge (tgt := 27) hx hb dX5_namedKind_5 (by decide) (fun c1 => ?_) (fun c1 => ?_)
    · have hF := it_p c1 hF
      refine lv_iconst (v := (-1 : Int32)) hx hb dX5_namedKind_27 (by decide) ?_
      exact x_iret cx hr hW hS (Option.some.inj hF) rfl dX5_namedKind_28
    · have hF := it_n c1 hF
      refine lv_aload_n hx hb dX5_namedKind_8 rfl (lv_at hl 0 rfl) ?_
      refine lv_iload_n hx hb dX5_namedKind_9 rfl (lv_at hl 1 rfl) ?_
      obtain ⟨r3, hc2, hF⟩ := bi_e hF
      obtain ⟨g4, hF⟩ := sg_e hF
      refine x_gos (x_runS cx hW hS (c_X5_nameOf (l := l) (G := G) hc2) cs_X5_94 (rest := [.ref (g_ad G 39)]) ⟨Nat.le_of_ble_eq_true rfl, Nat.le_of_ble_eq_true rfl⟩ hl.1 rfl rfl (Nat.le_of_ble_eq_true rfl) ⟨Nat.zero_le _, Nat.zero_le _⟩ dX5_namedKind_10) hS (fun H locs hW hS => ?_)
      obtain ⟨r6, hc5, hF⟩ := bi_e hF
      refine x_goi (x_runV cx hW hS (c_X5_isWord (l := l) (G := G) g4 hc5) cv_X5_27 kc_39 rfl (rest := []) ⟨Nat.le_of_ble_eq_true rfl, Nat.le_of_ble_eq_true rfl⟩ hl.1 rfl rfl (Nat.le_of_ble_eq_true rfl) ⟨Nat.zero_le _, Nat.zero_le _⟩ dX5_namedKind_13) hS (fun H locs hW hS => ?_)
      refine lv_if_eq (tgt := 21) hx hb dX5_namedKind_16 (by decide) (fun c7 => ?_) (fun c7 => ?_)
      · have hF := it_p c7 hF
        refine lv_iinc (v := (x1 + 1)) (lv' := [(1, .int (x1 + 1)), (0, .ref (g_ad G 39))]) hx hb dX5_namedKind_21 hl (k := 1) rfl rfl (by decide) rfl (fun ls hl => ?_)
        refine lv_goto (tgt := 2) hx hb dX5_namedKind_24 (by decide) ?_
        exact ih (x1 + 1) hF _ _ _ hW hS (lv_sub hl [1, 0] rfl)
      · have hF := it_n c7 hF
        refine lv_iload_n hx hb dX5_namedKind_19 rfl (lv_at hl 1 rfl) ?_
        exact x_iret cx hr hW hS (Option.some.inj hF) rfl dX5_namedKind_20
def F_X5_namedKind (M : Mem) : Option Int32 := F_X5_namedKind_2 M FU (0 : Int32)
set_option maxHeartbeats 4000000 in
set_option maxRecDepth 100000 in
theorem c_X5_namedKind {l : Launch} {G : GG}   {M : Mem} {r : Int32} (hF : F_X5_namedKind M = some r) : Met l yX5_namedKind (wz yX5_namedKind cX5_namedKind 2 (some .int)) (RM 5 107) (PreC G [.ref (g_ad G 39)] M) (QcI G r M) 0 0 (g_A G) := by
  rw [F_X5_namedKind] at hF
  refine x_start (by decide) (Nat.le_of_ble_eq_true rfl) (lv := [(0, .ref (g_ad G 39))]) rfl ?_
  intro p e s m below meth c cx hr hW hS ls hl
  obtain ⟨hx, hb, hml, hown, hts, hKK, hSS, hlk⟩ := id cx
  refine lv_iconst (v := (0 : Int32)) hx hb dX5_namedKind_0 (by decide) ?_
  refine lv_istore_n (lv' := [(1, .int (0 : Int32)), (0, .ref (g_ad G 39))]) hx hb dX5_namedKind_1 rfl hl (by decide) rfl (fun ls hl => ?_)
  exact t_X5_namedKind_2 cx hr FU (0 : Int32) hF _ _ _ hW hS (lv_sub hl [1, 0] rfl)
def F_X5_takePart (a1 : Nat) (a2 : Nat) (a3 : Int32) (a4 : Int32) (M : Mem) : Option (Int32 × Mem) := (F_X5_isWord a1 M).bind (fun r2 => (if r2 = 0 then some ((1 : Int32), M) else (F_X5_step M).bind (fun M5 => (if (m_I M5 39 3) = (2 : Int32) then (if (m_I M5 39 4) ≤ a4 then ix 8 a3 (fun j8 => pin (w_I M5 a2 j8 (m_I M5 39 4)) (fun M9 => (F_X5_step M9).bind (fun M11 => some ((1 : Int32), M11)))) else some ((0 : Int32), M5)) else some ((0 : Int32), M5)))))
set_option maxHeartbeats 4000000 in
set_option maxRecDepth 100000 in
theorem c_X5_takePart {l : Launch} {G : GG} {a1 : Nat} {a2 : Nat} {a3 : Int32} {a4 : Int32} (h1 : a1 < 11) (h2 : kd a2 = 100 + 8) {M : Mem} {r : Int32} {M1 : Mem} (hF : F_X5_takePart a1 a2 a3 a4 M = some (r, M1)) : Met l yX5_takePart (wz yX5_takePart cX5_takePart 5 (some .boolean)) (RM 5 107) (PreC G [.ref (g_ad G 39), .ref (g_ak G a1), .ref (g_ad G a2), .int a3, .int a4] M) (QcI G r M1) 0 0 (g_A G) := by
  rw [F_X5_takePart] at hF
  refine x_start (by decide) (Nat.le_of_ble_eq_true rfl) (lv := [(0, .ref (g_ad G 39)), (1, .ref (g_ak G a1)), (2, .ref (g_ad G a2)), (3, .int a3), (4, .int a4)]) rfl ?_
  intro p e s m below meth c cx hr hW hS ls hl
  obtain ⟨hx, hb, hml, hown, hts, hKK, hSS, hlk⟩ := id cx
  refine lv_aload_n hx hb dX5_takePart_0 rfl (lv_at hl 0 rfl) ?_
  refine lv_aload_n hx hb dX5_takePart_1 rfl (lv_at hl 1 rfl) ?_
  obtain ⟨r2, hc1, hF⟩ := bi_e hF
  refine x_goi (x_runV cx hW hS (c_X5_isWord (l := l) (G := G) h1 hc1) cv_X5_27 kc_39 rfl (rest := []) ⟨Nat.le_of_ble_eq_true rfl, Nat.le_of_ble_eq_true rfl⟩ hl.1 rfl rfl (Nat.le_of_ble_eq_true rfl) ⟨Nat.zero_le _, Nat.zero_le _⟩ dX5_takePart_2) hS (fun H locs hW hS => ?_)
  refine lv_if_ne (tgt := 10) hx hb dX5_takePart_5 (by decide) (fun c3 => ?_) (fun c3 => ?_)
  · have hF := it_n c3 hF
    refine lv_aload_n hx hb dX5_takePart_10 rfl (lv_at hl 0 rfl) ?_
    obtain ⟨M5, hc4, hF⟩ := bi_e hF
    refine x_gov (x_runV cx hW hS (c_X5_step (l := l) (G := G) hc4) cv_X5_22 kc_39 rfl (rest := []) ⟨Nat.le_of_ble_eq_true rfl, Nat.le_of_ble_eq_true rfl⟩ hl.1 rfl rfl (Nat.le_of_ble_eq_true rfl) ⟨Nat.zero_le _, Nat.zero_le _⟩ dX5_takePart_11) hS (fun H locs hW hS => ?_)
    refine lv_aload_n hx hb dX5_takePart_14 rfl (lv_at hl 0 rfl) ?_
    refine x_get cx hW kc_39 fk_X5_38 (v := .int (m_I M5 39 3)) rfl dX5_takePart_15 ?_
    refine lv_iconst (v := (2 : Int32)) hx hb dX5_takePart_18 (by decide) ?_
    refine lv_icmp_ne (tgt := 31) hx hb dX5_takePart_19 (by decide) (fun c6 => ?_) (fun c6 => ?_)
    · have hF := it_n c6 hF
      refine lv_iconst (v := (0 : Int32)) hx hb dX5_takePart_31 (by decide) ?_
      exact x_zret cx hr (by decide) hW hS (sp_1 hF) (sp_2 hF) dX5_takePart_32
    · have hF := it_p c6 hF
      refine lv_aload_n hx hb dX5_takePart_22 rfl (lv_at hl 0 rfl) ?_
      refine x_get cx hW kc_39 fk_X5_78 (v := .int (m_I M5 39 4)) rfl dX5_takePart_23 ?_
      refine lv_iload hx hb dX5_takePart_26 (lv_at hl 4 rfl) ?_
      refine lv_icmp_le (tgt := 33) hx hb dX5_takePart_28 (by decide) (fun c7 => ?_) (fun c7 => ?_)
      · have hF := it_p c7 hF
        refine lv_aload_n hx hb dX5_takePart_33 rfl (lv_at hl 2 rfl) ?_
        refine lv_iload_n hx hb dX5_takePart_34 rfl (lv_at hl 3 rfl) ?_
        refine lv_aload_n hx hb dX5_takePart_35 rfl (lv_at hl 0 rfl) ?_
        refine x_get cx hW kc_39 fk_X5_78 (v := .int (m_I M5 39 4)) rfl dX5_takePart_36 ?_
        obtain ⟨j8, hj8, gj8, hF⟩ := ix_e hF
        obtain ⟨M9, eM9, hF⟩ := pin_e hF
        refine x_iast cx hW hS h2 (by decide) hj8 gj8 eM9 dX5_takePart_39 (fun H locs hW hS => ?_)
        refine lv_aload_n hx hb dX5_takePart_40 rfl (lv_at hl 0 rfl) ?_
        obtain ⟨M11, hc10, hF⟩ := bi_e hF
        refine x_gov (x_runV cx hW hS (c_X5_step (l := l) (G := G) hc10) cv_X5_22 kc_39 rfl (rest := []) ⟨Nat.le_of_ble_eq_true rfl, Nat.le_of_ble_eq_true rfl⟩ hl.1 rfl rfl (Nat.le_of_ble_eq_true rfl) ⟨Nat.zero_le _, Nat.zero_le _⟩ dX5_takePart_41) hS (fun H locs hW hS => ?_)
        refine lv_iconst (v := (1 : Int32)) hx hb dX5_takePart_44 (by decide) ?_
        exact x_zret cx hr (by decide) hW hS (sp_1 hF) (sp_2 hF) dX5_takePart_45
      · have hF := it_n c7 hF
        refine lv_iconst (v := (0 : Int32)) hx hb dX5_takePart_31 (by decide) ?_
        exact x_zret cx hr (by decide) hW hS (sp_1 hF) (sp_2 hF) dX5_takePart_32
  · have hF := it_p c3 hF
    refine lv_iconst (v := (1 : Int32)) hx hb dX5_takePart_8 (by decide) ?_
    exact x_zret cx hr (by decide) hW hS (sp_1 hF) (sp_2 hF) dX5_takePart_9
def F_X5_takePerson (a1 : Nat) (M : Mem) : Option (Int32 × Mem) := (F_X5_namedKind M).bind (fun r2 => (if r2 < 0 then some ((0 : Int32), M) else (F_X4_isFull a1 M).bind (fun r5 => (if r5 = 0 then bn (F_X4_add a1 r2 M) (fun r8 M9 => (F_X5_step M9).bind (fun M11 => bn (F_X5_takePart 8 (a1 + 2) r8 (20 : Int32) M11) (fun r13 M14 => (if r13 = 0 then some ((0 : Int32), M14) else bn (F_X5_takePart 9 (a1 + 3) r8 (999 : Int32) M14) (fun r17 M18 => (if r17 = 0 then some ((0 : Int32), M18) else bn (F_X5_takePart 10 (a1 + 4) r8 (99 : Int32) M18) (fun r21 M22 => (if r21 = 0 then some ((0 : Int32), M22) else some ((1 : Int32), M22))))))))) else some ((0 : Int32), M)))))
set_option maxHeartbeats 4000000 in
set_option maxRecDepth 100000 in
theorem c_X5_takePerson {l : Launch} {G : GG} {a1 : Nat} (h1 : kd a1 = 3) {M : Mem} {r : Int32} {M1 : Mem} (hF : F_X5_takePerson a1 M = some (r, M1)) : Met l yX5_takePerson (wz yX5_takePerson cX5_takePerson 4 (some .boolean)) (RM 6 131) (PreC G [.ref (g_ad G 39), .ref (g_ad G a1)] M) (QcI G r M1) 0 0 (g_A G) := by
  rw [F_X5_takePerson] at hF
  refine x_start (by decide) (Nat.le_of_ble_eq_true rfl) (lv := [(0, .ref (g_ad G 39)), (1, .ref (g_ad G a1))]) rfl ?_
  intro p e s m below meth c cx hr hW hS ls hl
  obtain ⟨hx, hb, hml, hown, hts, hKK, hSS, hlk⟩ := id cx
  refine lv_aload_n hx hb dX5_takePerson_0 rfl (lv_at hl 0 rfl) ?_
  obtain ⟨r2, hc1, hF⟩ := bi_e hF
  refine x_goi (x_runV cx hW hS (c_X5_namedKind (l := l) (G := G) hc1) cv_X5_44 kc_39 rfl (rest := []) ⟨Nat.le_of_ble_eq_true rfl, Nat.le_of_ble_eq_true rfl⟩ hl.1 rfl rfl (Nat.le_of_ble_eq_true rfl) ⟨Nat.zero_le _, Nat.zero_le _⟩ dX5_takePerson_1) hS (fun H locs hW hS => ?_)
  refine lv_istore_n (lv' := [(2, .int r2), (0, .ref (g_ad G 39)), (1, .ref (g_ad G a1))]) hx hb dX5_takePerson_4 rfl hl (by decide) rfl (fun ls hl => ?_)
  refine lv_iload_n hx hb dX5_takePerson_5 rfl (lv_at hl 0 rfl) ?_
  refine lv_if_lt (tgt := 16) hx hb dX5_takePerson_6 (by decide) (fun c3 => ?_) (fun c3 => ?_)
  · have hF := it_p c3 hF
    refine lv_iconst (v := (0 : Int32)) hx hb dX5_takePerson_16 (by decide) ?_
    exact x_zret cx hr (by decide) hW hS (sp_1 hF) (sp_2 hF) dX5_takePerson_17
  · have hF := it_n c3 hF
    refine lv_aload_n hx hb dX5_takePerson_9 rfl (lv_at hl 2 rfl) ?_
    obtain ⟨r5, hc4, hF⟩ := bi_e hF
    refine x_goi (x_runV cx hW hS (c_X4_isFull (l := l) (G := G) h1 hc4) cv_X5_48 h1 rfl (rest := []) ⟨Nat.le_of_ble_eq_true rfl, Nat.le_of_ble_eq_true rfl⟩ hl.1 rfl rfl (Nat.le_of_ble_eq_true rfl) ⟨Nat.zero_le _, Nat.zero_le _⟩ dX5_takePerson_10) hS (fun H locs hW hS => ?_)
    refine lv_if_eq (tgt := 18) hx hb dX5_takePerson_13 (by decide) (fun c6 => ?_) (fun c6 => ?_)
    · have hF := it_p c6 hF
      refine lv_aload_n hx hb dX5_takePerson_18 rfl (lv_at hl 2 rfl) ?_
      refine lv_iload_n hx hb dX5_takePerson_19 rfl (lv_at hl 0 rfl) ?_
      obtain ⟨r8, M9, hc7, hF⟩ := bn_e hF
      refine x_goi (x_runV cx hW hS (c_X4_add (l := l) (G := G) h1 hc7) cv_X5_54 h1 rfl (rest := []) ⟨Nat.le_of_ble_eq_true rfl, Nat.le_of_ble_eq_true rfl⟩ hl.1 rfl rfl (Nat.le_of_ble_eq_true rfl) ⟨Nat.zero_le _, Nat.zero_le _⟩ dX5_takePerson_20) hS (fun H locs hW hS => ?_)
      refine lv_istore_n (lv' := [(3, .int r8), (2, .int r2), (0, .ref (g_ad G 39)), (1, .ref (g_ad G a1))]) hx hb dX5_takePerson_23 rfl hl (by decide) rfl (fun ls hl => ?_)
      refine lv_aload_n hx hb dX5_takePerson_24 rfl (lv_at hl 2 rfl) ?_
      obtain ⟨M11, hc10, hF⟩ := bi_e hF
      refine x_gov (x_runV cx hW hS (c_X5_step (l := l) (G := G) hc10) cv_X5_22 kc_39 rfl (rest := []) ⟨Nat.le_of_ble_eq_true rfl, Nat.le_of_ble_eq_true rfl⟩ hl.1 rfl rfl (Nat.le_of_ble_eq_true rfl) ⟨Nat.zero_le _, Nat.zero_le _⟩ dX5_takePerson_25) hS (fun H locs hW hS => ?_)
      refine lv_aload_n hx hb dX5_takePerson_28 rfl (lv_at hl 2 rfl) ?_
      refine x_ldcS cx (i := 8) (by decide) rfl dX5_takePerson_29 ?_
      refine lv_aload_n hx hb dX5_takePerson_31 rfl (lv_at hl 3 rfl) ?_
      refine x_get cx hW h1 fk_X5_60 (v := .ref (g_ad G (a1 + 2))) rfl dX5_takePerson_32 ?_
      refine lv_iload_n hx hb dX5_takePerson_35 rfl (lv_at hl 0 rfl) ?_
      refine lv_bipush (v := (20 : Int32)) hx hb dX5_takePerson_36 (by decide) ?_
      obtain ⟨r13, M14, hc12, hF⟩ := bn_e hF
      refine x_goi (x_runV cx hW hS (c_X5_takePart (l := l) (G := G) (by decide) (kd_v h1 (j := 2) (by decide) (by decide)) hc12) cv_X5_64 kc_39 rfl (rest := []) ⟨Nat.le_of_ble_eq_true rfl, Nat.le_of_ble_eq_true rfl⟩ hl.1 rfl rfl (Nat.le_of_ble_eq_true rfl) ⟨Nat.zero_le _, Nat.zero_le _⟩ dX5_takePerson_38) hS (fun H locs hW hS => ?_)
      refine lv_if_eq (tgt := 81) hx hb dX5_takePerson_41 (by decide) (fun c15 => ?_) (fun c15 => ?_)
      · have hF := it_p c15 hF
        refine lv_iconst (v := (0 : Int32)) hx hb dX5_takePerson_81 (by decide) ?_
        exact x_zret cx hr (by decide) hW hS (sp_1 hF) (sp_2 hF) dX5_takePerson_82
      · have hF := it_n c15 hF
        refine lv_aload_n hx hb dX5_takePerson_44 rfl (lv_at hl 2 rfl) ?_
        refine x_ldcS cx (i := 9) (by decide) rfl dX5_takePerson_45 ?_
        refine lv_aload_n hx hb dX5_takePerson_47 rfl (lv_at hl 3 rfl) ?_
        refine x_get cx hW h1 fk_X5_70 (v := .ref (g_ad G (a1 + 3))) rfl dX5_takePerson_48 ?_
        refine lv_iload_n hx hb dX5_takePerson_51 rfl (lv_at hl 0 rfl) ?_
        refine lv_sipush (v := (999 : Int32)) hx hb dX5_takePerson_52 (by decide) ?_
        obtain ⟨r17, M18, hc16, hF⟩ := bn_e hF
        refine x_goi (x_runV cx hW hS (c_X5_takePart (l := l) (G := G) (by decide) (kd_v h1 (j := 3) (by decide) (by decide)) hc16) cv_X5_64 kc_39 rfl (rest := []) ⟨Nat.le_of_ble_eq_true rfl, Nat.le_of_ble_eq_true rfl⟩ hl.1 rfl rfl (Nat.le_of_ble_eq_true rfl) ⟨Nat.zero_le _, Nat.zero_le _⟩ dX5_takePerson_55) hS (fun H locs hW hS => ?_)
        refine lv_if_eq (tgt := 81) hx hb dX5_takePerson_58 (by decide) (fun c19 => ?_) (fun c19 => ?_)
        · have hF := it_p c19 hF
          refine lv_iconst (v := (0 : Int32)) hx hb dX5_takePerson_81 (by decide) ?_
          exact x_zret cx hr (by decide) hW hS (sp_1 hF) (sp_2 hF) dX5_takePerson_82
        · have hF := it_n c19 hF
          refine lv_aload_n hx hb dX5_takePerson_61 rfl (lv_at hl 2 rfl) ?_
          refine x_ldcS cx (i := 10) (by decide) rfl dX5_takePerson_62 ?_
          refine lv_aload_n hx hb dX5_takePerson_64 rfl (lv_at hl 3 rfl) ?_
          refine x_get cx hW h1 fk_X5_75 (v := .ref (g_ad G (a1 + 4))) rfl dX5_takePerson_65 ?_
          refine lv_iload_n hx hb dX5_takePerson_68 rfl (lv_at hl 0 rfl) ?_
          refine lv_bipush (v := (99 : Int32)) hx hb dX5_takePerson_69 (by decide) ?_
          obtain ⟨r21, M22, hc20, hF⟩ := bn_e hF
          refine x_goi (x_runV cx hW hS (c_X5_takePart (l := l) (G := G) (by decide) (kd_v h1 (j := 4) (by decide) (by decide)) hc20) cv_X5_64 kc_39 rfl (rest := []) ⟨Nat.le_of_ble_eq_true rfl, Nat.le_of_ble_eq_true rfl⟩ hl.1 rfl rfl (Nat.le_of_ble_eq_true rfl) ⟨Nat.zero_le _, Nat.zero_le _⟩ dX5_takePerson_71) hS (fun H locs hW hS => ?_)
          refine lv_if_eq (tgt := 81) hx hb dX5_takePerson_74 (by decide) (fun c23 => ?_) (fun c23 => ?_)
          · have hF := it_p c23 hF
            refine lv_iconst (v := (0 : Int32)) hx hb dX5_takePerson_81 (by decide) ?_
            exact x_zret cx hr (by decide) hW hS (sp_1 hF) (sp_2 hF) dX5_takePerson_82
          · have hF := it_n c23 hF
            refine lv_iconst (v := (1 : Int32)) hx hb dX5_takePerson_77 (by decide) ?_
            refine lv_goto (tgt := 82) hx hb dX5_takePerson_78 (by decide) ?_
            exact x_zret cx hr (by decide) hW hS (sp_1 hF) (sp_2 hF) dX5_takePerson_82
    · have hF := it_n c6 hF
      refine lv_iconst (v := (0 : Int32)) hx hb dX5_takePerson_16 (by decide) ?_
      exact x_zret cx hr (by decide) hW hS (sp_1 hF) (sp_2 hF) dX5_takePerson_17
def F_X5_tell_39 (a1 : Nat) (k11 : Int32 → Mem → Option (Int32 × Mem)) (x2 : Int32) (t0 : Int32) (M : Mem) : Option (Int32 × Mem) := (if t0 = 0 then some (((-1 : Int32) - (m_I M 39 1)), M) else (if (m_I M 39 3) = 0 then some (x2, M) else (if (m_I M 39 3) = (3 : Int32) then (F_X5_step M).bind (fun M15 => k11 (x2 + 1) M15) else some (((-1 : Int32) - (m_I M 39 1)), M))))
set_option maxHeartbeats 4000000 in
set_option maxRecDepth 100000 in
theorem t_X5_tell_39 {p : Program} {l : Launch} {e : Env} {s : State} {m : MethodId} {args : Array Value} {below : List Frame} {meth : Method} {c : Code} {G : GG} {a1 : Nat} (cx : Cx G cX5_tell RX5 4 p s m args meth c) (hr : meth.sig.returnType = (some .int)) (h1 : kd a1 = 3)  {r : Int32} {M1 : Mem} {k11 : Int32 → Mem → Option (Int32 × Mem)} (hk11 : ∀ (x2 : Int32) (M : Mem), k11 x2 M = some (r, M1) → ∀ (H : Heap) (locs : List Loc) (ls : Array Slot), WH G M H → va_S (g_A G) s.heap H locs → lv_has ls 4 [(0, .ref (g_ad G 39)), (1, .ref (g_ad G a1)), (2, .int x2)] → W p l e (RM 7 154) s m args below meth c H locs 0 0 (MQ below (QcI G r M1) args s 0 0 (g_A G)) (F0 m 11 ls [])) : ∀ (x2 : Int32) (t0 : Int32) (M : Mem), F_X5_tell_39 a1 k11 x2 t0 M = some (r, M1) → ∀ (H : Heap) (locs : List Loc) (ls : Array Slot), WH G M H → va_S (g_A G) s.heap H locs → lv_has ls 4 [(0, .ref (g_ad G 39)), (1, .ref (g_ad G a1)), (2, .int x2)] → W p l e (RM 7 154) s m args below meth c H locs 0 0 (MQ below (QcI G r M1) args s 0 0 (g_A G)) (F0 m 39 ls [.int t0]) := by
  obtain ⟨hx, hb, hml, hown, hts, hKK, hSS, hlk⟩ := id cx
  intro x2 t0 M hF H locs ls hW hS hl
  rw [F_X5_tell_39] at hF
  refine lv_istore_n (lv' := [(3, .int t0), (0, .ref (g_ad G 39)), (1, .ref (g_ad G a1)), (2, .int x2)]) hx hb dX5_tell_39 rfl hl (by decide) rfl (fun ls hl => ?_)
  refine lv_iload_n hx hb dX5_tell_40 rfl (lv_at hl 0 rfl) ?_
  refine lv_if_ne (tgt := 47) hx hb dX5_tell_41 (by decide) (fun c11 => ?_) (fun c11 => ?_)
  · have hF := it_n c11 hF
    refine lv_aload_n hx hb dX5_tell_47 rfl (lv_at hl 1 rfl) ?_
    refine x_get cx hW kc_39 fk_X5_38 (v := .int (m_I M 39 3)) rfl dX5_tell_48 ?_
    refine lv_if_ne (tgt := 56) hx hb dX5_tell_51 (by decide) (fun c12 => ?_) (fun c12 => ?_)
    · have hF := it_n c12 hF
      refine lv_aload_n hx hb dX5_tell_56 rfl (lv_at hl 1 rfl) ?_
      refine x_get cx hW kc_39 fk_X5_38 (v := .int (m_I M 39 3)) rfl dX5_tell_57 ?_
      refine lv_iconst (v := (3 : Int32)) hx hb dX5_tell_60 (by decide) ?_
      refine lv_icmp_eq (tgt := 67) hx hb dX5_tell_61 (by decide) (fun c13 => ?_) (fun c13 => ?_)
      · have hF := it_p c13 hF
        refine lv_aload_n hx hb dX5_tell_67 rfl (lv_at hl 1 rfl) ?_
        obtain ⟨M15, hc14, hF⟩ := bi_e hF
        refine x_gov (x_runV cx hW hS (c_X5_step (l := l) (G := G) hc14) cv_X5_22 kc_39 rfl (rest := []) ⟨Nat.le_of_ble_eq_true rfl, Nat.le_of_ble_eq_true rfl⟩ hl.1 rfl rfl (Nat.le_of_ble_eq_true rfl) ⟨Nat.zero_le _, Nat.zero_le _⟩ dX5_tell_68) hS (fun H locs hW hS => ?_)
        refine lv_iinc (v := (x2 + 1)) (lv' := [(2, .int (x2 + 1)), (3, .int t0), (0, .ref (g_ad G 39)), (1, .ref (g_ad G a1))]) hx hb dX5_tell_71 hl (k := 3) rfl rfl (by decide) rfl (fun ls hl => ?_)
        refine lv_goto (tgt := 11) hx hb dX5_tell_74 (by decide) ?_
        exact hk11 (x2 + 1) M15 hF _ _ _ hW hS (lv_sub hl [2, 3, 0] rfl)
      · have hF := it_n c13 hF
        refine lv_goto (tgt := 77) hx hb dX5_tell_64 (by decide) ?_
        refine lv_iconst (v := (-1 : Int32)) hx hb dX5_tell_77 (by decide) ?_
        refine lv_aload_n hx hb dX5_tell_78 rfl (lv_at hl 1 rfl) ?_
        refine x_get cx hW kc_39 fk_X5_41 (v := .int (m_I M 39 1)) rfl dX5_tell_79 ?_
        refine lv_isub hx hb dX5_tell_82 ?_
        exact x_iret cx hr hW hS (sp_1 hF) (sp_2 hF) dX5_tell_83
    · have hF := it_p c12 hF
      refine lv_iload_n hx hb dX5_tell_54 rfl (lv_at hl 3 rfl) ?_
      exact x_iret cx hr hW hS (sp_1 hF) (sp_2 hF) dX5_tell_55
  · have hF := it_p c11 hF
    refine lv_goto (tgt := 77) hx hb dX5_tell_44 (by decide) ?_
    refine lv_iconst (v := (-1 : Int32)) hx hb dX5_tell_77 (by decide) ?_
    refine lv_aload_n hx hb dX5_tell_78 rfl (lv_at hl 1 rfl) ?_
    refine x_get cx hW kc_39 fk_X5_41 (v := .int (m_I M 39 1)) rfl dX5_tell_79 ?_
    refine lv_isub hx hb dX5_tell_82 ?_
    exact x_iret cx hr hW hS (sp_1 hF) (sp_2 hF) dX5_tell_83
def F_X5_tell_11 (a1 : Nat) : Nat → Int32 → Mem → Option (Int32 × Mem)
  | 0, _, _ => none
  | n + 1, x2, M => (if (120 : Int32) < x2 then some (((-1 : Int32) - (m_I M 39 1)), M) else (F_X5_isWord 0 M).bind (fun r6 => (if r6 = 0 then bn (F_X5_takePerson a1 M) (fun r9 M10 => F_X5_tell_39 a1 (F_X5_tell_11 a1 n) x2 r9 M10) else bn (F_X5_takeSlip a1 M) (fun r17 M18 => F_X5_tell_39 a1 (F_X5_tell_11 a1 n) x2 r17 M18))))
set_option maxHeartbeats 4000000 in
set_option maxRecDepth 100000 in
theorem t_X5_tell_11 {p : Program} {l : Launch} {e : Env} {s : State} {m : MethodId} {args : Array Value} {below : List Frame} {meth : Method} {c : Code} {G : GG} {a1 : Nat} (cx : Cx G cX5_tell RX5 4 p s m args meth c) (hr : meth.sig.returnType = (some .int)) (h1 : kd a1 = 3)  {r : Int32} {M1 : Mem} : ∀ (n : Nat) (x2 : Int32) (M : Mem), F_X5_tell_11 a1 n x2 M = some (r, M1) → ∀ (H : Heap) (locs : List Loc) (ls : Array Slot), WH G M H → va_S (g_A G) s.heap H locs → lv_has ls 4 [(0, .ref (g_ad G 39)), (1, .ref (g_ad G a1)), (2, .int x2)] → W p l e (RM 7 154) s m args below meth c H locs 0 0 (MQ below (QcI G r M1) args s 0 0 (g_A G)) (F0 m 11 ls []) := by
  obtain ⟨hx, hb, hml, hown, hts, hKK, hSS, hlk⟩ := id cx
  intro n
  induction n with
  | zero =>
    intro x2 M hF H locs ls hW hS hl
    rw [F_X5_tell_11] at hF
    cases hF
  | succ n ih =>
    intro x2 M hF H locs ls hW hS hl
    rw [F_X5_tell_11] at hF
    refine lv_iload_n hx hb dX5_tell_11 rfl (lv_at hl 2 rfl) ?_
    refine lv_bipush (v := (120 : Int32)) hx hb dX5_tell_12 (by decide) ?_
    refine lv_icmp_gt (tgt := 77) hx hb dX5_tell_14 (by decide) (fun c4 => ?_) (fun c4 => ?_)
    · have hF := it_p c4 hF
      refine lv_iconst (v := (-1 : Int32)) hx hb dX5_tell_77 (by decide) ?_
      refine lv_aload_n hx hb dX5_tell_78 rfl (lv_at hl 0 rfl) ?_
      refine x_get cx hW kc_39 fk_X5_41 (v := .int (m_I M 39 1)) rfl dX5_tell_79 ?_
      refine lv_isub hx hb dX5_tell_82 ?_
      exact x_iret cx hr hW hS (sp_1 hF) (sp_2 hF) dX5_tell_83
    · have hF := it_n c4 hF
      refine lv_aload_n hx hb dX5_tell_17 rfl (lv_at hl 0 rfl) ?_
      refine x_ldcS cx (i := 0) (by decide) rfl dX5_tell_18 ?_
      obtain ⟨r6, hc5, hF⟩ := bi_e hF
      refine x_goi (x_runV cx hW hS (c_X5_isWord (l := l) (G := G) (by decide) hc5) cv_X5_27 kc_39 rfl (rest := []) ⟨Nat.le_of_ble_eq_true rfl, Nat.le_of_ble_eq_true rfl⟩ hl.1 rfl rfl (Nat.le_of_ble_eq_true rfl) ⟨Nat.zero_le _, Nat.zero_le _⟩ dX5_tell_20) hS (fun H locs hW hS => ?_)
      refine lv_if_eq (tgt := 34) hx hb dX5_tell_23 (by decide) (fun c7 => ?_) (fun c7 => ?_)
      · have hF := it_p c7 hF
        refine lv_aload_n hx hb dX5_tell_34 rfl (lv_at hl 0 rfl) ?_
        refine lv_aload_n hx hb dX5_tell_35 rfl (lv_at hl 1 rfl) ?_
        obtain ⟨r9, M10, hc8, hF⟩ := bn_e hF
        refine x_goi (x_runV cx hW hS (c_X5_takePerson (l := l) (G := G) h1 hc8) cv_X5_35 kc_39 rfl (rest := []) ⟨Nat.le_of_ble_eq_true rfl, Nat.le_of_ble_eq_true rfl⟩ hl.1 rfl rfl (Nat.le_of_ble_eq_true rfl) ⟨Nat.zero_le _, Nat.zero_le _⟩ dX5_tell_36) hS (fun H locs hW hS => ?_)
        exact t_X5_tell_39 cx hr h1 ih x2 r9 M10 hF _ _ _ hW hS (lv_sub hl [0, 1, 2] rfl)
      · have hF := it_n c7 hF
        refine lv_aload_n hx hb dX5_tell_26 rfl (lv_at hl 0 rfl) ?_
        refine lv_aload_n hx hb dX5_tell_27 rfl (lv_at hl 1 rfl) ?_
        obtain ⟨r17, M18, hc16, hF⟩ := bn_e hF
        refine x_goi (x_runV cx hW hS (c_X5_takeSlip (l := l) (G := G) h1 hc16) cv_X5_31 kc_39 rfl (rest := []) ⟨Nat.le_of_ble_eq_true rfl, Nat.le_of_ble_eq_true rfl⟩ hl.1 rfl rfl (Nat.le_of_ble_eq_true rfl) ⟨Nat.zero_le _, Nat.zero_le _⟩ dX5_tell_28) hS (fun H locs hW hS => ?_)
        refine lv_goto (tgt := 39) hx hb dX5_tell_31 (by decide) ?_
        exact t_X5_tell_39 cx hr h1 ih x2 r17 M18 hF _ _ _ hW hS (lv_sub hl [0, 1, 2] rfl)
def F_X5_tell (a1 : Nat) (M : Mem) : Option (Int32 × Mem) := pin (w_I M 39 2 (0 : Int32)) (fun M1 => (F_X5_step M1).bind (fun M3 => F_X5_tell_11 a1 FU (1 : Int32) M3))
set_option maxHeartbeats 4000000 in
set_option maxRecDepth 100000 in
theorem c_X5_tell {l : Launch} {G : GG} {a1 : Nat} (h1 : kd a1 = 3) {M : Mem} {r : Int32} {M1 : Mem} (hF : F_X5_tell a1 M = some (r, M1)) : Met l yX5_tell (wz yX5_tell cX5_tell 4 (some .int)) (RM 7 154) (PreC G [.ref (g_ad G 39), .ref (g_ad G a1)] M) (QcI G r M1) 0 0 (g_A G) := by
  rw [F_X5_tell] at hF
  refine x_start (by decide) (Nat.le_of_ble_eq_true rfl) (lv := [(0, .ref (g_ad G 39)), (1, .ref (g_ad G a1))]) rfl ?_
  intro p e s m below meth c cx hr hW hS ls hl
  obtain ⟨hx, hb, hml, hown, hts, hKK, hSS, hlk⟩ := id cx
  refine lv_aload_n hx hb dX5_tell_0 rfl (lv_at hl 0 rfl) ?_
  refine lv_iconst (v := (0 : Int32)) hx hb dX5_tell_1 (by decide) ?_
  obtain ⟨M1, eM1, hF⟩ := pin_e hF
  refine x_puti cx hW hS kc_39 fk_X5_18 ft_4_2 (Nat.le_of_ble_eq_true rfl) fs_4_2 eM1 dX5_tell_2 (fun H locs hW hS => ?_)
  refine lv_aload_n hx hb dX5_tell_5 rfl (lv_at hl 0 rfl) ?_
  obtain ⟨M3, hc2, hF⟩ := bi_e hF
  refine x_gov (x_runV cx hW hS (c_X5_step (l := l) (G := G) hc2) cv_X5_22 kc_39 rfl (rest := []) ⟨Nat.le_of_ble_eq_true rfl, Nat.le_of_ble_eq_true rfl⟩ hl.1 rfl rfl (Nat.le_of_ble_eq_true rfl) ⟨Nat.zero_le _, Nat.zero_le _⟩ dX5_tell_6) hS (fun H locs hW hS => ?_)
  refine lv_iconst (v := (1 : Int32)) hx hb dX5_tell_9 (by decide) ?_
  refine lv_istore_n (lv' := [(2, .int (1 : Int32)), (0, .ref (g_ad G 39)), (1, .ref (g_ad G a1))]) hx hb dX5_tell_10 rfl hl (by decide) rfl (fun ls hl => ?_)
  exact t_X5_tell_11 cx hr h1 FU (1 : Int32) M3 hF _ _ _ hW hS (lv_sub hl [1, 2, 0] rfl)
