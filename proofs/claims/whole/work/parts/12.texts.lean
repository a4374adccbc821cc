/-! ===== the JDK's String, over the texts that the class has ===== -/
def chS (i j : Nat) : Int32 := ((bytL.getD i []).getD j 0 &&& 255)
theorem tx_all : ∀ i, i < 11 → lenL.getD i 0 < 2 ^ 31 ∧ lenL.getD i 0 = (bytL.getD i []).length := by decide +kernel
section XT
variable {p : Program} {l : Launch} {e : Env} {R : Room} {s : State} {m : MethodId} {args : Array Value} {below : List Frame} {meth : Method} {c : Code} {H : Heap} {locs : List Loc} {Q : State → Prop} {cells slots : Nat}
variable {cc bytes : ByteArray} {pc nL maxL index n i f0 n0 : Nat} {ls : Array Slot} {rest As st0 : List Value} {G : GG} {M M1 : Mem} {own : String} {y : MethodName} {ret : Option FieldType} {Qc : Array Value → State → Outcome → State → Prop}
theorem x_runT (cx : Cx G cc own nL p s m args meth c) (hi : i < 11) (hW : WH G M H) (hS : va_S (g_A G) s.heap H locs) (hM : Met l y (wz y bytes maxL ret) (RM f0 n0) (PreC G (.ref (g_ak G i) :: As) M) Qc 0 0 (g_A G)) (hq : CV own index RJ0 y bytes maxL ret n)
    (hR : f0 + 1 ≤ R.frames ∧ 8 + (maxL + 11) + n0 ≤ R.locals) (hls : ls.size = nL) (hn : As.length = n) (hst : st0 = As.reverse ++ .ref (g_ak G i) :: rest) (hw : (rest.map fun v => v.category).sum ≤ 8) (hf : cells ≤ R.cells ∧ slots ≤ R.slots) (hdg : decode cc pc = .ok (.invokevirtual index, 3)) :
    va_Run p l e R s m args below meth c H locs cells slots 0 0 (F0 m pc ls st0) rest (Qc (Value.ref (g_ak G i) :: As).toArray) (g_A G) := by
  obtain ⟨hx, hb, hml, hown, hts, hK, hSS, hlk⟩ := cx
  obtain ⟨q1, q2, q3, q4, q5, q6, q7⟩ := hq
  refine va_runV (Ts := WL) (C := RJ0) (n := n) ⟨hx, hb, hml, hown, hts⟩ hM ⟨callB_of n hts (wz_good q5) rfl rfl rfl (by rw [q6]; exact hts _ q4) (hts _ q1) q7 hR, hts _ q2, hts _ q3⟩ ⟨PreC.blind, ?_, fun U hU hWm => ⟨rfl, hK.warm hWm, ?_, ?_⟩⟩ rfl hn hls hst (lv_room hw) hdg hf
  · exact vk_recv hSS.2.2.2.2.2.1 hi hS
  · rw [hU]
    exact hSS.go hWm hS.2.1
  · rw [hU]
    exact hW
/-- a field of a text -/
theorem x_getT {nm d : String} {v : Value} {q : Nat} (cx : Cx G cc own nL p s m args meth c) (hE : va_OF "java/lang/String" nm d v q (g_A G) s s.heap) (hS : va_S (g_A G) s.heap H locs) (hlink : Cond.fieldLink own index "java/lang/String" nm d ∈ WL) (hdg : decode cc pc = .ok (.getfield index, 3))
    (kk : W p l e R s m args below meth c H locs 0 0 Q (F0 m (pc + 3) ls (v :: rest))) : W p l e R s m args below meth c H locs 0 0 Q (F0 m pc ls (.ref q :: rest)) :=
  vk_getf cx.1 cx.2.1 hE hS cx.2.2.2.1 (cx.2.2.2.2.1 _ hlink) (fun _ q => q) hdg kk
end XT
set_option maxHeartbeats 4000000 in
set_option maxRecDepth 100000 in
theorem c_J0_coder {l : Launch} {G : GG} {i : Nat} (hi : i < 11) {M : Mem} : Met l yJ0_coder_7d493 (wz yJ0_coder_7d493 cJ0_coder_7d493 1 (some .byte)) (RM 0 0) (PreC G [.ref (g_ak G i)] M) (QcI G 0 M) 0 0 (g_A G) := by
  refine x_start (by decide) (Nat.le_of_ble_eq_true rfl) (lv := [(0, .ref (g_ak G i))]) rfl ?_
  intro p e s m below meth c cx hr hW hS ls hl
  obtain ⟨hx, hb, hml, hown, hts, hKK, hSS, hlk⟩ := id cx
  refine x_gets cx hSS.2.2.2.1 hS q_gs_J0_38 dJ0_coder_7d493_0 ?_
  refine lv_if_eq (tgt := 13) hx hb dJ0_coder_7d493_3 (by decide) (fun c1 => absurd c1 (by decide)) (fun c1 => ?_)
  refine lv_aload_n hx hb dJ0_coder_7d493_6 rfl (lv_at hl 0 rfl) ?_
  refine x_getT cx (hSS.2.2.2.2.2.1.1 i hi).2.1 hS q_gs_J0_15 dJ0_coder_7d493_7 ?_
  refine lv_goto (tgt := 14) hx hb dJ0_coder_7d493_10 (by decide) ?_
  exact x_zret cx hr (by decide) hW hS rfl rfl dJ0_coder_7d493_14
set_option maxHeartbeats 4000000 in
set_option maxRecDepth 100000 in
theorem c_J0_isLatin1 {l : Launch} {G : GG} {i : Nat} (hi : i < 11) {M : Mem} : Met l yJ0_isLatin1_aae02 (wz yJ0_isLatin1_aae02 cJ0_isLatin1_aae02 1 (some .boolean)) (RM 0 0) (PreC G [.ref (g_ak G i)] M) (QcI G 1 M) 0 0 (g_A G) := by
  refine x_start (by decide) (Nat.le_of_ble_eq_true rfl) (lv := [(0, .ref (g_ak G i))]) rfl ?_
  intro p e s m below meth c cx hr hW hS ls hl
  obtain ⟨hx, hb, hml, hown, hts, hKK, hSS, hlk⟩ := id cx
  refine x_gets cx hSS.2.2.2.1 hS q_gs_J0_38 dJ0_isLatin1_aae02_0 ?_
  refine lv_if_eq (tgt := 17) hx hb dJ0_isLatin1_aae02_3 (by decide) (fun c1 => absurd c1 (by decide)) (fun c1 => ?_)
  refine lv_aload_n hx hb dJ0_isLatin1_aae02_6 rfl (lv_at hl 0 rfl) ?_
  refine x_getT cx (hSS.2.2.2.2.2.1.1 i hi).2.1 hS q_gs_J0_15 dJ0_isLatin1_aae02_7 ?_
  refine lv_if_ne (tgt := 17) hx hb dJ0_isLatin1_aae02_10 (by decide) (fun c1 => absurd rfl c1) (fun c1 => ?_)
  refine lv_iconst (v := (1 : Int32)) hx hb dJ0_isLatin1_aae02_13 (by decide) ?_
  refine lv_goto (tgt := 18) hx hb dJ0_isLatin1_aae02_14 (by decide) ?_
  exact x_zret cx hr (by decide) hW hS rfl rfl dJ0_isLatin1_aae02_18
set_option maxHeartbeats 4000000 in
set_option maxRecDepth 100000 in
theorem c_J0_length {l : Launch} {G : GG} {i : Nat} (hi : i < 11) {M : Mem} : Met l yJ0_length_8abf5 (wz yJ0_length_8abf5 cJ0_length_8abf5 1 (some .int)) (RM 1 20) (PreC G [.ref (g_ak G i)] M) (QcI G (nI (lenL.getD i 0)) M) 0 0 (g_A G) := by
  refine x_start (by decide) (Nat.le_of_ble_eq_true rfl) (lv := [(0, .ref (g_ak G i))]) rfl ?_
  intro p e s m below meth c cx hr hW hS ls hl
  obtain ⟨hx, hb, hml, hown, hts, hKK, hSS, hlk⟩ := id cx
  refine lv_aload_n hx hb dJ0_length_8abf5_0 rfl (lv_at hl 0 rfl) ?_
  refine x_getT cx (hSS.2.2.2.2.2.1.1 i hi).2.2.1 hS q_gs_J0_9 dJ0_length_8abf5_1 ?_
  refine va_tlen (v := nI (lenL.getD i 0)) hx hb (hSS.2.2.2.2.2.1.1 i hi).2.2.2 hS rfl dJ0_length_8abf5_4 ?_
  refine lv_aload_n hx hb dJ0_length_8abf5_5 rfl (lv_at hl 0 rfl) ?_
  refine x_goi (x_runT cx hi hW hS (c_J0_coder (l := l) (G := G) hi) cv_J0_335 (rest := [.int (nI (lenL.getD i 0))]) ⟨Nat.le_of_ble_eq_true rfl, Nat.le_of_ble_eq_true rfl⟩ hl.1 rfl rfl (Nat.le_of_ble_eq_true rfl) ⟨Nat.zero_le _, Nat.zero_le _⟩ dJ0_length_8abf5_6) hS (fun H locs hW hS => ?_)
  refine lv_ishr hx hb dJ0_length_8abf5_9 ?_
  exact x_iret cx hr hW hS (sc_shr0 (tx_all i hi).1) rfl dJ0_length_8abf5_10
set_option maxHeartbeats 4000000 in
set_option maxRecDepth 100000 in
theorem c_J3_checkIndex {l : Launch} {G : GG} {a b : Int32} (h0 : ¬ a < 0) (h1 : a < b) {M : Mem} (hf : g_fm G = .null ∨ ∃ q, g_fm G = .ref q) : Met l yJ3_checkIndex_8e157 (wz yJ3_checkIndex_8e157 cJ3_checkIndex_8e157 3 (some .int)) (RM 0 0) (PreC G [.int a, .int b, g_fm G] M) (QcI G a M) 0 0 (g_A G) := by
  refine x_start (by decide) ?_ (lv := [(0, .int a), (1, .int b), (2, g_fm G)]) rfl ?_
  · rcases hf with h | ⟨q, h⟩ <;> rw [h] <;> exact Nat.le_of_ble_eq_true rfl
  intro p e s m below meth c cx hr hW hS ls hl
  obtain ⟨hx, hb, hml, hown, hts, hKK, hSS, hlk⟩ := id cx
  refine lv_iload_n hx hb dJ3_checkIndex_8e157_0 rfl (lv_at hl 0 rfl) ?_
  refine lv_if_lt (tgt := 9) hx hb dJ3_checkIndex_8e157_1 (by decide) (fun c1 => absurd c1 h0) (fun c1 => ?_)
  refine lv_iload_n hx hb dJ3_checkIndex_8e157_4 rfl (lv_at hl 0 rfl) ?_
  refine lv_iload_n hx hb dJ3_checkIndex_8e157_5 rfl (lv_at hl 1 rfl) ?_
  refine lv_icmp_lt (tgt := 16) hx hb dJ3_checkIndex_8e157_6 (by decide) (fun c2 => ?_) (fun c2 => absurd h1 c2)
  refine lv_iload_n hx hb dJ3_checkIndex_8e157_16 rfl (lv_at hl 0 rfl) ?_
  exact x_iret cx hr hW hS rfl rfl dJ3_checkIndex_8e157_17
set_option maxHeartbeats 4000000 in
set_option maxRecDepth 100000 in
theorem c_J0_checkIndex {l : Launch} {G : GG} {a b : Int32} (h0 : ¬ a < 0) (h1 : a < b) {M : Mem} : Met l yJ0_checkIndex_df160 (wz yJ0_checkIndex_df160 cJ0_checkIndex_df160 2 none) (RM 1 22) (PreC G [.int a, .int b] M) (QcV G M) 0 0 (g_A G) := by
  refine x_start (by decide) (Nat.le_of_ble_eq_true rfl) (lv := [(0, .int a), (1, .int b)]) rfl ?_
  intro p e s m below meth c cx hr hW hS ls hl
  obtain ⟨hx, hb, hml, hown, hts, hKK, hSS, hlk⟩ := id cx
  refine lv_iload_n hx hb dJ0_checkIndex_df160_0 rfl (lv_at hl 0 rfl) ?_
  refine lv_iload_n hx hb dJ0_checkIndex_df160_1 rfl (lv_at hl 1 rfl) ?_
  refine x_gets cx hSS.2.2.2.2.1.1 hS q_gs_J0_1053 dJ0_checkIndex_df160_2 ?_
  refine x_goi (x_runS cx hW hS (c_J3_checkIndex (l := l) (G := G) h0 h1 hSS.2.2.2.2.1.2) cs_J0_1059 (rest := []) ⟨Nat.le_of_ble_eq_true rfl, Nat.le_of_ble_eq_true rfl⟩ hl.1 rfl rfl (Nat.le_of_ble_eq_true rfl) ⟨Nat.zero_le _, Nat.zero_le _⟩ dJ0_checkIndex_df160_5) hS (fun H locs hW hS => ?_)
  refine lv_pop hx hb dJ0_checkIndex_df160_8 rfl ?_
  exact x_vret cx hr hW hS rfl dJ0_checkIndex_df160_9
theorem chS_c (i j : Nat) : ((((bytL.getD i []).getD j 0) &&& 255).toUInt32 % 65536).toInt32 = chS i j := sc_c2 _
theorem chS_n (i j : Nat) : narrow .char (.int (chS i j)) = .int (chS i j) := sc_nar _
set_option maxHeartbeats 4000000 in
set_option maxRecDepth 100000 in
theorem c_J1_charAt {l : Launch} {G : GG} {i j : Nat} {a : Int32} (hi : i < 11) (hj : a.toNatClampNeg = j) (h : vp_in a (lenL.getD i 0)) {M : Mem} : Met l yJ1_charAt_3b067 (wz yJ1_charAt_3b067 cJ1_charAt_3b067 2 (some .char)) (RM 2 43) (PreC G [.ref (g_av G i), .int a] M) (QcI G (chS i j) M) 0 0 (g_A G) := by
  subst hj
  obtain ⟨hl1, hl2⟩ := tx_all i hi
  obtain ⟨j, hj, rfl⟩ := vp_in_of h hl1
  refine x_start (by decide) (Nat.le_of_ble_eq_true rfl) (lv := [(0, .ref (g_av G i)), (1, .int (nI j))]) rfl ?_
  intro p e s m below meth c cx hr hW hS ls hl
  obtain ⟨hx, hb, hml, hown, hts, hKK, hSS, hlk⟩ := id cx
  refine lv_iload_n hx hb dJ1_charAt_3b067_0 rfl (lv_at hl 1 rfl) ?_
  refine lv_aload_n hx hb dJ1_charAt_3b067_1 rfl (lv_at hl 0 rfl) ?_
  refine va_tlen (v := nI (lenL.getD i 0)) hx hb (hSS.2.2.2.2.2.1.1 i hi).2.2.2 hS rfl dJ1_charAt_3b067_2 ?_
  refine x_gov (x_runS cx hW hS (c_J0_checkIndex (l := l) (G := G) (nI_pos (Nat.lt_trans hj hl1)) (nI_lt hj hl1)) cs_J1_9 (rest := []) ⟨Nat.le_of_ble_eq_true rfl, Nat.le_of_ble_eq_true rfl⟩ hl.1 rfl rfl (Nat.le_of_ble_eq_true rfl) ⟨Nat.zero_le _, Nat.zero_le _⟩ dJ1_charAt_3b067_3) hS (fun H locs hW hS => ?_)
  refine lv_aload_n hx hb dJ1_charAt_3b067_6 rfl (lv_at hl 0 rfl) ?_
  refine lv_iload_n hx hb dJ1_charAt_3b067_7 rfl (lv_at hl 1 rfl) ?_
  refine va_tb (v := .int ((bytL.getD i []).getD (nI j).toNatClampNeg 0)) hx hb (hSS.2.2.2.2.2.1.1 i hi).2.2.2 hS h rfl dJ1_charAt_3b067_8 ?_
  refine lv_sipush (v := (255 : Int32)) hx hb dJ1_charAt_3b067_9 (by decide) ?_
  refine lv_iand hx hb dJ1_charAt_3b067_12 ?_
  refine lv_i2c hx hb dJ1_charAt_3b067_13 (chS_c i _) ?_
  exact x_zret cx hr (chS_n _ _) hW hS rfl rfl dJ1_charAt_3b067_14
set_option maxHeartbeats 4000000 in
set_option maxRecDepth 100000 in
theorem c_J0_charAt {l : Launch} {G : GG} {i j : Nat} {a : Int32} (hi : i < 11) (hj : a.toNatClampNeg = j) (h : vp_in a (lenL.getD i 0)) {M : Mem} : Met l yJ0_charAt_5068e (wz yJ0_charAt_5068e cJ0_charAt_5068e 2 (some .char)) (RM 3 64) (PreC G [.ref (g_ak G i), .int a] M) (QcI G (chS i j) M) 0 0 (g_A G) := by
  refine x_start (by decide) (Nat.le_of_ble_eq_true rfl) (lv := [(0, .ref (g_ak G i)), (1, .int a)]) rfl ?_
  intro p e s m below meth c cx hr hW hS ls hl
  obtain ⟨hx, hb, hml, hown, hts, hKK, hSS, hlk⟩ := id cx
  refine lv_aload_n hx hb dJ0_charAt_5068e_0 rfl (lv_at hl 0 rfl) ?_
  refine x_goi (x_runT cx hi hW hS (c_J0_isLatin1 (l := l) (G := G) hi) cv_J0_492 (rest := []) ⟨Nat.le_of_ble_eq_true rfl, Nat.le_of_ble_eq_true rfl⟩ hl.1 rfl rfl (Nat.le_of_ble_eq_true rfl) ⟨Nat.zero_le _, Nat.zero_le _⟩ dJ0_charAt_5068e_1) hS (fun H locs hW hS => ?_)
  refine lv_if_eq (tgt := 16) hx hb dJ0_charAt_5068e_4 (by decide) (fun c1 => absurd c1 (by decide)) (fun c1 => ?_)
  refine lv_aload_n hx hb dJ0_charAt_5068e_7 rfl (lv_at hl 0 rfl) ?_
  refine x_getT cx (hSS.2.2.2.2.2.1.1 i hi).2.2.1 hS q_gs_J0_9 dJ0_charAt_5068e_8 ?_
  refine lv_iload_n hx hb dJ0_charAt_5068e_11 rfl (lv_at hl 1 rfl) ?_
  refine x_goi (x_runS cx hW hS (c_J1_charAt (l := l) (G := G) hi hj h) cs_J0_495 (rest := []) ⟨Nat.le_of_ble_eq_true rfl, Nat.le_of_ble_eq_true rfl⟩ hl.1 rfl rfl (Nat.le_of_ble_eq_true rfl) ⟨Nat.zero_le _, Nat.zero_le _⟩ dJ0_charAt_5068e_12) hS (fun H locs hW hS => ?_)
  exact x_zret cx hr (chS_n _ _) hW hS rfl rfl dJ0_charAt_5068e_15
section XU
variable {p : Program} {l : Launch} {e : Env} {R : Room} {s : State} {m : MethodId} {args : Array Value} {below : List Frame} {meth : Method} {c : Code} {H : Heap} {locs : List Loc} {Q : State → Prop}
variable {cc : ByteArray} {pc nL index i : Nat} {ls : Array Slot} {rest : List Value} {G : GG} {M : Mem} {own : String}
theorem x_strlen (cx : Cx G cc own nL p s m args meth c) (hi : i < 11) (hW : WH G M H) (hS : va_S (g_A G) s.heap H locs) (hq : CV own index RJ0 yJ0_length_8abf5 cJ0_length_8abf5 1 (some .int) 0) (hls : ls.size = nL) (hR : 1 + 1 ≤ R.frames ∧ 8 + (1 + 11) + 20 ≤ R.locals) (hw : (rest.map fun v => v.category).sum ≤ 8) (hdg : decode cc pc = .ok (.invokevirtual index, 3))
    (kk : ∀ (H1 : Heap) (locs1 : List Loc), WH G M H1 → va_S (g_A G) s.heap H1 locs1 → W p l e R s m args below meth c H1 locs1 0 0 Q (F0 m (pc + 3) ls (.int (nI (lenL.getD i 0)) :: rest))) : W p l e R s m args below meth c H locs 0 0 Q (F0 m pc ls (.ref (g_ak G i) :: rest)) :=
  x_goi (x_runT cx hi hW hS (c_J0_length (l := l) (G := G) hi) hq hR hls rfl rfl hw ⟨Nat.zero_le _, Nat.zero_le _⟩ hdg) hS kk
theorem x_charAt {a : Int32} {j : Nat} (cx : Cx G cc own nL p s m args meth c) (hi : i < 11) (hW : WH G M H) (hS : va_S (g_A G) s.heap H locs) (hj : a.toNatClampNeg = j) (h : vp_in a (lenL.getD i 0)) (hq : CV own index RJ0 yJ0_charAt_5068e cJ0_charAt_5068e 2 (some .char) 1) (hls : ls.size = nL) (hR : 3 + 1 ≤ R.frames ∧ 8 + (2 + 11) + 64 ≤ R.locals) (hw : (rest.map fun v => v.category).sum ≤ 8) (hdg : decode cc pc = .ok (.invokevirtual index, 3))
    (kk : ∀ (H1 : Heap) (locs1 : List Loc), WH G M H1 → va_S (g_A G) s.heap H1 locs1 → W p l e R s m args below meth c H1 locs1 0 0 Q (F0 m (pc + 3) ls (.int (chS i j) :: rest))) : W p l e R s m args below meth c H locs 0 0 Q (F0 m pc ls (.int a :: .ref (g_ak G i) :: rest)) :=
  x_goi (x_runT cx hi hW hS (c_J0_charAt (l := l) (G := G) hi hj h) hq hR hls rfl rfl hw ⟨Nat.zero_le _, Nat.zero_le _⟩ hdg) hS kk
end XU
