/-! THE CLAIM OUT OF ONE WALK OF THE LAW'S BODY. Your part is whole_start (and what it stands on); all else here is the same for every law, but numbers. -/
def R_law : String := "FridaySlipsLaw"
def lw_P (b : Addr) (xs : List Int32) (args : Array Value) (s : State) : Prop := args = #[.ref b] ∧ s.IntsAt b xs ∧ xs.length ≤ 3072 ∧ (Jvm.Cond.and given_1 narrow_1).before args s = true
def lw_Q (_ : Array Value) (s : State) (o : Outcome) (t : State) : Prop := o = .returned (some (.int 1)) ∧ Framed s o t [] 600000 7302250
def lw_Z (below : List Frame) (a : Array Value) (s : State) : State → Prop := fun t => ∃ o, t.status = .running ∧ Ended t below o ∧ lw_Q a s o t
/-- the law's own end, with 1 on the stack, nothing written that was there before, its room as the claim has it -/
theorem lw_ret {p : Program} {l : Launch} {e : Env} {s : State} {m : MethodId} {below : List Frame} {meth : Method} {c : Code} {b : Nat} (hx : p.tables.exec = Jvm.exec) (hb : c.code = code) (hr : meth.sig.returnType = ret) (hlocks : meth.locks = false) {pc : Nat} {H : Heap} {ls : Array Slot} (hdg : decode code pc = .ok (.ireturn, 1)) : W p l e room_1 s m #[Value.ref b] below meth c H [] 600000 7302250 (lw_Z below #[Value.ref b] s) (F0 m pc ls [.int 1]) := by
  intro T hT X
  obtain ⟨fs, hret, hrun, hended, hW, hframe⟩ := X.leave (v := some (.int 1)) (hlocks := hlocks) (fun h => by rw [hr] at h; cases h)
  have hmeth' : T.vm.method? m = some meth := X.method'
  refine ⟨T.setFrames fs, ?_, .returned (some (.int 1)), hrun, hended, rfl, ⟨_, rfl⟩, hW, hframe⟩
  jvm_step X.here [X.here.top, hx, hb, hdg, hmeth', hr, ret, narrow_b1]
  (try refine ⟨rfl, ?_⟩); (try refine ⟨rfl, ?_⟩)
  first | (intro acts; rw [hret _ acts rfl rfl rfl]) | rw [hret _ _ rfl rfl rfl]
  exact Steps.refl _
/-- what holds at the law's entry: the machine, the code, the tables' words (any of lw_tbl by 'hts w (by decide +kernel)'), the script of L ints xs at the cell b, what the Statement gives of the start (any of its parts by flat_of_before) -/
def lw_At (p : Program) (s : State) (m : MethodId) (meth : Method) (c : Code) (b L : Nat) (xs : Nat → Int32) : Prop :=
  p.tables.exec = Jvm.exec ∧ c.code = code ∧ meth.sig.returnType = ret ∧ c.maxLocals = 4 ∧ s.vm.findClass R_law = some m.cls ∧ (∀ w ∈ lw_tbl, w.before #[Value.ref b] s = true) ∧ va_X b L xs s s.heap ∧ b < s.heap.size ∧ meth.locks = false ∧ (Jvm.Cond.and given_1 narrow_1).before #[Value.ref b] s = true
section LP
variable {p : Program} {l : Launch} {e : Env} {s : State} {m : MethodId} {below : List Frame} {meth : Method} {c : Code} {G : GG} {b L : Nat} {xs : Nat → Int32}
set_option maxHeartbeats 4000000 in
set_option maxRecDepth 100000 in
/-- the law's loop: at its head, with i ints read, class and reference say the same -/
theorem law_loop (hL : L ≤ 3072) (C0 : lw_At p s m meth c b L xs) (hG : g_b G = s.heap.size) (hK : KK G s) (hSS : SS G s s.heap) : ∀ (n i : Nat), i ≤ L → L < i + 6 * n + 6 → ∀ (M : Mem) (H : Heap) (locs : List Loc) (ls : Array Slot), RR M → WH G M H → va_S (g_A G) s.heap H locs → lv_has ls 4 (LV G b i) → W p l e room_1 s m #[Value.ref b] below meth c H locs 600000 7302250 (lw_Z below #[Value.ref b] s) (F0 m 18 ls []) := by
  obtain ⟨hx, hb, hr, hml, hown, hts, hX, hbl, hlocks, hgv⟩ := C0
  have hbA : ¬ g_A G b := by unfold g_A; rw [hG]; exact Nat.not_le.mpr hbl
  have cx : Cx G cL_law RL 4 p s m #[Value.ref b] meth c := ⟨hx, hb, hml, hown, fun w h => hts w (List.mem_filter.mp h).1, hK, hSS, hlocks⟩
  have ex : ∀ (i : Nat), i ≤ L → ((Int32.ofNat L - 6 < nI i) ↔ L < i + 6) := by
    intro i hi
    have e1 : (Int32.ofNat L).toInt = (L : Int) := nI_toInt (n := L) (by omega)
    have e6 : (6 : Int32).toInt = 6 := by decide
    rw [t_lt, t_sub (by rw [e1, e6]; omega) (by rw [e1, e6]; omega), e1, e6, nI_toInt (by omega)]
    omega
  intro n
  induction n with
  | zero =>
    intro i hi hn M H locs ls hR hW hS hl
    refine lv_iload_n hx hb dL_law_18 rfl (lv_at hl 3 rfl) ?_
    refine lv_aload_n hx hb dL_law_19 rfl (lv_at hl 0 rfl) ?_
    refine va_slen hx hb hX hbl hbA hS dL_law_20 ?_
    refine lv_bipush (v := 6) hx hb dL_law_21 (by decide) ?_
    refine lv_isub hx hb dL_law_23 ?_
    refine lv_icmp_gt (tgt := 1245) hx hb dL_law_24 (by decide) (fun _ => ?_) (fun q => absurd ((ex i hi).mpr (by omega)) q)
    refine lv_iconst (v := 1) hx hb dL_law_1245 (by decide) ?_
    refine va_forget (fun q hq => by have := hS.2.2 q hq; unfold g_A at this; rw [hG] at this; exact this) ?_
    exact lw_ret hx hb hr hlocks dL_law_1246
  | succ n ih =>
    intro i hi hn M H locs ls hR hW hS hl
    refine lv_iload_n hx hb dL_law_18 rfl (lv_at hl 3 rfl) ?_
    refine lv_aload_n hx hb dL_law_19 rfl (lv_at hl 0 rfl) ?_
    refine va_slen hx hb hX hbl hbA hS dL_law_20 ?_
    refine lv_bipush (v := 6) hx hb dL_law_21 (by decide) ?_
    refine lv_isub hx hb dL_law_23 ?_
    refine lv_icmp_gt (tgt := 1245) hx hb dL_law_24 (by decide) (fun _ => ?_) (fun q => ?_)
    · refine lv_iconst (v := 1) hx hb dL_law_1245 (by decide) ?_
      refine va_forget (fun q hq => by have := hS.2.2 q hq; unfold g_A at this; rw [hG] at this; exact this) ?_
      exact lw_ret hx hb hr hlocks dL_law_1246
    · have h6 : i + 6 ≤ L := by
        rcases Nat.lt_or_ge L (i + 6) with h | h
        · exact absurd ((ex i hi).mpr h) q
        · exact h
      refine lv_aload_n hx hb dL_law_27 rfl (lv_at hl 0 rfl) ?_
      refine lv_iload_n hx hb dL_law_28 rfl (lv_at hl 3 rfl) ?_
      refine va_sld hx hb hX hbl hbA hS (vp_in_nI (by omega) (by omega)) dL_law_29 ?_
      refine lv_bipush (v := 63) hx hb dL_law_30 (by decide) ?_
      refine lv_iand hx hb dL_law_32 ?_
      refine lc_all cx hX hbl hbA h6 hL (fun M H locs ls hR hW hS hl => ?_) hR hW hS hl _
      refine lv_iinc (v := nI (i + 6)) (lv' := [(3, .int (nI (i + 6))), (0, .ref b), (1, .ref (g_ad G 0)), (2, .ref (g_ad G 49))]) hx hb dL_law_1239 hl (k := 3) rfl (nI_add i 6) (by decide) rfl (fun ls hl => ?_)
      refine lv_goto (tgt := 18) hx hb dL_law_1242 (by decide) ?_
      exact ih (i + 6) h6 (by omega) M H locs ls hR hW hS (lv_sub hl [1, 2, 3, 0] rfl)
/-- new C() in the law: its cells come behind the others -/
theorem l_make {cc : ByteArray} {nL ci cidx midx N mc ms f0 n0 maxL pc cells slots : Nat} {args : Array Value} {R : Room} {Q : State → Prop} {own C : String} {T : u_T} {dF : List Value} {tyC : Nat → FieldType} {y : MethodName} {bytes : ByteArray} {wF : Nat → (Nat → Nat) → va_W} {D : va_G} {cy : Nat → ClassId} {A : Nat → Prop} {ws : va_W} {H : Heap} {locs : List Loc} {ls : Array Slot}
    (hx : p.tables.exec = Jvm.exec) (hb : c.code = cc) (hml : c.maxLocals = nL) (hown : s.vm.findClass own = some m.cls) (hts : ∀ w ∈ WL, w.before args s = true) (hK : KD D cy s) (hls : ls.size = nL) (hP : va_P D cls7 ws H) (hD : va_D A ws) (hS : va_S A s.heap H locs) (hA : ∀ q, s.heap.size ≤ q → A q)
    (hc7 : cls7[ci]? = some (C, T, N)) (hin7 : ∀ w ∈ u_ws C T N, w ∈ WL) (hty : ∀ k, k < N → parseFieldDescriptor (T k).2.2.1 = some (tyC k)) (hdf : ∀ j, j < N → defaultValue (tyC j) = vp_V dF j)
    (q1 : Cond.classLink own cidx C ∈ WL) (q2 : Cond.instantiable C N ∈ WL) (q3 : Cond.initialized C ∈ WL) (q4 : Cond.methodLink own midx y ∈ WL) (q5 : Cond.instanceMethod y ∈ WL) (q6 : Cond.code y bytes maxL none ∈ WL) (q7 : y.name = "<init>") (q8 : y.cls = C) (q9 : y.cls ≠ "java/lang/invoke/MethodHandle" ∧ y.cls ≠ "java/lang/invoke/VarHandle" ∧ (parseMethodDescriptor y.desc).map (fun d => d.parameters.length) = some 0)
    (hM : ∀ h1 sz, Met l y (wz y bytes maxL none) { frames := f0, cells := mc, slots := ms, locals := n0 } (PN D cy [.ref h1] sz [(h1, .inr (ci, dF))]) (QN D (va_A [(h1, .inr (ci, dF))] sz) (wF h1)) mc ms (va_A [(h1, .inr (ci, dF))] sz))
    (hR : f0 + 1 ≤ R.frames ∧ 8 + (maxL + 11) + n0 ≤ R.locals) (hcl : cells + 1 + mc ≤ R.cells) (hsl : slots + N + ms ≤ R.slots)
    (d1 : decode cc pc = .ok (.new cidx, 3)) (d2 : decode cc (pc + 3) = .ok (.dup, 1)) (d3 : decode cc (pc + 4) = .ok (.invokespecial midx, 3))
    (kk : ∀ (h1 : Nat) (q : Nat → Nat) (H1 : Heap) (locs1 : List Loc), va_P D cls7 (ws ++ wF h1 q) H1 → va_D A (ws ++ wF h1 q) → va_S A s.heap H1 locs1 → W p l e R s m args below meth c H1 locs1 (cells + 1 + mc) (slots + N + ms) Q (F0 m (pc + 7) ls [.ref h1])) : W p l e R s m args below meth c H locs cells slots Q (F0 m pc ls []) := by
  refine va_new (ci := ci) (fs := dF) (C := C) (T := T) (N := N) hx hb hts hin7 tyC hty hown (hts _ q1) (hts _ q2) (hts _ q3) hK.1 hP hD hS hA hc7 hdf (by omega) (by omega) d1 (fun h1 H1 hP1 hD1 hS1 => ?_)
  refine lv_dup hx hb d2 rfl ?_
  have hPc : va_P D cls7 [(h1, .inr (ci, dF))] H1 := y_last hP1
  have hF : ∀ q, va_A [(h1, .inr (ci, dF))] H1.size q → A q := by
    intro q h
    rcases h with ⟨k2, e, h⟩ | h
    · have hz : k2 < 1 := (List.getElem?_eq_some_iff.mp h).1
      rw [show k2 = 0 by omega] at h
      have he : (h1, (Sum.inr (ci, dF) : va_E)) = (q, e) := Option.some.inj h
      have := hD1.2 ws.length (h1, .inr (ci, dF)) (by rw [List.getElem?_append_right (Nat.le_refl _), Nat.sub_self]; rfl)
      rw [he] at this
      exact this
    · exact hA q (Nat.le_trans hS1.1 h)
  refine va_callv (va_runI (Ts := WL) (As := []) (rest := [.ref h1]) (n := 0) ⟨hx, hb, hml, hown, hts⟩ (hM h1 H1.size) (cwI 0 hts (wz_good q6) rfl rfl rfl (hts _ (by rw [q8]; exact q3)) (hts _ q4) (hts _ q5) q7 q9 hR) ⟨PN.blind, fun U hU hW => ⟨rfl, by rw [hU], hK.warm hW, by rw [hU]; exact hPc, y_D1⟩⟩ rfl rfl hls rfl (lv_room (Nat.le_of_ble_eq_true rfl)) d3 ⟨hcl, hsl⟩) hS1 (fun q _ h => hF q h) hF (fun u t H2 locs2 ht hvm hw2 hB hz1 hk1 hS2 => ?_)
  obtain ⟨b1, b2⟩ := hB
  rw [ht] at b1
  obtain ⟨c1, c2⟩ := y_join hP1 hD1 hk1 hF b1 b2
  exact kk h1 u H2 locs2 c1 c2 hS2
set_option maxHeartbeats 4000000 in
set_option maxRecDepth 100000 in
/-- THE LAW, from its entry -/
theorem whole_start {p : Program} {e : Env} {s : State} {m : MethodId} {below : List Frame} {meth : Method} {c : Code} (l : Launch) (hflags : l.flags = flags0) {b L : Nat} {xs : Nat → Int32} (hL : L ≤ 3072) (C0 : lw_At p s m meth c b L xs) : W p l e room_1 s m #[Value.ref b] below meth c s.heap [] 0 0 (lw_Z below #[Value.ref b] s) (entryFrame m ([Value.ref b] : List Value).toArray 4) := by
  obtain ⟨hx, hb, hr, hml, hown, hts, hX, hbl, hlocks, hgv⟩ := id C0
  have hw : ∀ w ∈ WL, w.before #[Value.ref b] s = true := fun w h => hts w (List.mem_filter.mp h).1
  have hown : s.vm.findClass RL = some m.cls := hown
  have hb : c.code = cL_law := hb
  obtain ⟨D, cy, hK⟩ := kd_ok hts
  obtain ⟨sa, ak, av, fm, hSS⟩ := ss_ok hts hgv
  have hA : ∀ q : Nat, s.heap.size ≤ q → (fun q : Nat => s.heap.size ≤ q) q := fun _ h => h
  have hS : va_S (fun q : Nat => s.heap.size ≤ q) s.heap s.heap [] := va_S.rf
  have hP : va_P D cls7 [] s.heap := fun k q h => by simp at h
  have hD : va_D (fun q : Nat => s.heap.size ≤ q) [] := ⟨fun i j p q h => by simp at h, fun k q h => by simp at h⟩
  have hl := lv_entry ([.ref b]) (n := 4) (Nat.le_of_ble_eq_true rfl)
  rw [lg_entry_eq]
  generalize (lg_sl ([.ref b]) ++ List.replicate (4 - (lg_sl ([.ref b])).length) Slot.unset).toArray = ls at hl ⊢
  have hl : lv_has ls 4 [(0, .ref b)] := hl
  refine l_make (ci := 5) (N := 9) (T := TX7) hx hb hml hown hw hK hl.1 hP hD hS hA rfl uX7 tyX7_ok dFX7_ok q_kl_L_7 q_is_X7 q_nn_X7 q_il_L_9 q_in_X7 q_co_X7 rfl rfl ⟨by decide +kernel, by decide +kernel, by decide +kernel⟩ (fun h1 sz => c_X7_init l D cy h1 sz) ⟨Nat.le_of_ble_eq_true rfl, Nat.le_of_ble_eq_true rfl⟩ (Nat.le_of_ble_eq_true rfl) (Nat.le_of_ble_eq_true rfl) dL_law_0 dL_law_3 dL_law_4 (fun h0 q H locs hP hD hS => ?_)
  refine lv_astore_n (lv' := [(1, .ref h0), (0, .ref b)]) hx hb dL_law_7 rfl hl (by decide) rfl (fun ls hl => ?_)
  refine l_make (ci := 6) (N := 23) (T := TX8) hx hb hml hown hw hK hl.1 hP hD hS hA rfl uX8 tyX8_ok dFX8_ok q_kl_L_10 q_is_X8 q_nn_X8 q_il_L_12 q_in_X8 q_co_X8 rfl rfl ⟨by decide +kernel, by decide +kernel, by decide +kernel⟩ (fun h1 sz => c_X8_init l D cy h1 sz) ⟨Nat.le_of_ble_eq_true rfl, Nat.le_of_ble_eq_true rfl⟩ (Nat.le_of_ble_eq_true rfl) (Nat.le_of_ble_eq_true rfl) dL_law_8 dL_law_11 dL_law_12 (fun m0 q2 H locs hP hD hS => ?_)
  refine lv_astore_n (lv' := [(2, .ref m0), (1, .ref h0), (0, .ref b)]) hx hb dL_law_15 rfl hl (by decide) rfl (fun ls hl => ?_)
  refine lv_iconst (v := 0) hx hb dL_law_16 (by decide) ?_
  refine lv_istore_n (lv' := [(3, .int 0), (2, .ref m0), (1, .ref h0), (0, .ref b)]) hx hb dL_law_17 rfl hl (by decide) rfl (fun ls hl => ?_)
  refine W.widen (k := 600000) (n := 7302250) (Nat.le_of_ble_eq_true rfl) (Nat.le_of_ble_eq_true rfl) ?_
  obtain ⟨G, g1, g2, g3, g4, g5, g6, g7, g8⟩ : ∃ G : GG, g_D G = D ∧ G.2.1 = cy ∧ G.2.2.1 = adO h0 m0 q q2 ∧ g_b G = s.heap.size ∧ g_sa G = sa ∧ g_ak G = ak ∧ g_av G = av ∧ g_fm G = fm := ⟨(D, cy, adO h0 m0 q q2, s.heap.size, sa, ak, av, fm), rfl, rfl, rfl, rfl, rfl, rfl, rfl, rfl⟩
  have hgA : g_A G = fun q : Nat => s.heap.size ≤ q := by unfold g_A; rw [g4]
  have he : ∀ j, j < 4 → (fun j => some (q (41 + 2 * j))) j = (fun j => some (adO h0 m0 q q2 (41 + 2 * j))) j := fun j hj => by
    match j, hj with
    | 0, _ => rfl
    | 1, _ => rfl
    | 2, _ => rfl
    | 3, _ => rfl
  have hP : va_P D cls7 (wX7 cy h0 q ++ wX8 cy m0 q2) H := hP
  have hD : va_D (fun q : Nat => s.heap.size ≤ q) (wX7 cy h0 q ++ wX8 cy m0 q2) := hD
  have hP1 := y_rq hP 39 rfl he
  have hD1 := hD.set (p := 39) (e := .inl (cy 2, 4, .inr (.inr (.inr (.inr (fun j => some (adO h0 m0 q q2 (41 + 2 * j)))))))) rfl
  obtain ⟨hW, hDD⟩ := w_first (G := G) (H := H) g2 g3 (by rw [g1]; exact hP1) (by rw [hgA]; exact hD1)
  have hKK : KK G s := ⟨by unfold tysG; rw [g1]; have e9 : g_cy G = cy := g2; rw [e9]; exact hK.1, hK.2.1, hDD⟩
  have ea0 : g_ad G 0 = h0 := by show G.2.2.1 0 = h0; rw [g3]; rfl
  have ea49 : g_ad G 49 = m0 := by show G.2.2.1 49 = m0; rw [g3]; rfl
  refine law_loop hL C0 g4 hKK (hSS G g4 g5 g6 g7 g8) L 0 (Nat.zero_le L) (by omega) M0 H locs ls RR0 hW (by rw [hgA]; exact hS) ?_
  unfold LV
  rw [ea0, ea49, nI_0]
  exact lv_sub hl [3, 2, 1, 0] rfl
end LP
