/-! ===== MAKING: what a constructor starts from and leaves ===== -/
def KD (D : va_G) (cy : Nat → ClassId) (U : State) : Prop := va_K D cls7 [(cy 0, .int), (cy 1, .long), (cy 2, .object "FridaySlips$Sheet")] U ∧ (∀ w ∈ NL, va_Nw w U) ∧ va_AO "FridaySlips$Sheet" U
theorem KD.warm {D : va_G} {cy : Nat → ClassId} {s U : State} (hW : s.WarmedH U.vm) (h : KD D cy s) : KD D cy U := ⟨va_K.moved hW.alike h.1, fun w hw => nl_warm hw hW (h.2.1 w hw), va_AO.moved hW.alike h.2.2⟩
theorem KD.call {D : va_G} {cy : Nat → ClassId} {U : State} (g : JFrame) (mk : MethodId) (a : Array Value) (h : KD D cy U) : KD D cy (U.calling g mk a) := ⟨va_K.moved (u := U) (U := U.calling g mk a) (Vm.Alike.refl U.vm) h.1, fun w hw => va_Nw.same (nl_tab hw) (u := U) (U := U.calling g mk a) rfl (h.2.1 w hw), va_AO.moved (u := U) (U := U.calling g mk a) (Vm.Alike.refl U.vm) h.2.2⟩
def PN (D : va_G) (cy : Nat → ClassId) (av : List Value) (sz : Nat) (w0 : va_W) : Array Value → State → Prop := va_Pc av (fun U => U.heap.size = sz ∧ KD D cy U ∧ va_P D cls7 w0 U.heap ∧ va_D (fun _ => True) w0)
def QN (D : va_G) (A : Nat → Prop) (wF : (Nat → Nat) → va_W) : Array Value → State → Outcome → State → Prop := va_Qv (fun _ : Nat → Nat => True) (fun q t => va_P D cls7 (wF q) t.heap ∧ va_D A (wF q)) A
theorem PN.blind {D : va_G} {cy : Nat → ClassId} {av : List Value} {sz : Nat} {w0 : va_W} : FrameBlind (PN D cy av sz w0) := fun a _ g mk q => ⟨q.1, q.2.1, q.2.2.1.call g mk a, q.2.2.2.1, q.2.2.2.2⟩
def CI (D : va_G) (cy : Nat → ClassId) (cc : ByteArray) (own : String) (nL : Nat) (p : Program) (s : State) (m : MethodId) (args : Array Value) (meth : Method) (c : Code) : Prop :=
  p.tables.exec = Jvm.exec ∧ c.code = cc ∧ c.maxLocals = nL ∧ s.vm.findClass own = some m.cls ∧ (∀ w ∈ WL, w.before args s = true) ∧ KD D cy s ∧ meth.name = "<init>" ∧ meth.locks = false ∧ meth.sig.returnType = none
theorem y_last {D : va_G} {cl : List vw_C} {ws : va_W} {x : Nat × va_E} {H : Heap} (h : va_P D cl (ws ++ [x]) H) : va_P D cl [x] H := by
  intro k q hk
  have hz : k < 1 := (List.getElem?_eq_some_iff.mp hk).1
  refine h ws.length q ?_
  rw [List.getElem?_append_right (Nat.le_refl _), Nat.sub_self]
  rw [show k = 0 by omega] at hk
  exact hk
theorem y_D1 {x : Nat × va_E} : va_D (fun _ => True) [x] := by
  refine ⟨fun i j p q hi hj _ => ?_, fun _ _ _ => trivial⟩
  have h1 : i < 1 := (List.getElem?_eq_some_iff.mp hi).1
  have h2 : j < 1 := (List.getElem?_eq_some_iff.mp hj).1
  omega
theorem y_join {A0 : Nat → Prop} {D : va_G} {cl : List vw_C} {ws w1 : va_W} {x : Nat × va_E} {H H1 : Heap} (hP : va_P D cl (ws ++ [x]) H) (hD : va_D A0 (ws ++ [x]))
    (hk : ∀ q : Nat, q < H.size → ¬ va_A [x] H.size q → H1[q]? = H[q]?) (hF : ∀ q, va_A [x] H.size q → A0 q) (hP1 : va_P D cl w1 H1) (hD1 : va_D (va_A [x] H.size) w1) : va_P D cl (ws ++ w1) H1 ∧ va_D A0 (ws ++ w1) := by
  have key : ∀ (k : Nat) (q : Nat × va_E), ws[k]? = some q → (ws ++ [x])[k]? = some q ∧ k < ws.length := fun k q hq => ⟨by rw [List.getElem?_append_left (List.getElem?_eq_some_iff.mp hq).1]; exact hq, (List.getElem?_eq_some_iff.mp hq).1⟩
  have hx : (ws ++ [x])[ws.length]? = some x := by rw [List.getElem?_append_right (Nat.le_refl _), Nat.sub_self]; rfl
  have apart : ∀ (k : Nat) (q : Nat × va_E), ws[k]? = some q → q.1 < H.size ∧ ¬ va_A [x] H.size q.1 := by
    intro k q hq
    obtain ⟨g1, g2⟩ := key k q hq
    have hl := (hP k q g1).lt
    refine ⟨hl, fun h => ?_⟩
    rcases h with ⟨k2, e, h⟩ | h
    · have hz : k2 < 1 := (List.getElem?_eq_some_iff.mp h).1
      rw [show k2 = 0 by omega] at h
      have he : x = (q.1, e) := Option.some.inj h
      have := hD.1 k ws.length q x g1 hx (by rw [he])
      omega
    · omega
  refine ⟨va_P.app (fun k q hq => (hP k q (key k q hq).1).kept (hk q.1 (apart k q hq).1 (apart k q hq).2)) hP1, va_D.app ⟨fun i j p q hi hj e => hD.1 i j p q (key i p hi).1 (key j q hj).1 e, fun k q hq => hD.2 k q (key k q hq).1⟩ (hD1.weaken (fun k q _ h => hF q.1 h)) (fun i j p q hi hj e => (apart i p hi).2 (by rw [e]; exact hD1.2 j q hj))⟩
section MK
variable {p : Program} {l : Launch} {e : Env} {R : Room} {s : State} {m : MethodId} {args : Array Value} {below : List Frame} {meth : Method} {c : Code} {H : Heap} {locs : List Loc} {Q : State → Prop} {cells slots : Nat}
variable {cc : ByteArray} {pc nL index ci k N h0 : Nat} {n : Int32} {ls : Array Slot} {rest fs : List Value} {own : String} {D : va_G} {cy : Nat → ClassId} {A : Nat → Prop} {ws : va_W}
/-- a constructor's beginning: its own cells, then Object's constructor -/
theorem y_begin {y : MethodName} {maxL idx mc ms : Nat} {rm : Room} {av : List Value} {w0 : va_W} {sz : Nat} {wF : (Nat → Nat) → va_W} (hy : plainName y.cls = true) (hyn : y.name = "<init>") (hlen : (lg_sl (.ref h0 :: av)).length ≤ maxL) {lv : List (Nat × Value)} (hlv : lv_args 0 (.ref h0 :: av) = lv) (hlv0 : lv[0]? = some (0, .ref h0))
    (hlink : Cond.methodLink y.cls idx objectInit ∈ WL) (hfr : 1 ≤ rm.frames) (hlo : 12 ≤ rm.locals) (d0 : decode cc 0 = .ok (.aload_n 0, 1)) (d1 : decode cc 1 = .ok (.invokespecial idx, 3))
    (body : ∀ p e s m below meth c (A : Nat → Prop), CI D cy cc y.cls maxL p s m (.ref h0 :: av).toArray meth c → va_P D cls7 w0 s.heap → va_D A w0 → va_S A s.heap s.heap [] → (∀ q, s.heap.size ≤ q → A q) → ∀ ls, lv_has ls maxL lv → W p l e rm s m (.ref h0 :: av).toArray below meth c s.heap [] 0 0 (MQ below (QN D A wF) (.ref h0 :: av).toArray s mc ms A) (F0 m 4 ls [])) :
    Met l y (wz y cc maxL none) rm (PN D cy (.ref h0 :: av) sz w0) (QN D (va_A w0 sz) wF) mc ms (va_A w0 sz) := by
  refine Met.ofW (cc := cc) (maxL := maxL) (ret := none) hy rfl ?_
  intro p e s m args below meth c s₁ B hml hv
  obtain ⟨rfl, hsz, hK, hP, hD0⟩ := hv
  have hts := atoms_spec (ws := wz y cc maxL none) B.pre
  have hts : ∀ w ∈ WL, w.before (Value.ref h0 :: av).toArray s = true := fun w hw => hts w (List.mem_cons_of_mem _ hw)
  have hown : s.vm.findClass y.cls = some m.cls := findClass_of_methodNamed B.named
  have hin : meth.name = "<init>" := ((name_of_methodNamed B.named B.method).1).trans hyn
  subst hsz
  have hD := hD0.self (sz := s.heap.size)
  have hA : ∀ q : Nat, s.heap.size ≤ q → va_A w0 s.heap.size q := fun q h => Or.inr h
  have hl := lv_entry (.ref h0 :: av) (n := maxL) hlen
  rw [lg_entry_eq]
  rw [hlv] at hl
  generalize (lg_sl (.ref h0 :: av) ++ List.replicate (maxL - (lg_sl (.ref h0 :: av)).length) Slot.unset).toArray = ls at hl ⊢
  refine lv_aload_n B.exec B.bytes d0 rfl (lv_at hl 0 hlv0) ?_
  refine W.objInit B.exec B.bytes hown (hts _ hlink) (hts _ q_obj_in) (hts _ q_obj_code) rfl (by rw [hml]; exact hl.1) rfl d1 hfr hlo ?_
  refine W.eq (g2 := F0 m 4 ls []) rfl ?_
  exact body p e s m below meth c _ ⟨B.exec, B.bytes, hml, hown, hts, hK, hin, B.notSynchronized, B.returns⟩ hP hD va_S.rf hA ls hl
/-- a constructor's end -/
theorem y_end {wF : (Nat → Nat) → va_W} (cx : CI D cy cc own nL p s m args meth c) (q : Nat → Nat) (hP : va_P D cls7 (wF q) H) (hD : va_D A (wF q)) (hS : va_S A s.heap H locs) (hdg : decode cc pc = .ok (.return_, 1)) : W p l e R s m args below meth c H locs cells slots (MQ below (QN D A wF) args s cells slots A) (F0 m pc ls []) :=
  W.vret cx.1 cx.2.1 cx.2.2.2.2.2.2.2.2 (fun t ht _ => ⟨⟨q, rfl, trivial, by rw [ht]; exact hP, hD⟩, hS.F ht⟩) hS.2.2 hdg cx.2.2.2.2.2.2.2.1
/-- a row of ints, new, laid into a final field -/
theorem y_newI (cx : CI D cy cc own nL p s m args meth c) (hP : va_P D cls7 ((h0, .inr (ci, fs)) :: ws) H) (hD : va_D A ((h0, .inr (ci, fs)) :: ws)) (hS : va_S A s.heap H locs) (hA : ∀ q, s.heap.size ≤ q → A q) (hf : FF own index ci k (.array .int)) (hl : k < fs.length) (hn : ¬ n < 0) (hN : n.toNatClampNeg = N) (hbytes : N * 4 ≤ 536870912) (hc : cells + 1 ≤ R.cells) (hs : slots + N ≤ R.slots) (d1 : decode cc pc = .ok (.newarray .int, 2)) (d2 : decode cc (pc + 2) = .ok (.putfield index, 3))
    (kk : ∀ (q : Nat) (H1 : Heap) (locs1 : List Loc), va_P D cls7 ((h0, .inr (ci, fs.set k (.ref q))) :: (ws ++ [(q, .inl (cy 0, N, .inl (fun _ => 0)))])) H1 → va_D A ((h0, .inr (ci, fs.set k (.ref q))) :: (ws ++ [(q, .inl (cy 0, N, .inl (fun _ => 0)))])) → va_S A s.heap H1 locs1 → W p l e R s m args below meth c H1 locs1 (cells + 1) (slots + N) Q (F0 m (pc + 5) ls rest)) : W p l e R s m args below meth c H locs cells slots Q (F0 m pc ls (.int n :: .ref h0 :: rest)) := by
  obtain ⟨hx, hb, hml, hown, hts, hK, hin, hlk, hr⟩ := cx
  refine va_newa (atype := .int) (ty := .int) (a0 := (N, .inl (fun _ => 0))) hx hb (hts _ q_ac_int) rfl hK.1 hP hD hS hA (fun cA => rfl) hn hN hbytes hc hs d1 (fun q cA H1 hK1 hP1 hD1 hS1 => ?_)
  have e : cA = cy 0 := Option.some.inj (((hK1.2 3 _ rfl).2).symm.trans (hK.1.2 0 _ rfl).2)
  subst e
  obtain ⟨C, T, N0, ty0, f1, f2, f3, f4, f5, f6, f7, f8, f9⟩ := hf
  exact va_putF hx hb hts f7 ty0 f8 f9 hown hK.1 hP1 hD1 hS1 0 rfl f1 k f2 (hts _ f3) (fun _ q => q) f4 hin f5 f6 rfl rfl hl d2 (fun H2 locs2 a b c => kk q H2 locs2 a b c)
/-- a row of longs -/
theorem y_newJ (cx : CI D cy cc own nL p s m args meth c) (hP : va_P D cls7 ((h0, .inr (ci, fs)) :: ws) H) (hD : va_D A ((h0, .inr (ci, fs)) :: ws)) (hS : va_S A s.heap H locs) (hA : ∀ q, s.heap.size ≤ q → A q) (hf : FF own index ci k (.array .long)) (hl : k < fs.length) (hn : ¬ n < 0) (hN : n.toNatClampNeg = N) (hbytes : N * 8 ≤ 536870912) (hc : cells + 1 ≤ R.cells) (hs : slots + N ≤ R.slots) (d1 : decode cc pc = .ok (.newarray .long, 2)) (d2 : decode cc (pc + 2) = .ok (.putfield index, 3))
    (kk : ∀ (q : Nat) (H1 : Heap) (locs1 : List Loc), va_P D cls7 ((h0, .inr (ci, fs.set k (.ref q))) :: (ws ++ [(q, .inl (cy 1, N, .inr (.inl (fun _ => 0))))])) H1 → va_D A ((h0, .inr (ci, fs.set k (.ref q))) :: (ws ++ [(q, .inl (cy 1, N, .inr (.inl (fun _ => 0))))])) → va_S A s.heap H1 locs1 → W p l e R s m args below meth c H1 locs1 (cells + 1) (slots + N) Q (F0 m (pc + 5) ls rest)) : W p l e R s m args below meth c H locs cells slots Q (F0 m pc ls (.int n :: .ref h0 :: rest)) := by
  obtain ⟨hx, hb, hml, hown, hts, hK, hin, hlk, hr⟩ := cx
  refine va_newa (atype := .long) (ty := .long) (a0 := (N, .inr (.inl (fun _ => 0)))) hx hb (hts _ q_ac_long) rfl hK.1 hP hD hS hA (fun cA => rfl) hn hN hbytes hc hs d1 (fun q cA H1 hK1 hP1 hD1 hS1 => ?_)
  have e : cA = cy 1 := Option.some.inj (((hK1.2 3 _ rfl).2).symm.trans (hK.1.2 1 _ rfl).2)
  subst e
  obtain ⟨C, T, N0, ty0, f1, f2, f3, f4, f5, f6, f7, f8, f9⟩ := hf
  exact va_putF hx hb hts f7 ty0 f8 f9 hown hK.1 hP1 hD1 hS1 0 rfl f1 k f2 (hts _ f3) (fun _ q => q) f4 hin f5 f6 rfl rfl hl d2 (fun H2 locs2 a b c => kk q H2 locs2 a b c)
/-- a reference laid into a final field -/
theorem y_putR {v : Nat} {C0 : String} (cx : CI D cy cc own nL p s m args meth c) (hP : va_P D cls7 ((h0, .inr (ci, fs)) :: ws) H) (hD : va_D A ((h0, .inr (ci, fs)) :: ws)) (hS : va_S A s.heap H locs) (hf : FF own index ci k (.object C0)) (hl : k < fs.length) (d2 : decode cc pc = .ok (.putfield index, 3))
    (kk : ∀ (H1 : Heap) (locs1 : List Loc), va_P D cls7 ((h0, .inr (ci, fs.set k (.ref v))) :: ws) H1 → va_D A ((h0, .inr (ci, fs.set k (.ref v))) :: ws) → va_S A s.heap H1 locs1 → W p l e R s m args below meth c H1 locs1 cells slots Q (F0 m (pc + 3) ls rest)) : W p l e R s m args below meth c H locs cells slots Q (F0 m pc ls (.ref v :: .ref h0 :: rest)) := by
  obtain ⟨hx, hb, hml, hown, hts, hK, hin, hlk, hr⟩ := cx
  obtain ⟨C, T, N0, ty0, f1, f2, f3, f4, f5, f6, f7, f8, f9⟩ := hf
  exact va_putF hx hb hts f7 ty0 f8 f9 hown hK.1 hP hD hS 0 rfl f1 k f2 (hts _ f3) (fun _ q => q) f4 hin f5 f6 rfl rfl hl d2 (fun H2 locs2 a b c => kk H2 locs2 a b c)
/-- words of a new object and of its (private) constructor -/
def MW (own : String) (cidx midx : Nat) (C : String) (N : Nat) (y : MethodName) (bytes : ByteArray) : Prop := Cond.classLink own cidx C ∈ WL ∧ Cond.instantiable C N ∈ WL ∧ Cond.initialized C ∈ WL ∧ Cond.methodLinkNest own midx y "FridaySlips" ∈ NL ∧ Cond.instanceMethod y ∈ WL ∧ Cond.code y bytes 1 none ∈ WL ∧ y.name = "<init>" ∧ y.cls = C ∧ (y.cls ≠ "java/lang/invoke/MethodHandle" ∧ y.cls ≠ "java/lang/invoke/VarHandle" ∧ (parseMethodDescriptor y.desc).map (fun d => d.parameters.length) = some 0)
/-- new C(): its cells come behind the others -/
theorem y_make {cidx midx mc ms f0 n0 : Nat} {C : String} {T : u_T} {dF : List Value} {tyC : Nat → FieldType} {y : MethodName} {bytes : ByteArray} {wF : Nat → (Nat → Nat) → va_W} {x0 : Nat × va_E} (cx : CI D cy cc own nL p s m args meth c) (hls : ls.size = nL) (hP : va_P D cls7 (x0 :: ws) H) (hD : va_D A (x0 :: ws)) (hS : va_S A s.heap H locs) (hA : ∀ q, s.heap.size ≤ q → A q)
    (hc7 : cls7[ci]? = some (C, T, N)) (hin7 : ∀ w ∈ u_ws C T N, w ∈ WL) (hty : ∀ k, k < N → parseFieldDescriptor (T k).2.2.1 = some (tyC k)) (hdf : ∀ j, j < N → defaultValue (tyC j) = vp_V dF j) (hq : MW own cidx midx C N y bytes)
    (hM : ∀ h1 sz, Met l y (wz y bytes 1 none) { frames := f0, cells := mc, slots := ms, locals := n0 } (PN D cy [.ref h1] sz [(h1, .inr (ci, dF))]) (QN D (va_A [(h1, .inr (ci, dF))] sz) (wF h1)) mc ms (va_A [(h1, .inr (ci, dF))] sz))
    (hR : f0 + 1 ≤ R.frames ∧ 8 + (1 + 11) + n0 ≤ R.locals) (hcl : cells + 1 + mc ≤ R.cells) (hsl : slots + N + ms ≤ R.slots) (hw : (rest.map fun v => v.category).sum ≤ 7)
    (d1 : decode cc pc = .ok (.new cidx, 3)) (d2 : decode cc (pc + 3) = .ok (.dup, 1)) (d3 : decode cc (pc + 4) = .ok (.invokespecial midx, 3))
    (kk : ∀ (h1 : Nat) (q : Nat → Nat) (H1 : Heap) (locs1 : List Loc), va_P D cls7 (x0 :: (ws ++ wF h1 q)) H1 → va_D A (x0 :: (ws ++ wF h1 q)) → va_S A s.heap H1 locs1 → W p l e R s m args below meth c H1 locs1 (cells + 1 + mc) (slots + N + ms) Q (F0 m (pc + 7) ls (.ref h1 :: rest))) : W p l e R s m args below meth c H locs cells slots Q (F0 m pc ls rest) := by
  obtain ⟨hx, hb, hml, hown, hts, hK, hin, hlk, hr⟩ := cx
  obtain ⟨q1, q2, q3, q4, q5, q6, q7, q8, q9⟩ := hq
  refine va_new (ci := ci) (fs := dF) (C := C) (T := T) (N := N) hx hb hts hin7 tyC hty hown (hts _ q1) (hts _ q2) (hts _ q3) hK.1 hP hD hS hA hc7 hdf (by omega) (by omega) d1 (fun h1 H1 hP1 hD1 hS1 => ?_)
  refine lv_dup hx hb d2 rfl ?_
  have hPc : va_P D cls7 [(h1, .inr (ci, dF))] H1 := y_last hP1
  have hF : ∀ q, va_A [(h1, .inr (ci, dF))] H1.size q → A q := by
    intro q h
    rcases h with ⟨k2, e, h⟩ | h
    · have hz : k2 < 1 := (List.getElem?_eq_some_iff.mp h).1
      rw [show k2 = 0 by omega] at h
      have he : (h1, (Sum.inr (ci, dF) : va_E)) = (q, e) := Option.some.inj h
      have := hD1.2 (x0 :: ws).length (h1, .inr (ci, dF)) (by rw [List.getElem?_append_right (Nat.le_refl _), Nat.sub_self]; rfl)
      rw [he] at this
      exact this
    · exact hA q (Nat.le_trans hS1.1 h)
  have hsum : ((Value.ref h1 :: rest).map fun v => v.category).sum ≤ 8 := by
    show 1 + (rest.map fun v => v.category).sum ≤ 8
    omega
  refine va_callv (va_runIN (Ts := WL) (As := []) (rest := .ref h1 :: rest) (n := 0) (host := "FridaySlips") ⟨hx, hb, hml, hown, hts⟩ (hM h1 H1.size) ⟨va_cnB 0 hts (wz_good q6) rfl rfl rfl (hK.2.1 _ q4) (hts _ (by rw [q8]; exact q3)) q9 hR, q7, hts _ q5⟩ ⟨PN.blind, fun U hU hW => ⟨rfl, by rw [hU], hK.warm hW, by rw [hU]; exact hPc, y_D1⟩⟩ rfl rfl hls rfl (lv_room hsum) d3 ⟨hcl, hsl⟩) hS1 (fun q _ h => hF q h) hF (fun u t H2 locs2 ht hvm hw2 hB hz1 hk1 hS2 => ?_)
  obtain ⟨b1, b2⟩ := hB
  rw [ht] at b1
  obtain ⟨c1, c2⟩ := y_join hP1 hD1 hk1 hF b1 b2
  exact kk h1 u H2 locs2 c1 c2 hS2
end MK
