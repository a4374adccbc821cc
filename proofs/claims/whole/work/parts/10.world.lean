/-! ===== MEMORY: all numbers of the system's and the reference's cells, by the number of the cell ===== -/
abbrev Mem : Type := (Nat → Nat → Int32) × (Nat → Nat → Int64)
def m_I (M : Mem) (o k : Nat) : Int32 := M.1 o k
def m_J (M : Mem) (o k : Nat) : Int64 := M.2 o k
def w_I (M : Mem) (o k : Nat) (x : Int32) : Mem := (fun a b => if a = o ∧ b = k then x else M.1 a b, M.2)
def w_J (M : Mem) (o k : Nat) (x : Int64) : Mem := (M.1, fun a b => if a = o ∧ b = k then x else M.2 a b)
/-- n places of cell o from i on come to cell q from j on -/
def y_I (M : Mem) (o i q j n : Nat) : Mem := (fun a b => if a = q ∧ j ≤ b ∧ b < j + n then M.1 o (i + (b - j)) else M.1 a b, M.2)
def y_J (M : Mem) (o i q j n : Nat) : Mem := (M.1, fun a b => if a = q ∧ j ≤ b ∧ b < j + n then M.2 o (i + (b - j)) else M.2 a b)
/-- an index is tested, then used -/
def ix {α : Type} (n : Nat) (i : Int32) (k : Nat → Option α) : Option α := if 0 ≤ i.toInt ∧ i.toInt < n then k i.toNatClampNeg else none
/-- a value gets a name -/
def pin {β α : Type} (x : β) (k : β → Option α) : Option α := k x
/-- a boolean -/
def zb {α : Type} (x : Int32) (k : Option α) : Option α := if x = 0 ∨ x = 1 then k else none
/-- a divisor -/
def dv {α : Type} (x : Int32) (k : Option α) : Option α := if x = 0 then none else k
/-- a text's place -/
def sg {α : Type} (x : Nat) (k : Option α) : Option α := if x < 11 then k else none
theorem sg_e {α : Type} {x : Nat} {k : Option α} {R : α} (h : sg x k = some R) : x < 11 ∧ k = some R := by
  unfold sg at h
  by_cases q : x < 11
  · rw [if_pos q] at h
    exact ⟨q, h⟩
  · rw [if_neg q] at h
    cases h
/-- an answer and what there is behind it -/
def bn {β α : Type} (x : Option (β × Mem)) (k : β → Mem → Option α) : Option α := match x with
  | none => none
  | some q => k q.1 q.2
theorem ix_e {α : Type} {n : Nat} {i : Int32} {k : Nat → Option α} {R : α} (h : ix n i k = some R) : ∃ j, i.toNatClampNeg = j ∧ vp_in i n ∧ k j = some R := by
  unfold ix at h
  by_cases q : 0 ≤ i.toInt ∧ i.toInt < n
  · rw [if_pos q] at h
    exact ⟨_, rfl, vp_in_iff.mpr q, h⟩
  · rw [if_neg q] at h
    cases h
theorem pin_e {β α : Type} {x : β} {k : β → Option α} {R : Option α} (h : pin x k = R) : ∃ y, y = x ∧ k y = R := ⟨x, rfl, h⟩
theorem zb_e {α : Type} {x : Int32} {k : Option α} {R : α} (h : zb x k = some R) : (x = 0 ∨ x = 1) ∧ k = some R := by
  unfold zb at h
  by_cases q : x = 0 ∨ x = 1
  · rw [if_pos q] at h
    exact ⟨q, h⟩
  · rw [if_neg q] at h
    cases h
theorem dv_e {α : Type} {x : Int32} {k : Option α} {R : α} (h : dv x k = some R) : ¬ x = 0 ∧ k = some R := by
  unfold dv at h
  by_cases q : x = 0
  · rw [if_pos q] at h
    cases h
  · rw [if_neg q] at h
    exact ⟨q, h⟩
theorem bn_e {β α : Type} {x : Option (β × Mem)} {k : β → Mem → Option α} {R : α} (h : bn x k = some R) : ∃ a M, x = some (a, M) ∧ k a M = some R := by
  cases x with
  | none => cases h
  | some q => exact ⟨q.1, q.2, rfl, h⟩
theorem bi_e {β α : Type} {x : Option β} {k : β → Option α} {R : α} (h : x.bind k = some R) : ∃ a, x = some a ∧ k a = some R := by
  cases x with
  | none => cases h
  | some q => exact ⟨q, rfl, h⟩
theorem sp_1 {α : Type} {a b : α} {m n : Mem} (h : some (a, m) = some (b, n)) : a = b := by cases h; rfl
theorem sp_2 {α : Type} {a b : α} {m n : Mem} (h : some (a, m) = some (b, n)) : m = n := by cases h; rfl
theorem it_p {α : Type} {c : Prop} [Decidable c] {a b R : α} (h : c) (e : (if c then a else b) = R) : a = R := by rw [if_pos h] at e; exact e
theorem it_n {α : Type} {c : Prop} [Decidable c] {a b R : α} (h : ¬ c) (e : (if c then a else b) = R) : b = R := by rw [if_neg h] at e; exact e
/-! ===== THE CELLS: which cell is what ===== -/
def kdL : List Nat := [5, 107,
  3, 108, 108, 108, 108, 108, 108, 108, 108, 108, 108,
  3, 108, 108, 108, 108, 108, 108, 108, 108, 108, 108,
  3, 108, 108, 108, 108, 108, 108, 108, 108, 108, 108,
  0, 356, 2, 220, 4, 2004, 1, 1040, 1, 1040, 1, 1040, 1, 1040,
  6, 151, 107, 108, 108, 108, 108, 151, 356, 220, 104, 104, 1160, 1040, 151, 151]
/-- objects: their class in cls7; 100 + n: n ints; 1000 + n: n longs; 2004: the sheets -/
def kd (o : Nat) : Nat := kdL.getD o 9999
abbrev cls7 : List vw_C := [(RX0, TX0, 1), (RX2, TX2, 3), (RX3, TX3, 2), (RX4, TX4, 13), (RX5, TX5, 5), (RX7, TX7, 9), (RX8, TX8, 23)]
/-- classes and slots; array classes; addresses; where new cells begin; static arrays; texts and their bytes; the JDK's formatter -/
abbrev GG : Type := va_G × (Nat → ClassId) × (Nat → Nat) × Nat × (Nat → Nat) × (Nat → Nat) × (Nat → Nat) × Value
def g_D (G : GG) : va_G := G.1
def g_cy (G : GG) : Nat → ClassId := G.2.1
def g_ad (G : GG) : Nat → Nat := G.2.2.1
def g_b (G : GG) : Nat := G.2.2.2.1
def g_sa (G : GG) : Nat → Nat := G.2.2.2.2.1
def g_ak (G : GG) : Nat → Nat := G.2.2.2.2.2.1
def g_av (G : GG) : Nat → Nat := G.2.2.2.2.2.2.1
def g_fm (G : GG) : Value := G.2.2.2.2.2.2.2
def g_A (G : GG) : Nat → Prop := fun q => g_b G ≤ q
def fl (G : GG) (M : Mem) (o : Nat) : Nat → List Value
  | 0 => [.ref (g_ad G (o + 1))]
  | 1 => [.ref (g_ad G (o + 1)), .int (m_I M o 1), .int (m_I M o 2)]
  | 2 => [.ref (g_ad G (o + 1)), .int (m_I M o 1)]
  | 3 => [.int (m_I M o 0), .int (m_I M o 1), .int (m_I M o 2), .ref (g_ad G (o + 1)), .ref (g_ad G (o + 2)), .ref (g_ad G (o + 3)), .ref (g_ad G (o + 4)), .ref (g_ad G (o + 5)), .ref (g_ad G (o + 6)), .ref (g_ad G (o + 7)), .ref (g_ad G (o + 8)), .ref (g_ad G (o + 9)), .ref (g_ad G (o + 10))]
  | 4 => [.ref (g_ad G 37), .int (m_I M o 1), .int (m_I M o 2), .int (m_I M o 3), .int (m_I M o 4)]
  | 5 => [.ref (g_ad G 2), .ref (g_ad G 13), .ref (g_ad G 24), .ref (g_ad G 35), .ref (g_ad G 39), .ref (g_ad G 37), .ref (g_ad G 40), .ref (g_ad G 1), .int (m_I M o 8)]
  | 6 => [.ref (g_ad G 50), .ref (g_ad G 51), .ref (g_ad G 52), .ref (g_ad G 53), .ref (g_ad G 54), .ref (g_ad G 55), .ref (g_ad G 56), .ref (g_ad G 57), .ref (g_ad G 58), .int (m_I M o 9), .int (m_I M o 10), .int (m_I M o 11), .int (m_I M o 12), .long (m_J M o 13), .int (m_I M o 14), .int (m_I M o 15), .ref (g_ad G 59), .ref (g_ad G 60), .ref (g_ad G 61), .ref (g_ad G 62), .ref (g_ad G 63), .ref (g_ad G 64), .int (m_I M o 22)]
  | _ => []
def ct (G : GG) (M : Mem) (o : Nat) : va_E :=
  if kd o < 10 then .inr (kd o, fl G M o (kd o))
  else if kd o < 1000 then .inl (g_cy G 0, kd o - 100, .inl (m_I M o))
  else if kd o < 2000 then .inl (g_cy G 1, kd o - 1000, .inr (.inl (m_J M o)))
  else .inl (g_cy G 2, 4, .inr (.inr (.inr (.inr (fun j => some (g_ad G (41 + 2 * j)))))))
def wl (G : GG) (M : Mem) : va_W := (List.range 65).map (fun o => (g_ad G o, ct G M o))
theorem kd_lt {o : Nat} (h : kd o < 9999) : o < 65 := by
  rcases Nat.lt_or_ge o 65 with q | q
  · exact q
  · have e : kd o = 9999 := by
      unfold kd
      rw [List.getD_eq_getElem?_getD, List.getElem?_eq_none (by exact q)]
      rfl
    omega
theorem wl_get {G : GG} {M : Mem} {o : Nat} (h : o < 65) : (wl G M)[o]? = some (g_ad G o, ct G M o) := by
  unfold wl
  rw [List.getElem?_map, List.getElem?_range h]
  rfl
theorem wl_len {G : GG} {M : Mem} : (wl G M).length = 65 := by unfold wl; simp
theorem wl_set {G : GG} {M M' : Mem} {o : Nat} (h : o < 65) (hk : ∀ a, a ≠ o → ct G M' a = ct G M a) : (wl G M).set o (g_ad G o, ct G M' o) = wl G M' := by
  apply List.ext_getElem?
  intro i
  rcases Nat.lt_or_ge i 65 with q | q
  · by_cases e : i = o
    · subst e
      rw [List.getElem?_set_self (by rw [wl_len]; exact q), wl_get q]
    · rw [List.getElem?_set_ne (Ne.symm e), wl_get q, wl_get q, hk i e]
  · rw [List.getElem?_eq_none (by rw [List.length_set, wl_len]; exact q), List.getElem?_eq_none (by rw [wl_len]; exact q)]
theorem ct_o {G : GG} {M : Mem} {o ci : Nat} (h : kd o = ci) (hc : ci < 10) : ct G M o = .inr (ci, fl G M o ci) := by unfold ct; rw [h, if_pos hc]
theorem ct_i {G : GG} {M : Mem} {o n : Nat} (h : kd o = 100 + n) (hn : n < 900) : ct G M o = .inl (g_cy G 0, n, .inl (m_I M o)) := by
  unfold ct; rw [h, if_neg (by omega), if_pos (by omega), Nat.add_sub_cancel_left]
theorem ct_j {G : GG} {M : Mem} {o n : Nat} (h : kd o = 1000 + n) (hn : n < 1000) : ct G M o = .inl (g_cy G 1, n, .inr (.inl (m_J M o))) := by
  unfold ct; rw [h, if_neg (by omega), if_neg (by omega), if_pos (by omega), Nat.add_sub_cancel_left]
theorem ct_q {G : GG} {M : Mem} {o : Nat} (h : kd o = 2004) : ct G M o = .inl (g_cy G 2, 4, .inr (.inr (.inr (.inr (fun j => some (g_ad G (41 + 2 * j))))))) := by
  unfold ct; rw [h]; rfl
/-- a cell's contents hang on its own numbers alone -/
theorem ct_eq {G : GG} {M M' : Mem} {o : Nat} (h1 : ∀ k, M'.1 o k = M.1 o k) (h2 : ∀ k, M'.2 o k = M.2 o k) : ct G M' o = ct G M o := by
  have e1 : m_I M' o = m_I M o := funext h1
  have e2 : m_J M' o = m_J M o := funext h2
  have e3 : ∀ c, fl G M' o c = fl G M o c := by
    intro c
    unfold fl
    simp only [e1, e2]
  unfold ct
  rw [e1, e2, e3]
def WH (G : GG) (M : Mem) (H : Heap) : Prop := va_P (g_D G) cls7 (wl G M) H
def DD (G : GG) : Prop := (∀ i j, i < 65 → j < 65 → g_ad G i = g_ad G j → i = j) ∧ ∀ i, i < 65 → g_b G ≤ g_ad G i
theorem DD.d {G : GG} (h : DD G) (M : Mem) : va_D (g_A G) (wl G M) := by
  have key : ∀ (k : Nat) (q : Nat × va_E), (wl G M)[k]? = some q → k < 65 ∧ q.1 = g_ad G k := by
    intro k q hk
    have hl : k < 65 := by
      have := (List.getElem?_eq_some_iff.mp hk).1
      rw [wl_len] at this
      exact this
    rw [wl_get hl] at hk
    cases hk
    exact ⟨hl, rfl⟩
  refine ⟨fun i j p q hi hj e => ?_, fun k q hk => ?_⟩
  · obtain ⟨a1, a2⟩ := key i p hi
    obtain ⟨b1, b2⟩ := key j q hj
    exact h.1 i j a1 b1 (by rw [← a2, ← b2]; exact e)
  · obtain ⟨a1, a2⟩ := key k q hk
    rw [a2]
    exact h.2 k a1
/-! ===== WORDS ===== -/
def WL : List Cond := lw_tbl.filter goodWord
theorem wl_of {w : Cond} (i : Nat) (h : lw_tbl[i]? = some w) (hg : goodWord w = true) : w ∈ WL := List.mem_filter.mpr ⟨List.mem_of_getElem? h, hg⟩
def isNest : Cond → Bool
  | .fieldLinkNest _ _ _ _ _ _ => true
  | .methodLinkNest _ _ _ _ => true
  | _ => false
def NL : List Cond := lw_tbl.filter isNest
theorem nl_of {w : Cond} (i : Nat) (h : lw_tbl[i]? = some w) (hg : isNest w = true) : w ∈ NL := List.mem_filter.mpr ⟨List.mem_of_getElem? h, hg⟩
theorem nl_warm {w : Cond} (hw : w ∈ NL) {s U : State} (hW : s.WarmedH U.vm) (h : va_Nw w s) : va_Nw w U := by
  have h2 := (List.mem_filter.mp hw).2
  cases w <;> first | exact va_Nw.warmF hW h | exact va_Nw.warmM hW h | cases h2
theorem nl_tab {w : Cond} (hw : w ∈ NL) : w.onTables = true := by
  have h2 := (List.mem_filter.mp hw).2
  cases w <;> first | rfl | cases h2
theorem wl_good : ∀ w ∈ WL, ((w.onTables && w.keeps) = true ∨ ∃ ty, w = .arrayClass ty) := fun w h => good_of_word (List.mem_filter.mp h).2
abbrev wz (y : MethodName) (cc : ByteArray) (n : Nat) (r : Option FieldType) : List Cond := Cond.code y cc n r :: WL
def tysG (G : GG) : List (ClassId × FieldType) := [(g_cy G 0, .int), (g_cy G 1, .long), (g_cy G 2, .object "FridaySlips$Sheet")]
def KK (G : GG) (U : State) : Prop := va_K (g_D G) cls7 (tysG G) U ∧ (∀ w ∈ NL, va_Nw w U) ∧ DD G
theorem KK.warm {G : GG} {s U : State} (hW : s.WarmedH U.vm) (h : KK G s) : KK G U := ⟨va_K.moved hW.alike h.1, fun w hw => nl_warm hw hW (h.2.1 w hw), h.2.2⟩
theorem KK.call {G : GG} {U : State} (g : JFrame) (mk : MethodId) (a : Array Value) (h : KK G U) : KK G (U.calling g mk a) := ⟨va_K.moved (u := U) (U := U.calling g mk a) (Vm.Alike.refl U.vm) h.1, fun w hw => va_Nw.same (nl_tab hw) (u := U) (U := U.calling g mk a) rfl (h.2.1 w hw), h.2.2⟩
/-! ===== STATICS AND TEXTS ===== -/
def s_A : Nat → Int32 := fun j => ([-1, 0, 0, 0, 1, 2] : List Int32).getD j 0
def s_O : Nat → Int32 := fun j => ([1, 1, 2, 6, 24, 120, 720, 5040, 40320] : List Int32).getD j 0
def s_R : Nat → Int32 := fun j => ([1, 0, 1, 2, 9, 44, 265, 1854, 14833] : List Int32).getD j 0
def txL : List (Nat × String) := [(25, "slip"), (85, "is"), (98, "smith"), (100, "shy"), (102, "child"), (104, "priest"), (106, "thief"), (108, "villager"), (58, "work"), (68, "purse"), (73, "name")]
def lenL : List Nat := [4, 2, 5, 3, 5, 6, 5, 8, 4, 5, 4]
def bytL : List (List Int32) := [[115, 108, 105, 112], [105, 115], [115, 109, 105, 116, 104], [115, 104, 121], [99, 104, 105, 108, 100], [112, 114, 105, 101, 115, 116], [116, 104, 105, 101, 102], [118, 105, 108, 108, 97, 103, 101, 114], [119, 111, 114, 107], [112, 117, 114, 115, 101], [110, 97, 109, 101]]
def SS (G : GG) (U : State) (H : Heap) : Prop :=
  (va_Z "FridaySlips$Ways" "ABOVE" "[I" (.ref (g_sa G 0)) (g_A G) U H ∧ va_T .int (g_sa G 0) 6 (fun j => .int (s_A j)) (g_A G) U H) ∧
  (va_Z "FridaySlips$Chances" "ORDERED" "[I" (.ref (g_sa G 1)) (g_A G) U H ∧ va_T .int (g_sa G 1) 9 (fun j => .int (s_O j)) (g_A G) U H) ∧
  (va_Z "FridaySlips$Chances" "DERANGED" "[I" (.ref (g_sa G 2)) (g_A G) U H ∧ va_T .int (g_sa G 2) 9 (fun j => .int (s_R j)) (g_A G) U H) ∧
  va_Z "java/lang/String" "COMPACT_STRINGS" "Z" (.int 1) (g_A G) U H ∧
  (va_Z "jdk/internal/util/Preconditions" "SIOOBE_FORMATTER" "Ljava/util/function/BiFunction;" (g_fm G) (g_A G) U H ∧ (g_fm G = .null ∨ ∃ q, g_fm G = .ref q)) ∧
  vk_S 11 lenL bytL (g_ak G) (g_av G) (g_A G) U H ∧
  (∀ i, i < 11 → vk_R RX5 (txL.getD i (0, "")).1 (txL.getD i (0, "")).2 (g_ak G i) U)
theorem SS.go {G : GG} {s U : State} {H0 H : Heap} (hW : s.WarmedH U.vm) (hq : ∀ a : Nat, a < H0.size → ¬ g_A G a → H[a]? = H0[a]?) (h : SS G s H0) : SS G U H := by
  obtain ⟨⟨a1, a2⟩, ⟨b1, b2⟩, ⟨c1, c2⟩, d1, ⟨d2, d5⟩, d3, d4⟩ := h
  have al := hW.alike
  exact ⟨⟨(a1.kept hq).moved al, (a2.kept hq).moved al⟩, ⟨(b1.kept hq).moved al, (b2.kept hq).moved al⟩, ⟨(c1.kept hq).moved al, (c2.kept hq).moved al⟩, (d1.kept hq).moved al, ⟨(d2.kept hq).moved al, d5⟩, (d3.kept hq).moved al, fun i hi => (d4 i hi).warm hW⟩
theorem SS.call {G : GG} {U : State} {H : Heap} (g : JFrame) (mk : MethodId) (a : Array Value) (h : SS G U H) : SS G (U.calling g mk a) H := by
  obtain ⟨⟨a1, a2⟩, ⟨b1, b2⟩, ⟨c1, c2⟩, d1, ⟨d2, d5⟩, d3, d4⟩ := h
  have al : U.vm.Alike (U.calling g mk a).vm := Vm.Alike.refl U.vm
  exact ⟨⟨a1.moved al, a2.moved al⟩, ⟨b1.moved al, b2.moved al⟩, ⟨c1.moved al, c2.moved al⟩, d1.moved al, ⟨d2.moved al, d5⟩, d3.moved al, fun i hi => vk_R.same (u := U) (U := U.calling g mk a) rfl (d4 i hi)⟩
/-! ===== CONTRACTS ===== -/
def PreC (G : GG) (av : List Value) (M : Mem) : Array Value → State → Prop := va_Pc av (fun U => KK G U ∧ SS G U U.heap ∧ WH G M U.heap)
def QcI (G : GG) (r : Int32) (M : Mem) : Array Value → State → Outcome → State → Prop := va_Qi (fun (a : Int32) (u : Mem) => a = r ∧ u = M) (fun u t => WH G u t.heap) (g_A G)
def QcL (G : GG) (r : Int64) (M : Mem) : Array Value → State → Outcome → State → Prop := va_Ql (fun (a : Int64) (u : Mem) => a = r ∧ u = M) (fun u t => WH G u t.heap) (g_A G)
def QcV (G : GG) (M : Mem) : Array Value → State → Outcome → State → Prop := va_Qv (fun (u : Mem) => u = M) (fun u t => WH G u t.heap) (g_A G)
def QcS (G : GG) (r : Nat) (M : Mem) : Array Value → State → Outcome → State → Prop := va_Qr (fun (u : Mem × Nat) => u = (M, r)) (fun u a t => WH G u.1 t.heap ∧ a = g_ak G u.2) (g_A G)
theorem PreC.blind {G : GG} {av : List Value} {M : Mem} : FrameBlind (PreC G av M) := fun a _ g mk q => ⟨q.1, q.2.1.call g mk a, q.2.2.1.call g mk a, q.2.2.2⟩
def Cx (G : GG) (cc : ByteArray) (own : String) (nL : Nat) (p : Program) (s : State) (m : MethodId) (args : Array Value) (meth : Method) (c : Code) : Prop :=
  p.tables.exec = Jvm.exec ∧ c.code = cc ∧ c.maxLocals = nL ∧ s.vm.findClass own = some m.cls ∧ (∀ w ∈ WL, w.before args s = true) ∧ KK G s ∧ SS G s s.heap ∧ meth.locks = false
section XS
variable {p : Program} {l : Launch} {e : Env} {R : Room} {s : State} {m : MethodId} {args : Array Value} {below : List Frame} {meth : Method} {c : Code} {H : Heap} {locs : List Loc} {Q : State → Prop}
variable {cc : ByteArray} {pc nL : Nat} {ls : Array Slot} {rest : List Value} {G : GG} {M : Mem} {own : String}
theorem x_start {y : MethodName} {maxL : Nat} {ret : Option FieldType} {rm : Room} {av : List Value} {Qc : Array Value → State → Outcome → State → Prop} (hy : plainName y.cls = true) (hlen : (lg_sl av).length ≤ maxL) {lv : List (Nat × Value)} (hlv : lv_args 0 av = lv)
    (body : ∀ p e s m below meth c, Cx G cc y.cls maxL p s m av.toArray meth c → meth.sig.returnType = ret → WH G M s.heap → va_S (g_A G) s.heap s.heap [] → ∀ ls, lv_has ls maxL lv → W p l e rm s m av.toArray below meth c s.heap [] 0 0 (MQ below Qc av.toArray s 0 0 (g_A G)) (F0 m 0 ls [])) :
    Met l y (wz y cc maxL ret) rm (PreC G av M) Qc 0 0 (g_A G) := by
  refine Met.ofW (cc := cc) (maxL := maxL) (ret := ret) hy rfl ?_
  intro p e s m args below meth c s₁ B hml hv
  obtain ⟨rfl, hK, hS, hW⟩ := hv
  have hts := atoms_spec (ws := wz y cc maxL ret) B.pre
  have hl := lv_entry av (n := maxL) hlen
  rw [lg_entry_eq]
  rw [hlv] at hl
  exact body p e s m below meth c ⟨B.exec, B.bytes, hml, findClass_of_methodNamed B.named, fun w hw => hts w (List.mem_cons_of_mem _ hw), hK, hS, B.notSynchronized⟩ B.returns hW va_S.rf _ hl
/-- a field's link, its object's class, its place -/
def FL (own : String) (index ci k : Nat) : Prop := ∃ (C : String) (T : u_T) (N : Nat), cls7[ci]? = some (C, T, N) ∧ k < N ∧ ci < 10 ∧ (Cond.fieldLink own index (T k).1 (T k).2.1 (T k).2.2.1 ∈ WL ∨ ∃ h, Cond.fieldLinkNest own index (T k).1 (T k).2.1 (T k).2.2.1 h ∈ NL) ∧ ∀ w ∈ u_ws C T N, w ∈ WL
theorem x_get {index ci o k : Nat} {v : Value} (cx : Cx G cc own nL p s m args meth c) (hW : WH G M H) (ho : kd o = ci) (hf : FL own index ci k) (hv : (fl G M o ci)[k]? = some v) (hdg : decode cc pc = .ok (.getfield index, 3))
    (kk : W p l e R s m args below meth c H locs 0 0 Q (F0 m (pc + 3) ls (v :: rest))) : W p l e R s m args below meth c H locs 0 0 Q (F0 m pc ls (.ref (g_ad G o) :: rest)) := by
  obtain ⟨hx, hb, hml, hown, hts, hK, hSS, hlk⟩ := cx
  obtain ⟨C, T, N, h1, h2, h3, h4, h5⟩ := hf
  have hl : o < 65 := kd_lt (by omega)
  have he : (wl G M)[o]? = some (g_ad G o, .inr (ci, fl G M o ci)) := by rw [wl_get hl, ct_o ho h3]
  rcases h4 with h4 | ⟨h, h4⟩
  · exact va_get (D := g_D G) (C := C) (T := T) (N := N) (index := index) (ref := (T k).1) hx hb hts h5 hown hK.1 hW o he h1 k h2 (hts _ h4) (fun _ q => q) hv hdg kk
  · exact va_getN (D := g_D G) (C := C) (T := T) (N := N) (index := index) (ref := (T k).1) (host := h) hx hb hts h5 hown hK.1 hW o he h1 k h2 (va_Nw.use (nl_tab h4) (hK.2.1 _ h4)) (fun _ q => q) hv hdg kk
/-- a field that may be written: its type, and that nothing else is written -/
def FT (index ci k : Nat) (ty : FieldType) : Prop := ∃ (C : String) (T : u_T) (N : Nat) (ty0 : Nat → FieldType), cls7[ci]? = some (C, T, N) ∧ (T k).2.2.2 = false ∧ parseFieldDescriptor (T k).2.2.1 = some ty ∧ (∀ k, k < N → parseFieldDescriptor (T k).2.2.1 = some (ty0 k)) ∧ (∀ a, a < N → ∀ b, b < N → a ≠ b → (T a).2.1 ≠ (T b).2.1)
theorem x_put {index ci o k : Nat} {ty : FieldType} {v : Value} {M' : Mem} (cx : Cx G cc own nL p s m args meth c) (hW : WH G M H) (hS : va_S (g_A G) s.heap H locs) (ho : kd o = ci) (hf : FL own index ci k) (ht : FT index ci k ty) (hn : narrow ty v = v) (hfit : fits ty v = true) (hl : k < (fl G M o ci).length)
    (hset : (fl G M o ci).set k v = fl G M' o ci) (hoth : ∀ a, a ≠ o → ct G M' a = ct G M a) (hdg : decode cc pc = .ok (.putfield index, 3))
    (kk : ∀ (H1 : Heap) (locs1 : List Loc), WH G M' H1 → va_S (g_A G) s.heap H1 locs1 → W p l e R s m args below meth c H1 locs1 0 0 Q (F0 m (pc + 3) ls rest)) : W p l e R s m args below meth c H locs 0 0 Q (F0 m pc ls (v :: .ref (g_ad G o) :: rest)) := by
  obtain ⟨hx, hb, hml, hown, hts, hK, hSS, hlk⟩ := cx
  obtain ⟨C, T, N, h1, h2, h3, h4, h5⟩ := hf
  obtain ⟨C', T', N', ty0, g1, g2, g3, g4, g5⟩ := ht
  cases h1.symm.trans g1
  have hlt : o < 65 := kd_lt (by omega)
  have he : (wl G M)[o]? = some (g_ad G o, .inr (ci, fl G M o ci)) := by rw [wl_get hlt, ct_o ho h3]
  have hw : (wl G M).set o (g_ad G o, .inr (ci, (fl G M o ci).set k v)) = wl G M' := by
    rw [hset, ← ct_o (G := G) (M := M') ho h3]
    exact wl_set hlt hoth
  rcases h4 with h4 | ⟨h, h4⟩
  · refine va_put (D := g_D G) (C := C) (T := T) (N := N) (index := index) (ref := (T k).1) hx hb hts h5 ty0 g4 g5 hown hK.1 hW (hK.2.2.d M) hS o he h1 k h2 (hts _ h4) (fun _ q => q) g2 g3 hn hfit hl hdg (fun H1 locs1 q1 q2 q3 => ?_)
    rw [hw] at q1
    exact kk H1 locs1 q1 q3
  · refine va_putN (D := g_D G) (C := C) (T := T) (N := N) (index := index) (ref := (T k).1) (host := h) hx hb hts h5 ty0 g4 g5 hown hK.1 hW (hK.2.2.d M) hS o he h1 k h2 (va_Nw.use (nl_tab h4) (hK.2.1 _ h4)) (fun _ q => q) g2 g3 hn hfit hl hdg (fun H1 locs1 q1 q2 q3 => ?_)
    rw [hw] at q1
    exact kk H1 locs1 q1 q3
theorem ct_wI {G : GG} {M : Mem} {o k : Nat} {x : Int32} : ∀ a, a ≠ o → ct G (w_I M o k x) a = ct G M a := fun a h => ct_eq (fun b => if_neg (fun q => h q.1)) (fun _ => rfl)
theorem ct_wJ {G : GG} {M : Mem} {o k : Nat} {x : Int64} : ∀ a, a ≠ o → ct G (w_J M o k x) a = ct G M a := fun a h => ct_eq (fun _ => rfl) (fun b => if_neg (fun q => h q.1))
theorem x_puti {index ci o k : Nat} {x : Int32} (cx : Cx G cc own nL p s m args meth c) (hW : WH G M H) (hS : va_S (g_A G) s.heap H locs) (ho : kd o = ci) (hf : FL own index ci k) (ht : FT index ci k .int) (hl : k < (fl G M o ci).length) (hset : (fl G M o ci).set k (.int x) = fl G (w_I M o k x) o ci) {M' : Mem} (hM : M' = w_I M o k x) (hdg : decode cc pc = .ok (.putfield index, 3))
    (kk : ∀ (H1 : Heap) (locs1 : List Loc), WH G M' H1 → va_S (g_A G) s.heap H1 locs1 → W p l e R s m args below meth c H1 locs1 0 0 Q (F0 m (pc + 3) ls rest)) : W p l e R s m args below meth c H locs 0 0 Q (F0 m pc ls (.int x :: .ref (g_ad G o) :: rest)) := by
  subst hM
  exact x_put cx hW hS ho hf ht rfl rfl hl hset ct_wI hdg kk
theorem x_putz {index ci o k : Nat} {x : Int32} (cx : Cx G cc own nL p s m args meth c) (hW : WH G M H) (hS : va_S (g_A G) s.heap H locs) (ho : kd o = ci) (hf : FL own index ci k) (ht : FT index ci k .boolean) (hz : x = 0 ∨ x = 1) (hl : k < (fl G M o ci).length) (hset : (fl G M o ci).set k (.int x) = fl G (w_I M o k x) o ci) {M' : Mem} (hM : M' = w_I M o k x) (hdg : decode cc pc = .ok (.putfield index, 3))
    (kk : ∀ (H1 : Heap) (locs1 : List Loc), WH G M' H1 → va_S (g_A G) s.heap H1 locs1 → W p l e R s m args below meth c H1 locs1 0 0 Q (F0 m (pc + 3) ls rest)) : W p l e R s m args below meth c H locs 0 0 Q (F0 m pc ls (.int x :: .ref (g_ad G o) :: rest)) := by
  subst hM
  exact x_put cx hW hS ho hf ht (by rcases hz with rfl | rfl <;> decide) (by rcases hz with rfl | rfl <;> decide) hl hset ct_wI hdg kk
theorem x_putl {index ci o k : Nat} {x : Int64} (cx : Cx G cc own nL p s m args meth c) (hW : WH G M H) (hS : va_S (g_A G) s.heap H locs) (ho : kd o = ci) (hf : FL own index ci k) (ht : FT index ci k .long) (hl : k < (fl G M o ci).length) (hset : (fl G M o ci).set k (.long x) = fl G (w_J M o k x) o ci) {M' : Mem} (hM : M' = w_J M o k x) (hdg : decode cc pc = .ok (.putfield index, 3))
    (kk : ∀ (H1 : Heap) (locs1 : List Loc), WH G M' H1 → va_S (g_A G) s.heap H1 locs1 → W p l e R s m args below meth c H1 locs1 0 0 Q (F0 m (pc + 3) ls rest)) : W p l e R s m args below meth c H locs 0 0 Q (F0 m pc ls (.long x :: .ref (g_ad G o) :: rest)) := by
  subst hM
  exact x_put cx hW hS ho hf ht rfl rfl hl hset ct_wJ hdg kk
/-- arrays -/
theorem x_iald {o n : Nat} {i : Int32} (cx : Cx G cc own nL p s m args meth c) (hW : WH G M H) (ho : kd o = 100 + n) (hn : n < 900) {j : Nat} (hj : i.toNatClampNeg = j) (hin : vp_in i n) (hdg : decode cc pc = .ok (.iaload, 1))
    (kk : W p l e R s m args below meth c H locs 0 0 Q (F0 m (pc + 1) ls (.int (m_I M o j) :: rest))) : W p l e R s m args below meth c H locs 0 0 Q (F0 m pc ls (.int i :: .ref (g_ad G o) :: rest)) := by
  subst hj
  obtain ⟨hx, hb, hml, hown, hts, hK, hSS, hlk⟩ := cx
  exact va_iald (D := g_D G) hx hb hK.1 hW o 0 (by rw [wl_get (kd_lt (by omega)), ct_i ho hn]) rfl hin hdg kk
theorem x_lald {o n : Nat} {i : Int32} (cx : Cx G cc own nL p s m args meth c) (hW : WH G M H) (ho : kd o = 1000 + n) (hn : n < 900) {j : Nat} (hj : i.toNatClampNeg = j) (hin : vp_in i n) (hdg : decode cc pc = .ok (.laload, 1))
    (kk : W p l e R s m args below meth c H locs 0 0 Q (F0 m (pc + 1) ls (.long (m_J M o j) :: rest))) : W p l e R s m args below meth c H locs 0 0 Q (F0 m pc ls (.int i :: .ref (g_ad G o) :: rest)) := by
  subst hj
  obtain ⟨hx, hb, hml, hown, hts, hK, hSS, hlk⟩ := cx
  exact va_lald (D := g_D G) hx hb hK.1 hW o 1 (by rw [wl_get (kd_lt (by omega)), ct_j ho (by omega)]) rfl hin hdg kk
theorem x_aald {o : Nat} {i : Int32} (cx : Cx G cc own nL p s m args meth c) (hW : WH G M H) (ho : kd o = 2004) {j : Nat} (hj : i.toNatClampNeg = j) (hin : vp_in i 4) (hdg : decode cc pc = .ok (.aaload, 1))
    (kk : W p l e R s m args below meth c H locs 0 0 Q (F0 m (pc + 1) ls (.ref (g_ad G (41 + 2 * j)) :: rest))) : W p l e R s m args below meth c H locs 0 0 Q (F0 m pc ls (.int i :: .ref (g_ad G o) :: rest)) := by
  subst hj
  obtain ⟨hx, hb, hml, hown, hts, hK, hSS, hlk⟩ := cx
  exact va_aldq (D := g_D G) (f := fun j => some (g_ad G (41 + 2 * j))) hx hb hK.1 hW o 2 (by rw [wl_get (kd_lt (by omega)), ct_q ho]) rfl hin hdg kk
theorem x_iast {o n : Nat} {i x : Int32} (cx : Cx G cc own nL p s m args meth c) (hW : WH G M H) (hS : va_S (g_A G) s.heap H locs) (ho : kd o = 100 + n) (hn : n < 900) {j : Nat} (hj : i.toNatClampNeg = j) (hin : vp_in i n) {M' : Mem} (hM : M' = w_I M o j x) (hdg : decode cc pc = .ok (.iastore, 1))
    (kk : ∀ (H1 : Heap) (locs1 : List Loc), WH G M' H1 → va_S (g_A G) s.heap H1 locs1 → W p l e R s m args below meth c H1 locs1 0 0 Q (F0 m (pc + 1) ls rest)) : W p l e R s m args below meth c H locs 0 0 Q (F0 m pc ls (.int x :: .int i :: .ref (g_ad G o) :: rest)) := by
  subst hM
  subst hj
  obtain ⟨hx, hb, hml, hown, hts, hK, hSS, hlk⟩ := cx
  have hlt : o < 65 := kd_lt (by omega)
  refine va_iast (D := g_D G) hx hb hK.1 hW (hK.2.2.d M) hS o 0 (by rw [wl_get hlt, ct_i ho hn]) rfl hin hdg (fun H1 locs1 q1 q2 q3 => ?_)
  have hw : (wl G M).set o (g_ad G o, .inl (g_cy G 0, n, .inl (upd (m_I M o) i.toNatClampNeg x))) = wl G (w_I M o i.toNatClampNeg x) := by
    have e : m_I (w_I M o i.toNatClampNeg x) o = upd (m_I M o) i.toNatClampNeg x := by
      funext b
      show (if o = o ∧ b = _ then x else M.1 o b) = if b = _ then x else M.1 o b
      simp
    rw [← e, ← ct_i (G := G) (M := w_I M o i.toNatClampNeg x) ho hn]
    exact wl_set hlt ct_wI
  rw [hw] at q1
  exact kk H1 locs1 q1 q3
theorem x_last {o n : Nat} {i : Int32} {x : Int64} (cx : Cx G cc own nL p s m args meth c) (hW : WH G M H) (hS : va_S (g_A G) s.heap H locs) (ho : kd o = 1000 + n) (hn : n < 900) {j : Nat} (hj : i.toNatClampNeg = j) (hin : vp_in i n) {M' : Mem} (hM : M' = w_J M o j x) (hdg : decode cc pc = .ok (.lastore, 1))
    (kk : ∀ (H1 : Heap) (locs1 : List Loc), WH G M' H1 → va_S (g_A G) s.heap H1 locs1 → W p l e R s m args below meth c H1 locs1 0 0 Q (F0 m (pc + 1) ls rest)) : W p l e R s m args below meth c H locs 0 0 Q (F0 m pc ls (.long x :: .int i :: .ref (g_ad G o) :: rest)) := by
  subst hM
  subst hj
  obtain ⟨hx, hb, hml, hown, hts, hK, hSS, hlk⟩ := cx
  have hlt : o < 65 := kd_lt (by omega)
  refine va_last (D := g_D G) hx hb hK.1 hW (hK.2.2.d M) hS o 1 (by rw [wl_get hlt, ct_j ho (by omega)]) rfl hin hdg (fun H1 locs1 q1 q2 q3 => ?_)
  have hw : (wl G M).set o (g_ad G o, .inl (g_cy G 1, n, .inr (.inl (vp_updL (m_J M o) i.toNatClampNeg x)))) = wl G (w_J M o i.toNatClampNeg x) := by
    have e : m_J (w_J M o i.toNatClampNeg x) o = vp_updL (m_J M o) i.toNatClampNeg x := by
      funext b
      show (if o = o ∧ b = _ then x else M.2 o b) = if b = _ then x else M.2 o b
      simp
    rw [← e, ← ct_j (G := G) (M := w_J M o i.toNatClampNeg x) ho (by omega)]
    exact wl_set hlt ct_wJ
  rw [hw] at q1
  exact kk H1 locs1 q1 q3
end XS
/-! ===== CALLS ===== -/
def CV (own : String) (index : Nat) (C : String) (y : MethodName) (bytes : ByteArray) (maxL : Nat) (ret : Option FieldType) (n : Nat) : Prop :=
  Cond.methodLink own index y ∈ WL ∧ Cond.instanceMethod y ∈ WL ∧ Cond.selects C y y ∈ WL ∧ Cond.initialized C ∈ WL ∧ Cond.code y bytes maxL ret ∈ WL ∧ (y.cls = C ∧ y.cls ≠ "java/lang/invoke/MethodHandle" ∧ y.cls ≠ "java/lang/invoke/VarHandle" ∧ (parseMethodDescriptor y.desc).map (fun d => d.parameters.length) = some n)
def CS (own : String) (index : Nat) (y : MethodName) (bytes : ByteArray) (maxL : Nat) (ret : Option FieldType) (n : Nat) : Prop :=
  Cond.methodLink own index y ∈ WL ∧ Cond.static y ∈ WL ∧ Cond.initialized y.cls ∈ WL ∧ Cond.code y bytes maxL ret ∈ WL ∧ (y.cls ≠ "java/lang/invoke/MethodHandle" ∧ y.cls ≠ "java/lang/invoke/VarHandle" ∧ (parseMethodDescriptor y.desc).map (fun d => d.parameters.length) = some n)
def RM (f n : Nat) : Room := { frames := f, cells := 0, slots := 0, locals := n }
theorem wz_good {y : MethodName} {bytes : ByteArray} {maxL : Nat} {ret : Option FieldType} (h : Cond.code y bytes maxL ret ∈ WL) : GoodIn WL (wz y bytes maxL ret) := by
  intro w hw
  rcases List.mem_cons.mp hw with rfl | hw
  · exact ⟨h, wl_good _ h⟩
  · exact ⟨hw, wl_good _ hw⟩
section XC
variable {p : Program} {l : Launch} {e : Env} {R : Room} {s : State} {m : MethodId} {args : Array Value} {below : List Frame} {meth : Method} {c : Code} {H : Heap} {locs : List Loc} {Q : State → Prop} {cells slots : Nat}
variable {cc bytes : ByteArray} {pc nL maxL index n o ci f0 n0 : Nat} {ls : Array Slot} {rest As st0 : List Value} {G : GG} {M M1 : Mem} {own C : String} {y : MethodName} {ret : Option FieldType} {Qc : Array Value → State → Outcome → State → Prop}
theorem x_runV (cx : Cx G cc own nL p s m args meth c) (hW : WH G M H) (hS : va_S (g_A G) s.heap H locs) (hM : Met l y (wz y bytes maxL ret) (RM f0 n0) (PreC G (.ref (g_ad G o) :: As) M) Qc 0 0 (g_A G)) (hq : CV own index C y bytes maxL ret n) (ho : kd o = ci) (hc : (cls7[ci]?).map (fun q => q.1) = some C)
    (hR : f0 + 1 ≤ R.frames ∧ 8 + (maxL + 11) + n0 ≤ R.locals) (hls : ls.size = nL) (hn : As.length = n) (hst : st0 = As.reverse ++ .ref (g_ad G o) :: rest) (hw : (rest.map fun v => v.category).sum ≤ 8) (hf : cells ≤ R.cells ∧ slots ≤ R.slots) (hdg : decode cc pc = .ok (.invokevirtual index, 3)) :
    va_Run p l e R s m args below meth c H locs cells slots 0 0 (F0 m pc ls st0) rest (Qc (Value.ref (g_ad G o) :: As).toArray) (g_A G) := by
  obtain ⟨hx, hb, hml, hown, hts, hK, hSS, hlk⟩ := cx
  obtain ⟨q1, q2, q3, q4, q5, q6, q7⟩ := hq
  subst q6
  refine va_runV (Ts := WL) (C := y.cls) (n := n) ⟨hx, hb, hml, hown, hts⟩ hM ⟨callB_of n hts (wz_good q5) rfl rfl rfl (hts _ q4) (hts _ q1) q7 hR, hts _ q2, hts _ q3⟩ ⟨PreC.blind, ?_, fun U hU hWm => ⟨rfl, hK.warm hWm, ?_, ?_⟩⟩ rfl hn hls hst (lv_room hw) hdg hf
  · cases hcc : cls7[ci]? with
    | none => rw [hcc] at hc; cases hc
    | some q =>
      rw [hcc] at hc
      have hl : ci < 7 := (List.getElem?_eq_some_iff.mp hcc).1
      have he : (wl G M)[o]? = some (g_ad G o, .inr (ci, fl G M o ci)) := by rw [wl_get (kd_lt (by omega)), ct_o ho (by omega)]
      have h9 := va_recv (D := g_D G) hK.1 hW hcc he
      rw [show q.1 = y.cls from Option.some.inj hc] at h9
      exact h9
  · rw [hU]
    exact hSS.go hWm hS.2.1
  · rw [hU]
    exact hW
theorem x_runS (cx : Cx G cc own nL p s m args meth c) (hW : WH G M H) (hS : va_S (g_A G) s.heap H locs) (hM : Met l y (wz y bytes maxL ret) (RM f0 n0) (PreC G As M) Qc 0 0 (g_A G)) (hq : CS own index y bytes maxL ret n)
    (hR : f0 + 1 ≤ R.frames ∧ 8 + (maxL + 11) + n0 ≤ R.locals) (hls : ls.size = nL) (hn : As.length = n) (hst : st0 = As.reverse ++ rest) (hw : (rest.map fun v => v.category).sum ≤ 8) (hf : cells ≤ R.cells ∧ slots ≤ R.slots) (hdg : decode cc pc = .ok (.invokestatic index, 3)) :
    va_Run p l e R s m args below meth c H locs cells slots 0 0 (F0 m pc ls st0) rest (Qc As.toArray) (g_A G) := by
  obtain ⟨hx, hb, hml, hown, hts, hK, hSS, hlk⟩ := cx
  obtain ⟨q1, q2, q4, q5, q7⟩ := hq
  refine va_runS (Ts := WL) (n := n) ⟨hx, hb, hml, hown, hts⟩ hM ⟨callB_of n hts (wz_good q5) rfl rfl rfl (hts _ q4) (hts _ q1) q7 hR, hts _ q2⟩ ⟨PreC.blind, fun U hU hWm => ⟨rfl, hK.warm hWm, ?_, ?_⟩⟩ rfl hn hls hst (lv_room hw) hdg hf
  · rw [hU]
    exact hSS.go hWm hS.2.1
  · rw [hU]
    exact hW
theorem x_goi {r : Int32} {a : Array Value} (hr : va_Run p l e R s m args below meth c H locs cells slots 0 0 (F0 m pc ls st0) rest (QcI G r M1 a) (g_A G)) (hS : va_S (g_A G) s.heap H locs)
    (kk : ∀ (H1 : Heap) (locs1 : List Loc), WH G M1 H1 → va_S (g_A G) s.heap H1 locs1 → W p l e R s m args below meth c H1 locs1 cells slots Q (F0 m (pc + 3) ls (.int r :: rest))) : W p l e R s m args below meth c H locs cells slots Q (F0 m pc ls st0) := by
  refine va_calli hr hS (fun _ _ h => h) (fun _ h => h) (fun r' u t H1 locs1 ht hvm hw hB hz1 hk1 hS1 => ?_)
  obtain ⟨rfl, rfl⟩ := hw
  rw [ht] at hB
  exact kk H1 locs1 hB hS1
theorem x_gol {r : Int64} {a : Array Value} (hr : va_Run p l e R s m args below meth c H locs cells slots 0 0 (F0 m pc ls st0) rest (QcL G r M1 a) (g_A G)) (hS : va_S (g_A G) s.heap H locs)
    (kk : ∀ (H1 : Heap) (locs1 : List Loc), WH G M1 H1 → va_S (g_A G) s.heap H1 locs1 → W p l e R s m args below meth c H1 locs1 cells slots Q (F0 m (pc + 3) ls (.long r :: rest))) : W p l e R s m args below meth c H locs cells slots Q (F0 m pc ls st0) := by
  refine va_calll hr hS (fun _ _ h => h) (fun _ h => h) (fun r' u t H1 locs1 ht hvm hw hB hz1 hk1 hS1 => ?_)
  obtain ⟨rfl, rfl⟩ := hw
  rw [ht] at hB
  exact kk H1 locs1 hB hS1
theorem x_gov {a : Array Value} (hr : va_Run p l e R s m args below meth c H locs cells slots 0 0 (F0 m pc ls st0) rest (QcV G M1 a) (g_A G)) (hS : va_S (g_A G) s.heap H locs)
    (kk : ∀ (H1 : Heap) (locs1 : List Loc), WH G M1 H1 → va_S (g_A G) s.heap H1 locs1 → W p l e R s m args below meth c H1 locs1 cells slots Q (F0 m (pc + 3) ls rest)) : W p l e R s m args below meth c H locs cells slots Q (F0 m pc ls st0) := by
  refine va_callv hr hS (fun _ _ h => h) (fun _ h => h) (fun u t H1 locs1 ht hvm hw hB hz1 hk1 hS1 => ?_)
  obtain rfl := hw
  rw [ht] at hB
  exact kk H1 locs1 hB hS1
theorem x_gos {r : Nat} {a : Array Value} (hr : va_Run p l e R s m args below meth c H locs cells slots 0 0 (F0 m pc ls st0) rest (QcS G r M1 a) (g_A G)) (hS : va_S (g_A G) s.heap H locs)
    (kk : ∀ (H1 : Heap) (locs1 : List Loc), WH G M1 H1 → va_S (g_A G) s.heap H1 locs1 → W p l e R s m args below meth c H1 locs1 cells slots Q (F0 m (pc + 3) ls (.ref (g_ak G r) :: rest))) : W p l e R s m args below meth c H locs cells slots Q (F0 m pc ls st0) := by
  refine va_callr hr hS (fun _ _ h => h) (fun _ h => h) (fun u r' t H1 locs1 ht hvm hw hB hz1 hk1 hS1 => ?_)
  subst hw
  obtain ⟨hB, rfl⟩ := hB
  rw [ht] at hB
  exact kk H1 locs1 hB hS1
end XC
section XR
variable {p : Program} {l : Launch} {e : Env} {R : Room} {s : State} {m : MethodId} {args : Array Value} {below : List Frame} {meth : Method} {c : Code} {H : Heap} {locs : List Loc} {Q : State → Prop}
variable {cc : ByteArray} {pc nL : Nat} {ls : Array Slot} {rest : List Value} {G : GG} {M M1 : Mem} {own : String}
/-! ends -/
theorem x_iret {v r : Int32} (cx : Cx G cc own nL p s m args meth c) (hr : meth.sig.returnType = some .int) (hW : WH G M H) (hS : va_S (g_A G) s.heap H locs) (h1 : v = r) (h2 : M = M1) (hdg : decode cc pc = .ok (.ireturn, 1)) : W p l e R s m args below meth c H locs 0 0 (MQ below (QcI G r M1) args s 0 0 (g_A G)) (F0 m pc ls [.int v]) := by
  subst h1; subst h2
  exact W.iret cx.1 cx.2.1 hr (fun t ht hW9 => ⟨⟨v, M, rfl, ⟨rfl, rfl⟩, by show WH G M t.heap; rw [ht]; exact hW⟩, hS.F ht⟩) hS.2.2 hdg cx.2.2.2.2.2.2.2
theorem x_zret {v r : Int32} {ty : FieldType} (cx : Cx G cc own nL p s m args meth c) (hr : meth.sig.returnType = some ty) (hz : narrow ty (.int v) = .int v) (hW : WH G M H) (hS : va_S (g_A G) s.heap H locs) (h1 : v = r) (h2 : M = M1) (hdg : decode cc pc = .ok (.ireturn, 1)) : W p l e R s m args below meth c H locs 0 0 (MQ below (QcI G r M1) args s 0 0 (g_A G)) (F0 m pc ls [.int v]) := by
  subst h1; subst h2
  exact W.zret cx.1 cx.2.1 hr hz (fun t ht hW9 => ⟨⟨v, M, rfl, ⟨rfl, rfl⟩, by show WH G M t.heap; rw [ht]; exact hW⟩, hS.F ht⟩) hS.2.2 hdg cx.2.2.2.2.2.2.2
theorem x_lret {v r : Int64} (cx : Cx G cc own nL p s m args meth c) (hr : meth.sig.returnType = some .long) (hW : WH G M H) (hS : va_S (g_A G) s.heap H locs) (h1 : v = r) (h2 : M = M1) (hdg : decode cc pc = .ok (.lreturn, 1)) : W p l e R s m args below meth c H locs 0 0 (MQ below (QcL G r M1) args s 0 0 (g_A G)) (F0 m pc ls [.long v]) := by
  subst h1; subst h2
  exact W.lret cx.1 cx.2.1 hr (fun t ht hW9 => ⟨⟨v, M, rfl, ⟨rfl, rfl⟩, by show WH G M t.heap; rw [ht]; exact hW⟩, hS.F ht⟩) hS.2.2 hdg cx.2.2.2.2.2.2.2
theorem x_vret (cx : Cx G cc own nL p s m args meth c) (hr : meth.sig.returnType = none) (hW : WH G M H) (hS : va_S (g_A G) s.heap H locs) (h2 : M = M1) (hdg : decode cc pc = .ok (.return_, 1)) : W p l e R s m args below meth c H locs 0 0 (MQ below (QcV G M1) args s 0 0 (g_A G)) (F0 m pc ls []) := by
  subst h2
  exact W.vret cx.1 cx.2.1 hr (fun t ht hW9 => ⟨⟨M, rfl, rfl, by show WH G M t.heap; rw [ht]; exact hW⟩, hS.F ht⟩) hS.2.2 hdg cx.2.2.2.2.2.2.2
theorem x_sret {v r : Nat} (cx : Cx G cc own nL p s m args meth c) (hr : meth.sig.returnType = some (.object "java/lang/String")) (hW : WH G M H) (hS : va_S (g_A G) s.heap H locs) (h1 : v = r) (h2 : M = M1) (hdg : decode cc pc = .ok (.areturn, 1)) : W p l e R s m args below meth c H locs 0 0 (MQ below (QcS G r M1) args s 0 0 (g_A G)) (F0 m pc ls [.ref (g_ak G v)]) := by
  subst h1; subst h2
  exact W.aret cx.1 cx.2.1 hr (Or.inl ⟨_, rfl⟩) (Or.inr ⟨_, rfl⟩) (fun t ht hW9 => ⟨⟨(M, v), g_ak G v, rfl, rfl, by show WH G M t.heap; rw [ht]; exact hW, rfl⟩, hS.F ht⟩) hS.2.2 hdg cx.2.2.2.2.2.2.2
/-! static arrays -/
theorem x_sald {t N : Nat} {f : Nat → Int32} {i : Int32} (cx : Cx G cc own nL p s m args meth c) (hT : va_T .int t N (fun j => .int (f j)) (g_A G) s s.heap) (hS : va_S (g_A G) s.heap H locs) {j : Nat} (hj : i.toNatClampNeg = j) (hin : vp_in i N) (hdg : decode cc pc = .ok (.iaload, 1))
    (kk : W p l e R s m args below meth c H locs 0 0 Q (F0 m (pc + 1) ls (.int (f j) :: rest))) : W p l e R s m args below meth c H locs 0 0 Q (F0 m pc ls (.int i :: .ref t :: rest)) :=
  va_ti cx.1 cx.2.1 hT hS hin (by rw [hj]) hdg kk
theorem x_gets {C n d : String} {v : Value} {index : Nat} (cx : Cx G cc own nL p s m args meth c) (hZ : va_Z C n d v (g_A G) s s.heap) (hS : va_S (g_A G) s.heap H locs) (hlink : Cond.fieldLink own index C n d ∈ WL) (hdg : decode cc pc = .ok (.getstatic index, 3))
    (kk : W p l e R s m args below meth c H locs 0 0 Q (F0 m (pc + 3) ls (v :: rest))) : W p l e R s m args below meth c H locs 0 0 Q (F0 m pc ls rest) :=
  va_gets cx.1 cx.2.1 hZ hS cx.2.2.2.1 (cx.2.2.2.2.1 _ hlink) (fun _ q => q) hdg kk
/-! constants -/
theorem x_ldc {index : Nat} {v : Int32} (cx : Cx G cc own nL p s m args meth c) (h : Cond.constant own index v ∈ WL) (hdg : decode cc pc = .ok (.ldc index, 2)) (kk : W p l e R s m args below meth c H locs 0 0 Q (F0 m (pc + 2) ls (.int v :: rest))) : W p l e R s m args below meth c H locs 0 0 Q (F0 m pc ls rest) :=
  lv_ldc cx.1 cx.2.1 cx.2.2.2.1 (cx.2.2.2.2.1 _ h) hdg kk
theorem x_ldc2 {index : Nat} {v : Int64} (cx : Cx G cc own nL p s m args meth c) (h : Cond.constantLong own index v ∈ WL) (hdg : decode cc pc = .ok (.ldc2_w index, 3)) (kk : W p l e R s m args below meth c H locs 0 0 Q (F0 m (pc + 3) ls (.long v :: rest))) : W p l e R s m args below meth c H locs 0 0 Q (F0 m pc ls rest) :=
  lv_ldc2 cx.1 cx.2.1 cx.2.2.2.1 (cx.2.2.2.2.1 _ h) hdg kk
theorem x_ldcS {index i : Nat} {tx : String} (cx : Cx G cc RX5 nL p s m args meth c) (hi : i < 11) (h : txL.getD i (0, "") = (index, tx)) (hdg : decode cc pc = .ok (.ldc index, 2)) (kk : W p l e R s m args below meth c H locs 0 0 Q (F0 m (pc + 2) ls (.ref (g_ak G i) :: rest))) : W p l e R s m args below meth c H locs 0 0 Q (F0 m pc ls rest) := by
  have h9 := cx.2.2.2.2.2.2.1.2.2.2.2.2.2 i hi
  rw [h] at h9
  exact va_ldcS cx.1 cx.2.1 cx.2.2.2.1 h9 hdg kk
/-! Math.max, Math.min -/
def CM (own : String) (index : Nat) (y : MethodName) (bytes : ByteArray) : Prop := Cond.methodLink own index y ∈ WL ∧ Cond.static y ∈ WL ∧ Cond.initialized "java/lang/Math" ∈ WL ∧ Cond.code y bytes 2 (some .int) ∈ WL
theorem x_max {index : Nat} {x y : Int32} (cx : Cx G cc own nL p s m args meth c) (h : CM own index Lib.Math.max.name Lib.Math.max.code) (hls : ls.size = nL) (hR : 1 ≤ R.frames) (hL : (rest.map fun v => v.category).sum + 13 ≤ R.locals) (hdg : decode cc pc = .ok (.invokestatic index, 3))
    (kk : W p l e R s m args below meth c H locs 0 0 Q (F0 m (pc + 3) ls (.int (if x < y then y else x) :: rest))) : W p l e R s m args below meth c H locs 0 0 Q (F0 m pc ls (.int y :: .int x :: rest)) :=
  va_mmax cx.1 cx.2.1 (cx.2.2.1.trans hls.symm) cx.2.2.2.1 (cx.2.2.2.2.1 _ h.1) (cx.2.2.2.2.1 _ h.2.1) (cx.2.2.2.2.1 _ h.2.2.1) (cx.2.2.2.2.1 _ h.2.2.2) hR hL (Nat.zero_le _) (Nat.zero_le _) hdg kk
theorem x_min {index : Nat} {x y : Int32} (cx : Cx G cc own nL p s m args meth c) (h : CM own index Lib.Math.min.name Lib.Math.min.code) (hls : ls.size = nL) (hR : 1 ≤ R.frames) (hL : (rest.map fun v => v.category).sum + 13 ≤ R.locals) (hdg : decode cc pc = .ok (.invokestatic index, 3))
    (kk : W p l e R s m args below meth c H locs 0 0 Q (F0 m (pc + 3) ls (.int (if y < x then y else x) :: rest))) : W p l e R s m args below meth c H locs 0 0 Q (F0 m pc ls (.int y :: .int x :: rest)) :=
  va_mmin cx.1 cx.2.1 (cx.2.2.1.trans hls.symm) cx.2.2.2.1 (cx.2.2.2.2.1 _ h.1) (cx.2.2.2.2.1 _ h.2.1) (cx.2.2.2.2.1 _ h.2.2.1) (cx.2.2.2.2.1 _ h.2.2.2) hR hL (Nat.zero_le _) (Nat.zero_le _) hdg kk
/-! System.arraycopy -/
def CA (own : String) (index : Nat) : Prop := Cond.methodLink own index arraycopyName ∈ WL ∧ Cond.native arraycopyName ∈ WL ∧ Cond.static arraycopyName ∈ WL ∧ Cond.initialized "java/lang/System" ∈ WL
/-- a copy is within both rows -/
def cp {α : Type} (n0 n1 : Nat) (sp dp n : Int32) (k : Nat → Nat → Nat → Option α) : Option α := if 0 ≤ sp.toInt ∧ 0 ≤ dp.toInt ∧ 0 ≤ n.toInt ∧ sp.toNatClampNeg + n.toNatClampNeg ≤ n0 ∧ dp.toNatClampNeg + n.toNatClampNeg ≤ n1 then k sp.toNatClampNeg dp.toNatClampNeg n.toNatClampNeg else none
theorem nn_of {x : Int32} (h : 0 ≤ x.toInt) : ¬ x < 0 := by
  rw [Int32.lt_iff_toInt_lt]
  have : (0 : Int32).toInt = 0 := by decide
  omega
theorem cp_e {α : Type} {n0 n1 : Nat} {sp dp n : Int32} {k : Nat → Nat → Nat → Option α} {r : α} (h : cp n0 n1 sp dp n k = some r) : ∃ i j z, (sp.toNatClampNeg = i ∧ dp.toNatClampNeg = j ∧ n.toNatClampNeg = z) ∧ (¬ sp < 0 ∧ ¬ dp < 0 ∧ ¬ n < 0 ∧ sp.toNatClampNeg + n.toNatClampNeg ≤ n0 ∧ dp.toNatClampNeg + n.toNatClampNeg ≤ n1) ∧ k i j z = some r := by
  unfold cp at h
  by_cases q : 0 ≤ sp.toInt ∧ 0 ≤ dp.toInt ∧ 0 ≤ n.toInt ∧ sp.toNatClampNeg + n.toNatClampNeg ≤ n0 ∧ dp.toNatClampNeg + n.toNatClampNeg ≤ n1
  · rw [if_pos q] at h
    exact ⟨_, _, _, ⟨rfl, rfl, rfl⟩, ⟨nn_of q.1, nn_of q.2.1, nn_of q.2.2.1, q.2.2.2⟩, h⟩
  · rw [if_neg q] at h
    cases h
theorem x_copyi {index o q n0 n1 : Nat} {sp dp n : Int32} (cx : Cx G cc own nL p s m args meth c) (h : CA own index) (hls : ls.size = nL) (hW : WH G M H) (hS : va_S (g_A G) s.heap H locs) (ho : kd o = 100 + n0) (hn0 : n0 < 900) (hq : kd q = 100 + n1) (hn1 : n1 < 900)
    {i j z : Nat} (hj : sp.toNatClampNeg = i ∧ dp.toNatClampNeg = j ∧ n.toNatClampNeg = z) (hb : ¬ sp < 0 ∧ ¬ dp < 0 ∧ ¬ n < 0 ∧ sp.toNatClampNeg + n.toNatClampNeg ≤ n0 ∧ dp.toNatClampNeg + n.toNatClampNeg ≤ n1) (hR : 1 ≤ R.frames) (hL : (rest.map fun v => v.category).sum + (nativeFrameWords "java/lang/System" "arraycopy" 5 + 11) ≤ R.locals) {M' : Mem} (hM : M' = y_I M o i q j z) (hdg : decode cc pc = .ok (.invokestatic index, 3))
    (kk : ∀ (H1 : Heap) (locs1 : List Loc), WH G M' H1 → va_S (g_A G) s.heap H1 locs1 → W p l e R s m args below meth c H1 locs1 0 0 Q (F0 m (pc + 3) ls rest)) : W p l e R s m args below meth c H locs 0 0 Q (F0 m pc ls (.int n :: .int dp :: .ref (g_ad G q) :: .int sp :: .ref (g_ad G o) :: rest)) := by
  subst hM
  obtain ⟨rfl, rfl, rfl⟩ := hj
  obtain ⟨hx, hb', hml, hown, hts, hK, hSS, hlk⟩ := cx
  have hlt : q < 65 := kd_lt (by omega)
  refine va_copyi (D := g_D G) hx hb' (hml.trans hls.symm) hown (hts _ h.1) (hts _ h.2.1) (hts _ h.2.2.1) (hts _ h.2.2.2) hK.1 hW (hK.2.2.d M) hS o q 0 0 (by rw [wl_get (kd_lt (by omega)), ct_i ho hn0]) (by rw [wl_get hlt, ct_i hq hn1]) rfl rfl rfl hb.1 hb.2.1 hb.2.2.1 hb.2.2.2.1 hb.2.2.2.2 (fun _ _ => rfl) hR hL hdg (fun H1 locs1 q1 q2 q3 => ?_)
  have hw : (wl G M).set q (g_ad G q, .inl (g_cy G 0, n1, .inl (va_cpy (m_I M o) (m_I M q) sp.toNatClampNeg dp.toNatClampNeg n.toNatClampNeg))) = wl G (y_I M o sp.toNatClampNeg q dp.toNatClampNeg n.toNatClampNeg) := by
    have e : m_I (y_I M o sp.toNatClampNeg q dp.toNatClampNeg n.toNatClampNeg) q = va_cpy (m_I M o) (m_I M q) sp.toNatClampNeg dp.toNatClampNeg n.toNatClampNeg := by
      funext b
      show (if q = q ∧ _ ≤ b ∧ b < _ then M.1 o _ else M.1 q b) = if _ ≤ b ∧ b < _ then M.1 o _ else M.1 q b
      simp
    rw [← e, ← ct_i (G := G) (M := y_I M o sp.toNatClampNeg q dp.toNatClampNeg n.toNatClampNeg) hq hn1]
    exact wl_set hlt (fun a h => ct_eq (fun b => if_neg (fun q => h q.1)) (fun _ => rfl))
  rw [hw] at q1
  exact kk H1 locs1 q1 q3
theorem x_copyl {index o q n0 n1 : Nat} {sp dp n : Int32} (cx : Cx G cc own nL p s m args meth c) (h : CA own index) (hls : ls.size = nL) (hW : WH G M H) (hS : va_S (g_A G) s.heap H locs) (ho : kd o = 1000 + n0) (hn0 : n0 < 900) (hq : kd q = 1000 + n1) (hn1 : n1 < 900)
    {i j z : Nat} (hj : sp.toNatClampNeg = i ∧ dp.toNatClampNeg = j ∧ n.toNatClampNeg = z) (hb : ¬ sp < 0 ∧ ¬ dp < 0 ∧ ¬ n < 0 ∧ sp.toNatClampNeg + n.toNatClampNeg ≤ n0 ∧ dp.toNatClampNeg + n.toNatClampNeg ≤ n1) (hR : 1 ≤ R.frames) (hL : (rest.map fun v => v.category).sum + (nativeFrameWords "java/lang/System" "arraycopy" 5 + 11) ≤ R.locals) {M' : Mem} (hM : M' = y_J M o i q j z) (hdg : decode cc pc = .ok (.invokestatic index, 3))
    (kk : ∀ (H1 : Heap) (locs1 : List Loc), WH G M' H1 → va_S (g_A G) s.heap H1 locs1 → W p l e R s m args below meth c H1 locs1 0 0 Q (F0 m (pc + 3) ls rest)) : W p l e R s m args below meth c H locs 0 0 Q (F0 m pc ls (.int n :: .int dp :: .ref (g_ad G q) :: .int sp :: .ref (g_ad G o) :: rest)) := by
  subst hM
  obtain ⟨rfl, rfl, rfl⟩ := hj
  obtain ⟨hx, hb', hml, hown, hts, hK, hSS, hlk⟩ := cx
  have hlt : q < 65 := kd_lt (by omega)
  refine va_copyl (D := g_D G) hx hb' (hml.trans hls.symm) hown (hts _ h.1) (hts _ h.2.1) (hts _ h.2.2.1) (hts _ h.2.2.2) hK.1 hW (hK.2.2.d M) hS o q 1 1 (by rw [wl_get (kd_lt (by omega)), ct_j ho (by omega)]) (by rw [wl_get hlt, ct_j hq (by omega)]) rfl rfl rfl hb.1 hb.2.1 hb.2.2.1 hb.2.2.2.1 hb.2.2.2.2 (fun _ _ => rfl) hR hL hdg (fun H1 locs1 q1 q2 q3 => ?_)
  have hw : (wl G M).set q (g_ad G q, .inl (g_cy G 1, n1, .inr (.inl (va_cpy (m_J M o) (m_J M q) sp.toNatClampNeg dp.toNatClampNeg n.toNatClampNeg)))) = wl G (y_J M o sp.toNatClampNeg q dp.toNatClampNeg n.toNatClampNeg) := by
    have e : m_J (y_J M o sp.toNatClampNeg q dp.toNatClampNeg n.toNatClampNeg) q = va_cpy (m_J M o) (m_J M q) sp.toNatClampNeg dp.toNatClampNeg n.toNatClampNeg := by
      funext b
      show (if q = q ∧ _ ≤ b ∧ b < _ then M.2 o _ else M.2 q b) = if _ ≤ b ∧ b < _ then M.2 o _ else M.2 q b
      simp
    rw [← e, ← ct_j (G := G) (M := y_J M o sp.toNatClampNeg q dp.toNatClampNeg n.toNatClampNeg) hq (by omega)]
    exact wl_set hlt (fun a h => ct_eq (fun _ => rfl) (fun b => if_neg (fun q => h q.1)))
  rw [hw] at q1
  exact kk H1 locs1 q1 q3
theorem x_pini {x : Int32} {α : Type} {k : Int32 → Option α} {r : Option α} (hF : pin x k = r) (kk : ∀ y, k y = r → W p l e R s m args below meth c H locs 0 0 Q (F0 m pc ls (.int y :: rest))) : W p l e R s m args below meth c H locs 0 0 Q (F0 m pc ls (.int x :: rest)) := kk x hF
theorem x_pinl {x : Int64} {α : Type} {k : Int64 → Option α} {r : Option α} (hF : pin x k = r) (kk : ∀ y, k y = r → W p l e R s m args below meth c H locs 0 0 Q (F0 m pc ls (.long y :: rest))) : W p l e R s m args below meth c H locs 0 0 Q (F0 m pc ls (.long x :: rest)) := kk x hF
/-! switches: one case, the rest -/
theorem x_tab {dflt lo hi : Int} {offs : Array Int} {len : Nat} {x k : Int32} {off : Int} {tgt : Nat} (cx : Cx G cc own nL p s m args meth c) (hdg : decode cc pc = .ok (.tableswitch dflt lo hi offs, len)) (h : x = k) (h1 : ¬ k.toInt < lo) (h2 : ¬ hi < k.toInt) (ho : offs[(k.toInt - lo).toNat]? = some off) (ht : (pc : Int) + off = (tgt : Int))
    (kk : W p l e R s m args below meth c H locs 0 0 Q (F0 m tgt ls rest)) : W p l e R s m args below meth c H locs 0 0 Q (F0 m pc ls (.int x :: rest)) := by
  subst h
  exact lv_tableIn cx.1 cx.2.1 hdg h1 h2 ho ht kk
theorem x_lkp {dflt : Int} {ps : Array (Int × Int)} {len : Nat} {x k : Int32} {off : Int} {tgt : Nat} (cx : Cx G cc own nL p s m args meth c) (hdg : decode cc pc = .ok (.lookupswitch dflt ps, len)) (hp : (ps.toList.zip (ps.toList.drop 1)).all (fun (a, next) => a.1 < next.1) = true) (h : x = k) (ho : Op.lookupswitch.offset ps.toList dflt k.toInt = off) (ht : (pc : Int) + off = (tgt : Int))
    (kk : W p l e R s m args below meth c H locs 0 0 Q (F0 m tgt ls rest)) : W p l e R s m args below meth c H locs 0 0 Q (F0 m pc ls (.int x :: rest)) := by
  subst h
  exact lv_lookup cx.1 cx.2.1 hdg hp ho ht kk
theorem x_ldcw {index : Nat} {v : Int32} (cx : Cx G cc own nL p s m args meth c) (h : Cond.constant own index v ∈ WL) (hdg : decode cc pc = .ok (.ldc_w index, 3)) (kk : W p l e R s m args below meth c H locs 0 0 Q (F0 m (pc + 3) ls (.int v :: rest))) : W p l e R s m args below meth c H locs 0 0 Q (F0 m pc ls rest) :=
  lv_ldcw cx.1 cx.2.1 cx.2.2.2.1 (cx.2.2.2.2.1 _ h) hdg kk
theorem x_alenJ {o n : Nat} {v : Int32} (cx : Cx G cc own nL p s m args meth c) (hW : WH G M H) (ho : kd o = 1000 + n) (hn : n < 900) (hv : Int32.ofNat n = v) (hdg : decode cc pc = .ok (.arraylength, 1))
    (kk : W p l e R s m args below meth c H locs 0 0 Q (F0 m (pc + 1) ls (.int v :: rest))) : W p l e R s m args below meth c H locs 0 0 Q (F0 m pc ls (.ref (g_ad G o) :: rest)) := by
  obtain ⟨hx, hb, hml, hown, hts, hK, hSS, hlk⟩ := cx
  exact va_alen (D := g_D G) hx hb hK.1 hW o 1 (by rw [wl_get (kd_lt (by omega)), ct_j ho (by omega)]) rfl hv hdg kk
theorem x_sw {x : Int32} (k : Int32) (a : x = k → W p l e R s m args below meth c H locs 0 0 Q (F0 m pc ls (.int x :: rest))) (b : ¬ x = k → W p l e R s m args below meth c H locs 0 0 Q (F0 m pc ls (.int x :: rest))) : W p l e R s m args below meth c H locs 0 0 Q (F0 m pc ls (.int x :: rest)) := by
  by_cases h : x = k
  · exact a h
  · exact b h
end XR
/-! ===== what a Village's and a Sheet's cells are ===== -/
theorem kd_3 {v : Nat} (h : kd v = 3) : v = 2 ∨ v = 13 ∨ v = 24 := by
  have hl : v < 65 := kd_lt (by omega)
  have : ∀ v, v < 65 → kd v = 3 → v = 2 ∨ v = 13 ∨ v = 24 := by decide
  exact this v hl h
theorem kd_1 {v : Nat} (h : kd v = 1) : v = 41 ∨ v = 43 ∨ v = 45 ∨ v = 47 := by
  have hl : v < 65 := kd_lt (by omega)
  have : ∀ v, v < 65 → kd v = 1 → v = 41 ∨ v = 43 ∨ v = 45 ∨ v = 47 := by decide
  exact this v hl h
theorem kd_v {v j : Nat} (h : kd v = 3) (h1 : 1 ≤ j) (h2 : j ≤ 10) : kd (v + j) = 100 + 8 := by
  have : ∀ j, j < 11 → 1 ≤ j → kd (2 + j) = 108 ∧ kd (13 + j) = 108 ∧ kd (24 + j) = 108 := by decide
  obtain ⟨a, b, c⟩ := this j (by omega) h1
  rcases kd_3 h with rfl | rfl | rfl
  · exact a
  · exact b
  · exact c
theorem kd_s {v : Nat} (h : kd v = 1) : kd (v + 1) = 1000 + 40 := by
  rcases kd_1 h with rfl | rfl | rfl | rfl <;> rfl
theorem nz_b {x : Int32} (h : x = 0 ∨ x = 1) : narrow .boolean (.int x) = .int x := by rcases h with rfl | rfl <;> decide
def FU : Nat := 1000
theorem kd_sh {i : Int32} {j : Nat} (hj : i.toNatClampNeg = j) (h : vp_in i 4) : kd (41 + 2 * j) = 1 := by
  subst hj
  obtain ⟨j, hj, rfl⟩ := vp_in_of h (by omega)
  rw [nI_clamp (by omega)]
  have : ∀ j, j < 4 → kd (41 + 2 * j) = 1 := by decide
  exact this j hj
