/-! ===== THE RELATION: the class's cells and the reference's say the same ===== -/
def Vil (M : Mem) : Prop := ∃ f z N U, GV f N U ∧ VX M 2 f z N U ∧ VM M 50 f z N U
def Fou (M : Mem) : Prop := ∀ k, k < 7 → m_I M 1 k = m_I M 51 k
def Kep (M : Mem) : Prop := (m_I M 0 8 = 0 ∧ m_I M 49 22 = 0) ∨ (m_I M 0 8 = 1 ∧ m_I M 49 22 = 1 ∧ ∃ f z N U, GV f N U ∧ VX M 13 f z N U ∧ VM M 63 f z N U)
def Tap (M : Mem) : Prop := ∃ T, T ≤ 120 ∧ m_I M 37 1 = nI T ∧ m_I M 49 9 = nI T ∧ ∀ k, k < T → m_I M 38 k = m_I M 58 k ∧ 0 ≤ (m_I M 58 k).toInt ∧ (m_I M 58 k).toInt ≤ 255
def She (M : Mem) : Prop := ∀ s, s < 4 → m_I M (41 + 2 * s) 1 = m_I M 59 s ∧ (m_I M 59 s = 0 ∨ m_I M 59 s = 8 ∨ m_I M 59 s = 16 ∨ m_I M 59 s = 64) ∧ (∃ n, n ≤ 40 ∧ m_I M (41 + 2 * s) 2 = nI n ∧ m_I M 60 s = nI n) ∧ ∀ k, k < 40 → m_J M (41 + 2 * s + 1) k = m_J M 61 (40 * s + k)
def RR (M : Mem) : Prop := Vil M ∧ Fou M ∧ Kep M ∧ Tap M ∧ She M
section RC
variable {M M1 : Mem} {P : Nat → Prop}
theorem Vil.ch (h : Vil M) (hc : Ch P M M1) (h1 : ∀ o, 2 ≤ o → o ≤ 8 → ¬ P o) (h2 : ¬ P 50) : Vil M1 := by
  obtain ⟨f, z, N, U, a, b, c⟩ := h
  exact ⟨f, z, N, U, a, b.ch hc h1, c.ch hc h2⟩
theorem Fou.ch (h : Fou M) (hc : Ch P M M1) (h1 : ¬ P 1) (h2 : ¬ P 51) : Fou M1 := fun k hk => by rw [(hc 1 h1).1, (hc 51 h2).1]; exact h k hk
theorem Kep.ch9 (h : Kep M) (hc : Ch P M M1) (h1 : ¬ P 0) (h49 : m_I M1 49 22 = m_I M 49 22) (h2 : ∀ o, 13 ≤ o → o ≤ 19 → ¬ P o) (h3 : ¬ P 63) : Kep M1 := by
  rcases h with ⟨a, b⟩ | ⟨a, b, f, z, N, U, c, d, e⟩
  · exact Or.inl ⟨by rw [(hc 0 h1).1]; exact a, by rw [h49]; exact b⟩
  · exact Or.inr ⟨by rw [(hc 0 h1).1]; exact a, by rw [h49]; exact b, f, z, N, U, c, d.ch hc h2, e.ch hc h3⟩
theorem Kep.ch (h : Kep M) (hc : Ch P M M1) (h1 : ¬ P 0) (h49 : ¬ P 49) (h2 : ∀ o, 13 ≤ o → o ≤ 19 → ¬ P o) (h3 : ¬ P 63) : Kep M1 := h.ch9 hc h1 ((hc 49 h49).1 22) h2 h3
theorem Tap.ch (h : Tap M) (hc : Ch P M M1) (h1 : ¬ P 37) (h2 : ¬ P 38) (h49 : ¬ P 49) (h3 : ¬ P 58) : Tap M1 := by
  obtain ⟨T, a, b, c, d⟩ := h
  exact ⟨T, a, by rw [(hc 37 h1).1]; exact b, by rw [(hc 49 h49).1]; exact c, fun k hk => by rw [(hc 38 h2).1, (hc 58 h3).1]; exact d k hk⟩
theorem She.ch (h : She M) (hc : Ch P M M1) (h1 : ∀ o, 41 ≤ o → o ≤ 48 → ¬ P o) (h2 : ∀ o, 59 ≤ o → o ≤ 61 → ¬ P o) : She M1 := by
  intro s hs
  have a1 := hc (41 + 2 * s) (h1 _ (by omega) (by omega))
  have a2 := hc (41 + 2 * s + 1) (h1 _ (by omega) (by omega))
  have b1 := hc 59 (h2 _ (by decide) (by decide))
  have b2 := hc 60 (h2 _ (by decide) (by decide))
  have b3 := hc 61 (h2 _ (by decide) (by decide))
  obtain ⟨c1, c2, ⟨n, c3, c4, c5⟩, c6⟩ := h s hs
  exact ⟨by rw [a1.1, b1.1]; exact c1, by rw [b1.1]; exact c2, ⟨n, c3, by rw [a1.1]; exact c4, by rw [b2.1]; exact c5⟩, fun k hk => by rw [a2.2, b3.2]; exact c6 k hk⟩
end RC
/-- nothing that shows has changed -/
def hdC (o : Nat) : Prop := (9 ≤ o ∧ o ≤ 12) ∨ (20 ≤ o ∧ o ≤ 36) ∨ o = 39 ∨ o = 40 ∨ (52 ≤ o ∧ o ≤ 57) ∨ o = 62 ∨ o = 64
theorem RR.hid {M M1 : Mem} (h : RR M) (hc : Ch hdC M M1) : RR M1 := by
  obtain ⟨h1, h2, h3, h4, h5⟩ := h
  refine ⟨h1.ch hc (fun o a b => ?_) ?_, h2.ch hc ?_ ?_, h3.ch hc ?_ ?_ (fun o a b => ?_) ?_, h4.ch hc ?_ ?_ ?_ ?_, h5.ch hc (fun o a b => ?_) (fun o a b => ?_)⟩ <;> unfold hdC <;> omega
/-- the village is another one, all else that shows stays -/
def vlC (o : Nat) : Prop := (2 ≤ o ∧ o ≤ 12) ∨ o = 50 ∨ hdC o
theorem RR.vil {M M1 : Mem} {f z : Int32} {N : Nat} {U : Nat → Nat → Int32} (h : RR M) (hc : Ch vlC M M1) (hg : GV f N U) (hx : VX M1 2 f z N U) (hm : VM M1 50 f z N U) : RR M1 := by
  obtain ⟨h1, h2, h3, h4, h5⟩ := h
  refine ⟨⟨f, z, N, U, hg, hx, hm⟩, h2.ch hc ?_ ?_, h3.ch hc ?_ ?_ (fun o a b => ?_) ?_, h4.ch hc ?_ ?_ ?_ ?_, h5.ch hc (fun o a b => ?_) (fun o a b => ?_)⟩ <;> unfold vlC hdC <;> omega
def OpI (FX FM : Mem → Option (Int32 × Mem)) (M : Mem) : Prop := ∃ r M1 M2, FX M = some (r, M1) ∧ FM M1 = some (r, M2) ∧ RR M2
def OpJ (FX FM : Mem → Option (Int64 × Mem)) (M : Mem) : Prop := ∃ r M1 M2, FX M = some (r, M1) ∧ FM M1 = some (r, M2) ∧ RR M2
def OpP (FX FM : Mem → Option Int32) (M : Mem) : Prop := ∃ r, FX M = some r ∧ FM M = some r
theorem bn_eta {β : Type} (x : Option (β × Mem)) : bn x (fun r M => some (r, M)) = x := by
  cases x with
  | none => rfl
  | some q => rfl
/-! findings -/
theorem x_find {k : Nat} (hk : k < 7) (M : Mem) : F_X7_finding (nI k) M = some ((-1000000001 : Int32) - nI k, w_I M 1 k (m_I M 1 k + 1)) := by
  unfold F_X7_finding
  rw [ix_n hk (by decide), ix_n hk (by decide)]
  rfl
theorem fn_k : ∀ k, k < 7 → (-1000000001 : Int32) - ((-1000000001 : Int32) - nI k) = nI k := by decide +kernel
theorem m_find {k : Nat} (hk : k < 7) (M : Mem) : F_X8_finds ((-1000000001 : Int32) - nI k) M = some ((-1000000001 : Int32) - nI k, w_I M 51 k (m_I M 51 k + 1)) := by
  unfold F_X8_finds
  rw [fn_k k hk, ix_n hk (by decide), ix_n hk (by decide)]
  rfl
theorem RR_find {M : Mem} (h : RR M) (k : Nat) : RR (w_I (w_I M 1 k (m_I M 1 k + 1)) 51 k (m_I (w_I M 1 k (m_I M 1 k + 1)) 51 k + 1)) := by
  obtain ⟨h1, h2, h3, h4, h5⟩ := h
  have hc : Ch (fun o => o = 1 ∨ o = 51) M (w_I (w_I M 1 k (m_I M 1 k + 1)) 51 k (m_I (w_I M 1 k (m_I M 1 k + 1)) 51 k + 1)) := (Ch.w (Or.inl rfl)).tr (Ch.w (Or.inr rfl))
  refine ⟨h1.ch hc (fun o a b => by omega) (by omega), fun j hj => ?_, h3.ch hc (by omega) (by omega) (fun o a b => by omega) (by omega), h4.ch hc (by omega) (by omega) (by omega) (by omega), h5.ch hc (fun o a b => by omega) (fun o a b => by omega)⟩
  rw [m_wo (show 1 ≠ 51 by decide), m_wo (show 51 ≠ 1 by decide)]
  by_cases e : j = k
  · subst e
    rw [m_ws, m_ws, h2 j hj]
  · rw [m_wk e, m_wk e, m_wo (show 51 ≠ 1 by decide)]
    exact h2 j hj
/-- both answer the finding k -/
theorem op_f {M : Mem} (h : RR M) {k : Nat} (hk : k < 7) {FX FM : Mem → Option (Int32 × Mem)} (h1 : FX M = F_X7_finding (nI k) M) (h2 : ∀ M1, Ch (fun o => o = 1) M M1 → FM M1 = F_X8_finds ((-1000000001 : Int32) - nI k) M1) : OpI FX FM M :=
  ⟨_, _, _, h1.trans (x_find hk M), (h2 _ (Ch.w rfl)).trans (m_find hk _), RR_find h k⟩
/-- both read -/
theorem op_r {M : Mem} (h : RR M) {FX FM : Mem → Option (Int32 × Mem)} {r : Int32} (h1 : FX M = some (r, M)) (h2 : FM M = some (r, M)) : OpI FX FM M := ⟨r, M, M, h1, h2, h⟩
/-- both change the village -/
theorem op_v {M : Mem} (h : RR M) {FX FM : Mem → Option (Int32 × Mem)} {r : Int32} {M1 : Mem} {f z : Int32} {N : Nat} {U : Nat → Nat → Int32} (hg : GV f N U) (h1 : FX M = some (r, M1)) (hx : VX M1 2 f z N U) (hc : Ch vlC M M1) (h2 : ∃ M2, FM M1 = some (r, M2) ∧ VM M2 50 f z N U ∧ Ch (fun o => o = 50 ∨ (52 ≤ o ∧ o ≤ 57) ∨ o = 64) M1 M2) : OpI FX FM M := by
  obtain ⟨M2, a, b, c⟩ := h2
  exact ⟨r, M1, M2, h1, a, h.vil (hc.tr (c.wk (fun o q => by unfold vlC hdC; omega))) hg (hx.ch c (fun o a b => by omega)) b⟩
theorem VM.x {M M1 : Mem} {f z : Int32} {N : Nat} {U : Nat → Nat → Int32} (h : VM M 50 f z N U) (hc : Ch (fun o => o < 49) M M1) : VM M1 50 f z N U := h.ch hc (by omega)
theorem Ch.x1 {M M1 : Mem} (h : Ch (fun o => o = 1) M M1) : Ch (fun o => o < 49) M M1 := h.wk (fun o q => by omega)
