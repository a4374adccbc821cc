/-! ===== READING A VILLAGE: THE REFERENCE'S START ===== -/
section JW
variable {T : Nat} {B : Nat → Nat}
theorem y_start (hT : BB T B) {W : Mem} {f z : Int32} {N : Nat} {U : Nat → Nat → Int32} (vm : VM W 50 f z N U) (hm : MB W T B) : ∃ Y0 Y, F_X8_village W = F_X8_village_23 FU (nI (1 - 1)) (1 : Int32) Y0 ∧ F_X8_advance Y0 = some Y ∧ FrY Y0 Y ∧ MB Y T B ∧ TM T B Y (sk B (T - 0) 0) ∧ m_I Y 49 15 = 1 ∧ VM Y 50 f z N U ∧ (∀ k, k < 51 → m_I Y0 64 k = m_I W 50 k) ∧ Ch (fun o => o = 64 ∨ o = 49) W Y0 ∧ ∀ q, q < 10 ∨ 15 < q → m_I Y0 49 q = m_I W 49 q := by
  obtain ⟨M2, a1, a2, a3⟩ := m_keep (M := W) (a := 64) (by decide)
  have c2 : Ch (fun o => o = 64 ∨ o = 49) W (w_I (w_I M2 49 12 0) 49 15 1) := ((a3.wk (fun o q => Or.inl q)).tr (Ch.w (P := fun o => o = 64 ∨ o = 49) (Or.inr rfl))).tr (Ch.w (P := fun o => o = 64 ∨ o = 49) (Or.inr rfl))
  have m49 : ∀ q, q ≠ 12 → q ≠ 15 → m_I (w_I (w_I M2 49 12 0) 49 15 1) 49 q = m_I W 49 q := fun q q1 q2 => by rw [m_wk q2, m_wk q1, (a3 49 (by omega)).1]
  have hm1 : MB (w_I (w_I M2 49 12 0) 49 15 1) T B := hm.c (m49 9 (by decide) (by decide)) (fun k => (c2 58 (by omega)).1 k)
  obtain ⟨Y, b1, b2, b3, b4⟩ := m_step hT hm1 (e := 0) (by omega) (by rw [m_wk (show 12 ≠ 15 by decide), m_ws]; exact nI_0.symm)
  refine ⟨_, Y, ?_, b1, FrY.of b3 b4, hm1.c (b3 9 (by omega)) (fun k => (b4 58 (by omega)).1 k), b2, by rw [b3 15 (by omega), m_ws], (vm.ch c2 (by omega)).ch b4 (by omega), fun k hk => ?_, c2, fun q hq => m49 q (by omega) (by omega)⟩
  · unfold F_X8_village
    rw [a1, Option.bind_some, pin, pin, show nI (1 - 1) = (0 : Int32) from rfl]
  · rw [m_wo (show 64 ≠ 49 by decide), m_wo (show 64 ≠ 49 by decide), a2 k hk]
end JW
