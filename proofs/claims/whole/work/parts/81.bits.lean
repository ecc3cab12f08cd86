/-! ### counts times lengths: the class -/
section RH
theorem sf_bitsL {N : Nat} {lv av : Nat → Int32} {c f : Nat → Nat} (hN : N ≤ 286) (h : ∀ k, k < N → lv k = nI (f k) ∧ av k = nI (c k)) : ∀ (d m i : Nat), N = i + d → d < m → pX2_bitsFor_b4 N N lv av m (nI (q_sum (fun s => c s * f s) i)) (nI i) = some (nI (q_sum (fun s => c s * f s) N)) := by
  intro d
  induction d with
  | zero =>
    intro m i hi hm
    obtain ⟨m, rfl⟩ : ∃ z, m = z + 1 := ⟨m - 1, by omega⟩
    rw [pX2_bitsFor_b4]
    dsimp only
    rw [qi_of, qf_le (by omega) (by omega), if_pos (by omega), show i = N by omega]
  | succ d ih =>
    intro m i hi hm
    obtain ⟨m, rfl⟩ : ∃ z, m = z + 1 := ⟨m - 1, by omega⟩
    obtain ⟨h1, h2⟩ := h i (by omega)
    rw [pX2_bitsFor_b4]
    dsimp only
    rw [qi_of, qf_le (by omega) (by omega), if_neg (by omega), qf_out (by omega), if_neg (by omega), qf_out (by omega), if_neg (by omega), nI_clamp (by omega), h1, h2, pk_mul, nI_add, nI_1]
    exact ih m (i + 1) (by omega) (by omega)
theorem sf_bitsFor {N : Nat} {lv av : Nat → Int32} {c f : Nat → Nat} (hN : N ≤ 286) (h : ∀ k, k < N → lv k = nI (f k) ∧ av k = nI (c k)) : pX2_bitsFor N N lv av = some (nI (q_sum (fun s => c s * f s) N)) := by
  unfold pX2_bitsFor
  have := sf_bitsL hN h N fb_F 0 (by omega) (by unfold fb_F; omega)
  rw [q_sum, nI_0] at this
  exact this
end RH
