/-! ### the last coded symbol -/
section RE
/-- one behind the last one below k that is not 0 -/
def q_la (f : Nat → Nat) : Nat → Nat
  | 0 => 0
  | k + 1 => if f k = 0 then q_la f k else k + 1
theorem q_la_le (f : Nat → Nat) : ∀ k, q_la f k ≤ k := by
  intro k
  induction k with
  | zero => exact Nat.le_refl 0
  | succ k ih => rw [q_la]; split <;> omega
theorem q_la_ge {f : Nat → Nat} {i : Nat} (hi : f i ≠ 0) : ∀ k, i < k → i + 1 ≤ q_la f k := by
  intro k
  induction k with
  | zero => intro h; omega
  | succ k ih =>
    intro h
    rw [q_la]
    by_cases w : f k = 0
    · rw [if_pos w]
      have : i ≠ k := fun e => hi (e ▸ w)
      exact ih (by omega)
    · rw [if_neg w]; omega
theorem q_dec (d : Nat) : nI d + (-1) = nI d - 1 := by
  rw [show (-1 : Int32) = 0 - 1 from rfl]
  grind
theorem sf_lastC {Ln : Nat} {lv : Nat → Int32} {f : Nat → Nat} (hL : Ln ≤ 288) : ∀ (d m : Nat), d ≤ Ln → d < m → (∀ k, k < d → lv k = nI (f k) ∧ f k ≤ 15) → pX2_lastCoded_b8 Ln lv m (nI d - 1) = some (nI (q_la f d) - 1) := by
  intro d
  induction d with
  | zero =>
    intro m hd hm h
    obtain ⟨m, rfl⟩ : ∃ z, m = z + 1 := ⟨m - 1, by omega⟩
    rw [pX2_lastCoded_b8]
    dsimp only
    rw [if_pos (show nI 0 - 1 < 0 by decide)]
    rfl
  | succ d ih =>
    intro m hd hm h
    obtain ⟨m, rfl⟩ : ∃ z, m = z + 1 := ⟨m - 1, by omega⟩
    obtain ⟨h1, h2⟩ := h d (by omega)
    rw [pX2_lastCoded_b8, nI_pred]
    dsimp only
    rw [if_neg (nI_pos (by omega)), qf_out (by omega), if_neg (by omega), nI_clamp (by omega), h1, q_la]
    by_cases w : f d = 0
    · rw [w, if_pos (show nI 0 = (0 : Int32) from rfl), if_pos rfl, q_dec]
      exact ih m (by omega) (by omega) (fun k hk => h k (by omega))
    · rw [if_neg (nI_ne0 (by omega) (by omega)), if_neg w, nI_pred]
theorem sf_lastM {An : Nat} {av : Nat → Int32} {f : Nat → Nat} (hA : An ≤ 80000) : ∀ (d m : Nat), d + 1 ≤ An → d < m → (∀ k, k < d + 1 → av k = nI (f k) ∧ f k ≤ 15) → pX11_lastOf_b4 An av m (nI d) = some (nI (max (q_la f (d + 1)) 1 - 1)) := by
  intro d
  induction d with
  | zero =>
    intro m hd hm h
    obtain ⟨m, rfl⟩ : ∃ z, m = z + 1 := ⟨m - 1, by omega⟩
    rw [pX11_lastOf_b4]
    dsimp only
    have := q_la_le f (0 + 1)
    rw [if_pos (show nI 0 ≤ 0 by decide), show max (q_la f (0 + 1)) 1 - 1 = 0 by omega]
  | succ d ih =>
    intro m hd hm h
    obtain ⟨m, rfl⟩ : ∃ z, m = z + 1 := ⟨m - 1, by omega⟩
    obtain ⟨h1, h2⟩ := h (d + 1) (by omega)
    rw [pX11_lastOf_b4]
    dsimp only
    rw [if_neg (nI_nle (by omega) (by omega)), qf_out (by omega), if_neg (by omega), nI_clamp (by omega), h1, q_la]
    by_cases w : f (d + 1) = 0
    · rw [w, if_pos (show nI 0 = (0 : Int32) from rfl), if_pos rfl, pk_m1]
      exact ih m (by omega) (by omega) (fun k hk => h k (by omega))
    · rw [if_neg (nI_ne0 (by omega) (by omega)), if_neg w, show max (d + 1 + 1) 1 - 1 = d + 1 by omega]
theorem q_ordM : ∀ k, k < 19 → pX11_orderOf (nI k) = some (fb_ord k) := by decide +kernel
theorem q_nbM : ∀ k, k < 19 → pX11_numberBits (nI k) = pX7_numberBitsOf (nI k) := by decide +kernel
end RE
