/-! ### how far a run goes -/
section RI
def q_rn (w : Nat → Nat) (p : Nat) : Nat → Nat → Nat
  | 0, e => e
  | d + 1, e => if w (p + e) = w p then q_rn w p d (e + 1) else e
theorem q_rn_b (w : Nat → Nat) (p : Nat) : ∀ d e, e ≤ q_rn w p d e ∧ q_rn w p d e ≤ e + d := by
  intro d
  induction d with
  | zero => intro e; exact ⟨Nat.le_refl e, Nat.le_refl e⟩
  | succ d ih =>
    intro e
    rw [q_rn]
    split
    · have := ih (e + 1); omega
    · omega
theorem sf_runC {Rn n p : Nat} {rv : Nat → Int32} {w : Nat → Nat} (hn : n ≤ Rn) (hR : Rn ≤ 80000) (h : ∀ k, k < n → rv k = nI (w k) ∧ w k ≤ 15) : ∀ (d m e : Nat), n = p + e + d → 1 ≤ e → d < m → pX7_runFrom_b4 Rn (nI n) rv (nI p) m (nI (p + e)) = some (nI (q_rn w p d e)) := by
  intro d
  induction d with
  | zero =>
    intro m e he he1 hm
    obtain ⟨m, rfl⟩ : ∃ z, m = z + 1 := ⟨m - 1, by omega⟩
    rw [pX7_runFrom_b4]
    dsimp only
    rw [qf_le (by omega) (by omega), if_pos (by omega), pk_sub (by omega), show p + e - p = e by omega]
    rfl
  | succ d ih =>
    intro m e he he1 hm
    obtain ⟨m, rfl⟩ : ∃ z, m = z + 1 := ⟨m - 1, by omega⟩
    obtain ⟨h1, h2⟩ := h (p + e) (by omega)
    obtain ⟨h3, h4⟩ := h p (by omega)
    rw [pX7_runFrom_b4]
    dsimp only
    rw [qf_le (by omega) (by omega), if_neg (by omega), qf_out (by omega), if_neg (by omega), qf_out (by omega), if_neg (by omega), nI_clamp (by omega), nI_clamp (by omega), h1, h3, qf_eq (by omega) (by omega), q_rn]
    by_cases c : w (p + e) = w p
    · rw [if_pos c, if_pos c, nI_1, Nat.add_assoc]
      exact ih m (e + 1) (by omega) (by omega) (by omega)
    · rw [if_neg c, if_neg c, pk_sub (by omega), show p + e - p = e by omega]
theorem sf_runM {Rn n p Ts Tn : Nat} {rv ts tn : Nat → Int32} {w : Nat → Nat} {told : Int32} (hn : n ≤ Rn) (hR : Rn ≤ 80000) (h : ∀ k, k < n → rv k = nI (w k) ∧ w k ≤ 15) (K : Int32 → (Nat → Int32) → (Nat → Int32) → Int32 → Option (Int32 × (Nat → Int32) × (Nat → Int32))) : ∀ (d m e : Nat), n = p + e + d → 1 ≤ e → d < m → pX11_tellRow_b14 Rn Ts Tn rv (nI n) K m told ts tn (nI p) (nI e) = pX11_tellRow_b44 Rn Ts Tn rv K told ts tn (nI p) (nI (q_rn w p d e)) := by
  intro d
  induction d with
  | zero =>
    intro m e he he1 hm
    obtain ⟨m, rfl⟩ : ∃ z, m = z + 1 := ⟨m - 1, by omega⟩
    rw [pX11_tellRow_b14]
    dsimp only
    rw [nI_add, qf_le (by omega) (by omega), if_pos (by omega)]
    rfl
  | succ d ih =>
    intro m e he he1 hm
    obtain ⟨m, rfl⟩ : ∃ z, m = z + 1 := ⟨m - 1, by omega⟩
    obtain ⟨h1, h2⟩ := h (p + e) (by omega)
    obtain ⟨h3, h4⟩ := h p (by omega)
    rw [pX11_tellRow_b14]
    dsimp only
    rw [nI_add, qf_le (by omega) (by omega), if_neg (by omega), qf_out (by omega), if_neg (by omega), qf_out (by omega), if_neg (by omega), nI_clamp (by omega), nI_clamp (by omega), h1, h3, qf_eq (by omega) (by omega), q_rn]
    by_cases c : w (p + e) = w p
    · rw [if_pos c, if_pos c, nI_1]
      exact ih m (e + 1) (by omega) (by omega) (by omega)
    · rw [if_neg c, if_neg c]
end RI
