/-! ### symbols of lengths and distances -/
section QP
theorem q_sh : ∀ b, b < 16 → (((nI b) &&& 31).toBitVec.smod 32).toNat = b := by decide +kernel
theorem sf_cutL {x lm : Nat} (hx : x < 2 ^ 31) (hl : lm < 2 ^ 31) : ∀ (d m b : Nat), 15 = b + d → d < m → (∀ c, c < b → lm ≤ x / 2 ^ c) →
    ∃ b', b' ≤ 15 ∧ pX10_bitsToCut_b2 (nI x) (nI lm) m (nI b) = some (nI b') ∧ (b' = 15 ∨ x / 2 ^ b' < lm) ∧ ∀ c, c < b' → lm ≤ x / 2 ^ c := by
  intro d
  induction d with
  | zero =>
    intro m b hb hm h
    obtain ⟨m, rfl⟩ : ∃ z, m = z + 1 := ⟨m - 1, by omega⟩
    rw [pX10_bitsToCut_b2]
    dsimp only
    rw [show (15 : Int32) = nI 15 from rfl, qf_le (by omega) (by omega), if_pos (by omega)]
    exact ⟨b, by omega, rfl, Or.inl (by omega), h⟩
  | succ d ih =>
    intro m b hb hm h
    obtain ⟨m, rfl⟩ : ∃ z, m = z + 1 := ⟨m - 1, by omega⟩
    rw [pX10_bitsToCut_b2]
    dsimp only
    have hle : x / 2 ^ b ≤ x := Nat.div_le_self x _
    rw [show (15 : Int32) = nI 15 from rfl, qf_le (by omega) (by omega), if_neg (by omega), pk_shrN hx _ b (q_sh b (by omega)), qf_lt (by omega) (by omega)]
    by_cases c : x / 2 ^ b < lm
    · rw [if_pos c]
      exact ⟨b, by omega, rfl, Or.inr c, h⟩
    · rw [if_neg c, nI_1]
      refine ih m (b + 1) (by omega) (by omega) (fun e he => ?_)
      by_cases w : e = b
      · rw [w]; omega
      · exact h e (by omega)
theorem sf_cut {x lm : Nat} (hx : x < 2 ^ 31) (hl : lm < 2 ^ 31) : ∃ b, b ≤ 15 ∧ pX10_bitsToCut (nI x) (nI lm) = some (nI b) ∧ (b = 15 ∨ x / 2 ^ b < lm) ∧ ∀ c, c < b → lm ≤ x / 2 ^ c := by
  unfold pX10_bitsToCut
  have := sf_cutL hx hl 15 fb_F 0 (by omega) (by unfold fb_F; omega) (fun c hc => absurd hc (Nat.not_lt_zero c))
  rw [nI_0] at this
  exact this
/-- the last symbol below D whose first distance is not above n -/
def q_dsd (n : Nat) : Nat → Nat
  | 0 => 0
  | d + 1 => if q_df (d + 1) ≤ n then d + 1 else q_dsd n d
def q_dS (n : Nat) : Nat := q_dsd n 29
def q_lsd (n : Nat) : Nat → Nat
  | 0 => 0
  | d + 1 => if q_lf (d + 1) ≤ n then d + 1 else q_lsd n d
def q_lS (n : Nat) : Nat := q_lsd n 28
theorem q_dsd_le (n : Nat) : ∀ d, q_dsd n d ≤ d := by
  intro d
  induction d with
  | zero => exact Nat.le_refl 0
  | succ d ih => rw [q_dsd]; split <;> omega
theorem q_lsd_le (n : Nat) : ∀ d, q_lsd n d ≤ d := by
  intro d
  induction d with
  | zero => exact Nat.le_refl 0
  | succ d ih => rw [q_lsd]; split <;> omega
theorem q_dsd_eq {n d : Nat} : ∀ D, d ≤ D → q_df d ≤ n → (∀ e, d < e → e ≤ D → n < q_df e) → q_dsd n D = d := by
  intro D
  induction D with
  | zero => intro h _ _; rw [q_dsd]; omega
  | succ D ih =>
    intro h h1 h2
    rw [q_dsd]
    by_cases c : d = D + 1
    · rw [if_pos (by rw [← c]; exact h1), c]
    · rw [if_neg (Nat.not_le.mpr (h2 (D + 1) (by omega) (Nat.le_refl _)))]
      exact ih (by omega) h1 (fun e e1 e2 => h2 e e1 (by omega))
theorem q_lsd_eq {n d : Nat} : ∀ D, d ≤ D → q_lf d ≤ n → (∀ e, d < e → e ≤ D → n < q_lf e) → q_lsd n D = d := by
  intro D
  induction D with
  | zero => intro h _ _; rw [q_lsd]; omega
  | succ D ih =>
    intro h h1 h2
    rw [q_lsd]
    by_cases c : d = D + 1
    · rw [if_pos (by rw [← c]; exact h1), c]
    · rw [if_neg (Nat.not_le.mpr (h2 (D + 1) (by omega) (Nat.le_refl _)))]
      exact ih (by omega) h1 (fun e e1 e2 => h2 e e1 (by omega))
theorem q_df_mono : ∀ d, d < 30 → ∀ e, e < 30 → d ≤ e → q_df d ≤ q_df e := by decide +kernel
theorem q_lf_mono : ∀ d, d < 29 → ∀ e, e < 29 → d ≤ e → q_lf d ≤ q_lf e := by decide +kernel
theorem sf_dsR {n : Nat} (h1 : 1 ≤ n) (hn : n < 2 ^ 31) : ∀ (d m : Nat), d < 30 → d < m → pX11_distanceSymbol_b3 (nI n) m (nI d) = some (nI (q_dsd n d)) := by
  intro d
  induction d with
  | zero =>
    intro m hd hm
    obtain ⟨m, rfl⟩ : ∃ z, m = z + 1 := ⟨m - 1, by omega⟩
    rw [pX11_distanceSymbol_b3]
    have := (q_dbb 0 hd).2
    dsimp only
    rw [q_df2 0 hd, Option.bind_some, qf_le (by omega) (by omega), if_pos (show q_df 0 ≤ n from h1)]
    rfl
  | succ d ih =>
    intro m hd hm
    obtain ⟨m, rfl⟩ : ∃ z, m = z + 1 := ⟨m - 1, by omega⟩
    rw [pX11_distanceSymbol_b3, q_dsd]
    have := (q_dbb (d + 1) hd).2
    dsimp only
    rw [q_df2 (d + 1) hd, Option.bind_some, qf_le (by omega) (by omega)]
    by_cases c : q_df (d + 1) ≤ n
    · rw [if_pos c, if_pos c]
    · rw [if_neg c, if_neg c, pk_m1]
      exact ih m (by omega) (by omega)
theorem sf_lsR {n : Nat} (h1 : 3 ≤ n) (hn : n < 2 ^ 31) : ∀ (d m : Nat), d < 29 → d < m → pX11_lengthSymbol_b3 (nI n) m (nI d) = some (nI (q_lsd n d)) := by
  intro d
  induction d with
  | zero =>
    intro m hd hm
    obtain ⟨m, rfl⟩ : ∃ z, m = z + 1 := ⟨m - 1, by omega⟩
    rw [pX11_lengthSymbol_b3]
    have := (q_lbb 0 hd).2
    dsimp only
    rw [q_lf2 0 hd, Option.bind_some, qf_le (by omega) (by omega), if_pos (show q_lf 0 ≤ n from h1)]
    rfl
  | succ d ih =>
    intro m hd hm
    obtain ⟨m, rfl⟩ : ∃ z, m = z + 1 := ⟨m - 1, by omega⟩
    rw [pX11_lengthSymbol_b3, q_lsd]
    have := (q_lbb (d + 1) hd).2
    dsimp only
    rw [q_lf2 (d + 1) hd, Option.bind_some, qf_le (by omega) (by omega)]
    by_cases c : q_lf (d + 1) ≤ n
    · rw [if_pos c, if_pos c]
    · rw [if_neg c, if_neg c, pk_m1]
      exact ih m (by omega) (by omega)
theorem q_dbnd : ∀ b, b < 14 → ∀ y, y < 4 → (b = 0 ∨ 2 ≤ y) → 2 * b + y < 30 ∧ q_df (2 * b + y) = 1 + y * 2 ^ b ∧ q_db (2 * b + y) = b ∧ (2 * b + y < 29 → q_df (2 * b + y + 1) = 1 + (y + 1) * 2 ^ b) := by decide +kernel
theorem q_lbnd : ∀ b, b < 6 → ∀ y, y < 8 → (b = 0 ∨ 4 ≤ y) → 4 * b + y < 28 ∧ q_lf (4 * b + y) = 3 + y * 2 ^ b ∧ q_lb (4 * b + y) = b ∧ (4 * b + y < 27 → q_lf (4 * b + y + 1) = 3 + (y + 1) * 2 ^ b) := by decide +kernel
theorem sf_dS {n : Nat} (h1 : 1 ≤ n) (h2 : n ≤ 32768) : pX10_distanceSymbol (nI n) = some (nI (q_dS n)) ∧ pX11_distanceSymbol (nI n) = some (nI (q_dS n)) ∧ q_dS n < 30 ∧ q_df (q_dS n) ≤ n ∧ n < q_df (q_dS n) + 2 ^ q_db (q_dS n) := by
  obtain ⟨b, e1, e2, e3, e4⟩ := sf_cut (x := n - 1) (lm := 4) (by omega) (by omega)
  have hb : b < 14 := by
    apply Classical.byContradiction
    intro w
    have := e4 13 (by omega)
    have p : (2 : Nat) ^ 13 = 8192 := by decide
    rw [p] at this
    omega
  have h3 : (n - 1) / 2 ^ b < 4 := e3.elim (fun z => by omega) id
  have h4 : b = 0 ∨ 2 ≤ (n - 1) / 2 ^ b := by
    by_cases c : b = 0
    · exact Or.inl c
    · obtain ⟨a, rfl⟩ : ∃ a, b = a + 1 := ⟨b - 1, by omega⟩
      have := e4 a (by omega)
      right
      rw [Nat.pow_succ, ← Nat.div_div_eq_div_mul]
      omega
  obtain ⟨g1, g2, g5, g3⟩ := q_dbnd b hb _ h3 h4
  have hmod := Nat.div_add_mod (n - 1) (2 ^ b)
  have hlt := Nat.mod_lt (n - 1) (Nat.two_pow_pos b)
  rw [Nat.mul_comm] at hmod
  have g4 : n < 1 + ((n - 1) / 2 ^ b + 1) * 2 ^ b := by rw [Nat.add_mul]; omega
  have hd : q_dS n = 2 * b + (n - 1) / 2 ^ b := by
    unfold q_dS
    refine q_dsd_eq 29 (by omega) (by rw [g2]; omega) (fun e e5 e6 => ?_)
    have := q_df_mono (2 * b + (n - 1) / 2 ^ b + 1) (by omega) e (by omega) (by omega)
    rw [g3 (by omega)] at this
    omega
  refine ⟨?_, ?_, by omega, by rw [hd, g2]; omega, by rw [hd, g2, g5]; rw [Nat.add_mul] at g4; omega⟩
  · unfold pX10_distanceSymbol
    rw [show (1 : Int32) = nI 1 from rfl, pk_sub h1, show (4 : Int32) = nI 4 from rfl, e2, Option.bind_some, pk_shrN (by omega) _ b (q_sh b (by omega)), show (2 : Int32) = nI 2 from rfl, pk_mul, nI_add, hd]
  · unfold pX11_distanceSymbol q_dS
    exact sf_dsR h1 (by omega) 29 fb_F (by omega) (by unfold fb_F; omega)
theorem sf_lS {n : Nat} (h1 : 3 ≤ n) (h2 : n ≤ 258) : pX10_lengthSymbol (nI n) = some (nI (q_lS n)) ∧ pX11_lengthSymbol (nI n) = some (nI (q_lS n)) ∧ q_lS n < 29 ∧ q_lf (q_lS n) ≤ n ∧ n < q_lf (q_lS n) + 2 ^ q_lb (q_lS n) := by
  have hm : pX11_lengthSymbol (nI n) = some (nI (q_lS n)) := by
    unfold pX11_lengthSymbol q_lS
    exact sf_lsR h1 (by omega) 28 fb_F (by omega) (by unfold fb_F; omega)
  by_cases c : n = 258
  · subst c
    refine ⟨?_, hm, by decide +kernel, by decide +kernel, by decide +kernel⟩
    unfold pX10_lengthSymbol
    rw [if_pos (show nI 258 = (258 : Int32) from rfl)]
    rfl
  obtain ⟨b, e1, e2, e3, e4⟩ := sf_cut (x := n - 3) (lm := 8) (by omega) (by omega)
  have hb : b < 6 := by
    apply Classical.byContradiction
    intro w
    have := e4 5 (by omega)
    have p : (2 : Nat) ^ 5 = 32 := by decide
    rw [p] at this
    omega
  have h3 : (n - 3) / 2 ^ b < 8 := e3.elim (fun z => by omega) id
  have h4 : b = 0 ∨ 4 ≤ (n - 3) / 2 ^ b := by
    by_cases c : b = 0
    · exact Or.inl c
    · obtain ⟨a, rfl⟩ : ∃ a, b = a + 1 := ⟨b - 1, by omega⟩
      have := e4 a (by omega)
      right
      rw [Nat.pow_succ, ← Nat.div_div_eq_div_mul]
      omega
  obtain ⟨g1, g2, g5, g3⟩ := q_lbnd b hb _ h3 h4
  have hmod := Nat.div_add_mod (n - 3) (2 ^ b)
  have hlt := Nat.mod_lt (n - 3) (Nat.two_pow_pos b)
  rw [Nat.mul_comm] at hmod
  have g4 : n < 3 + ((n - 3) / 2 ^ b + 1) * 2 ^ b := by rw [Nat.add_mul]; omega
  have h28 : q_lf 28 = 258 := by decide
  have hd : q_lS n = 4 * b + (n - 3) / 2 ^ b := by
    unfold q_lS
    refine q_lsd_eq 28 (by omega) (by rw [g2]; omega) (fun e e5 e6 => ?_)
    by_cases w : 4 * b + (n - 3) / 2 ^ b < 27
    · have := q_lf_mono (4 * b + (n - 3) / 2 ^ b + 1) (by omega) e (by omega) (by omega)
      rw [g3 w] at this
      omega
    · have : e = 28 := by omega
      rw [this, h28]
      omega
  refine ⟨?_, hm, by omega, by rw [hd, g2]; omega, by rw [hd, g2, g5]; rw [Nat.add_mul] at g4; omega⟩
  unfold pX10_lengthSymbol
  rw [show (258 : Int32) = nI 258 from rfl, qf_eq (by omega) (by omega), if_neg c, show (3 : Int32) = nI 3 from rfl, pk_sub h1, show (8 : Int32) = nI 8 from rfl, e2, Option.bind_some, pk_shrN (by omega) _ b (q_sh b (by omega)), show (4 : Int32) = nI 4 from rfl, pk_mul, nI_add, hd]
end QP
