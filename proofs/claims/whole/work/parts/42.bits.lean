/-! ### bits of the loaded bytes -/
theorem bt_y : ∀ t, t < 256 → ∀ r, r < 8 → (yb t >>> (nI r &&& 31)) &&& 1 = nI (t / 2 ^ r % 2) := by decide +kernel
theorem bt_m : ∀ t, t < 256 → ∀ r, r < 8 → (nI t >>> (nI r &&& 31)) &&& 1 = nI (t / 2 ^ r % 2) := by decide +kernel
/-- bit i of the bytes that the reference holds in mv -/
def q_B (mv : Nat → Int32) (i : Nat) : Nat := (mv (i / 8)).toNatClampNeg / 2 ^ (i % 8) % 2
theorem q_B2 (mv : Nat → Int32) (i : Nat) : q_B mv i < 2 := Nat.mod_lt _ (by decide)
/-- the number of n bits from bit i on -/
def q_num (mv : Nat → Int32) (i : Nat) : Nat → Nat
  | 0 => 0
  | n + 1 => q_num mv i n + q_B mv (i + n) * 2 ^ n
theorem q_num_lt (mv : Nat → Int32) (i : Nat) : ∀ n, q_num mv i n < 2 ^ n
  | 0 => by show 0 < 1; decide
  | n + 1 => by
    have h := q_num_lt mv i n
    have h2 := q_B2 mv (i + n)
    have h3 : q_B mv (i + n) * 2 ^ n ≤ 1 * 2 ^ n := Nat.mul_le_mul_right _ (by omega)
    show q_num mv i n + q_B mv (i + n) * 2 ^ n < 2 ^ (n + 1)
    rw [Nat.pow_succ]
    omega
theorem nx_or (a b : Nat) : nI a ||| nI b = nI (a ||| b) := by
  apply Int32.toBitVec_inj.mp
  apply BitVec.eq_of_getLsbD_eq
  intro i hi
  simp [nI, Int32.toBitVec_ofNat', BitVec.getLsbD_ofNat, hi]
theorem q_orN {a b j : Nat} (ha : a < 2 ^ j) : nI a ||| nI (b * 2 ^ j) = nI (a + b * 2 ^ j) := by
  rw [nx_or]
  congr 1
  have h := Nat.two_pow_add_eq_or_of_lt ha b
  rw [Nat.mul_comm b, Nat.or_comm, ← h, Nat.add_comm]
theorem q_shN : ∀ b, b < 2 → ∀ j, j < 17 → nI b <<< (nI j &&& 31) = nI (b * 2 ^ j) := by decide +kernel
section QB
variable {n k : Nat} {v mv : Nat → Int32}
theorem q_div8 {i : Nat} (hi : i < 2 ^ 31) : nI i / (8 : Int32) = nI (i / 8) := pk_div hi (by decide) (by decide)
theorem q_rem8 {i : Nat} (hi : i < 2 ^ 31) : nI i - nI i / (8 : Int32) * (8 : Int32) = nI (i % 8) := pk_rem hi (by decide) (by decide)
theorem sf_next (hn : n ≤ 80000) (hk : k ≤ n) (h : ∀ j, j < k → ∃ t : Nat, t < 256 ∧ v j = yb t ∧ mv j = nI t) {i : Nat} (hi : i ≤ 8 * k) :
    pX0_next n (nI (8 * k)) v (nI i) = if i < 8 * k then some (nI (q_B mv i), nI (i + 1)) else some (-1, nI i) := by
  unfold pX0_next
  simp (disch := omega) only [qi_lt, q_div8, qi_lt0, nI_clamp, false_or, nI_clamp]
  by_cases c : i < 8 * k
  · obtain ⟨t, ht, e1, e2⟩ := h (i / 8) (by omega)
    have e8 := q_rem8 (i := i) (by omega)
    rw [q_div8 (by omega)] at e8
    rw [if_pos c, if_pos c, if_neg (by omega), e8, e1, bt_y t ht (i % 8) (Nat.mod_lt _ (by decide)), nI_1]
    unfold q_B
    rw [e2, nI_clamp (by omega)]
  · simp only [if_neg c]
theorem sf_numL (hn : n ≤ 80000) (hk : k ≤ n) (h : ∀ j, j < k → ∃ t : Nat, t < 256 ∧ v j = yb t ∧ mv j = nI t) {i b : Nat} (hb : b ≤ 16) (hi : i + b ≤ 8 * k) : ∀ (d m j : Nat), b = j + d → d < m →
    pX0_number_b27 n (nI (8 * k)) v (nI b) m (nI (i + j)) (nI (q_num mv i j)) (nI j) = some (nI (q_num mv i b), nI (i + b)) := by
  intro d
  induction d with
  | zero =>
    intro m j hj hm
    obtain ⟨m, rfl⟩ : ∃ z, m = z + 1 := ⟨m - 1, by omega⟩
    have e : j = b := by omega
    subst e
    rw [pX0_number_b27]
    dsimp only
    simp (disch := omega) only [qi_le, if_pos]
  | succ d ih =>
    intro m j hj hm
    obtain ⟨m, rfl⟩ : ∃ z, m = z + 1 := ⟨m - 1, by omega⟩
    rw [pX0_number_b27]
    simp (disch := omega) only [qi_le, if_neg]
    rw [sf_next hn hk h (i := i + j) (by omega), if_pos (by omega)]
    show pX0_number_b27 n (nI (8 * k)) v (nI b) m (nI (i + j + 1)) (nI (q_num mv i j) ||| (nI (q_B mv (i + j)) <<< (nI j &&& 31))) (nI j + 1) = _
    rw [q_shN _ (q_B2 mv _) j (by omega), q_orN (q_num_lt mv i j), nI_1]
    exact ih m (j + 1) (by omega) (by omega)
theorem sf_number (hn : n ≤ 80000) (hk : k ≤ n) (h : ∀ j, j < k → ∃ t : Nat, t < 256 ∧ v j = yb t ∧ mv j = nI t) {i b : Nat} (hb : b ≤ 16) (hi : i ≤ 8 * k) :
    pX0_number n (nI (8 * k)) v (nI b) (nI i) = if i + b ≤ 8 * k then some (nI (q_num mv i b), nI (i + b)) else some (-1, nI (8 * k)) := by
  unfold pX0_number
  simp (disch := omega) only [pk_sub, qi_le]
  by_cases c : i + b ≤ 8 * k
  · simp (disch := omega) only [if_pos c, if_pos]
    obtain ⟨m, hm⟩ := fb_F_gt (n := b) (by omega)
    exact sf_numL hn hk h hb c b fb_F 0 (by omega) (by omega)
  · simp (disch := omega) only [if_neg c, if_neg]
/-! the reference's way to take bits -/
theorem sf_tkS {N m : Nat} {s p f x y b : Int32} (hf : ¬ f = 0) : pX11_take__b4 N s mv b (m + 1) p f x y = some (x, p, f) := by
  rw [pX11_take__b4]
  dsimp only
  by_cases q : b ≤ y
  · rw [if_pos q]
  · rw [if_neg q, if_neg hf]
theorem sf_tkL {N : Nat} (hN : k ≤ N) (hk : k ≤ 80000) (h : ∀ j, j < k → ∃ t : Nat, t < 256 ∧ mv j = nI t) {i b : Nat} (hb : b ≤ 16) (hi : i ≤ 8 * k) : ∀ (d m j : Nat), b = j + d → d + 1 < m → i + j ≤ 8 * k →
    pX11_take__b4 N (nI k) mv (nI b) m (nI (i + j)) 0 (nI (q_num mv i j)) (nI j) = if i + b ≤ 8 * k then some (nI (q_num mv i b), nI (i + b), 0) else some (nI (q_num mv i (8 * k - i)), nI (8 * k), 1) := by
  intro d
  induction d with
  | zero =>
    intro m j hj hm hij
    obtain ⟨m, rfl⟩ : ∃ z, m = z + 1 := ⟨m - 1, by omega⟩
    have e : j = b := by omega
    subst e
    rw [pX11_take__b4]
    dsimp only
    simp (disch := omega) only [qi_le, if_pos]
  | succ d ih =>
    intro m j hj hm hij
    obtain ⟨m, rfl⟩ : ∃ z, m = z + 1 := ⟨m - 1, by omega⟩
    rw [pX11_take__b4]
    simp only [eq_self, if_true]
    simp (disch := omega) only [qi_le, if_neg, (show (8 : Int32) = nI 8 from rfl), pk_mul, qi_eq]
    by_cases c : i + j = 8 * k
    · rw [if_pos c]
      obtain ⟨m, rfl⟩ : ∃ z, m = z + 1 := ⟨m - 1, by omega⟩
      have e : 8 * k - i = j := by omega
      have hs : ∀ y : Int32, pX11_take__b4 N (nI k) mv (nI b) (m + 1) (nI (i + j)) 1 (nI (q_num mv i j)) y = some (nI (q_num mv i j), nI (i + j), 1) := fun y => sf_tkS (by decide)
      have hno : ¬ i + b ≤ 8 * k := by omega
      rw [if_neg hno, e, ← c]
      exact hs _
    · simp only [if_neg c]
      obtain ⟨t, ht, e2⟩ := h ((i + j) / 8) (by omega)
      have e8 := q_rem8 (i := i + j) (by omega)
      rw [q_div8 (by omega)] at e8
      rw [show nI 8 = (8 : Int32) from rfl]
      simp (disch := omega) only [q_div8, qi_lt0, nI_clamp, false_or, if_neg, nI_clamp, e8, e2, bt_m t ht _ (Nat.mod_lt _ (by decide)), nI_1]
      have eB : t / 2 ^ ((i + j) % 8) % 2 = q_B mv (i + j) := by
        unfold q_B
        rw [e2, nI_clamp (by omega)]
      rw [eB, q_shN _ (q_B2 mv _) j (by omega), q_orN (q_num_lt mv i j)]
      exact ih m (j + 1) (by omega) (by omega) (by omega)
theorem sf_tk {N : Nat} (hN : k ≤ N) (hk : k ≤ 80000) (h : ∀ j, j < k → ∃ t : Nat, t < 256 ∧ mv j = nI t) {i b : Nat} (hb : b ≤ 16) (hi : i ≤ 8 * k) :
    pX11_take_ N (nI k) mv (nI b) (nI i) 0 = if i + b ≤ 8 * k then some (nI (q_num mv i b), nI (i + b), 0) else some (nI (q_num mv i (8 * k - i)), nI (8 * k), 1) := by
  unfold pX11_take_
  obtain ⟨m, hm⟩ := fb_F_gt (n := b) (by omega)
  exact sf_tkL hN hk h hb hi b fb_F 0 (by omega) (by unfold fb_F; omega) hi
theorem sf_tkF {N : Nat} {f s p : Int32} (hf : ¬ f = 0) {b : Nat} : pX11_take_ N s mv (nI b) p f = some (0, p, f) := by
  unfold pX11_take_
  exact sf_tkS (m := 4294967295) hf
end QB
