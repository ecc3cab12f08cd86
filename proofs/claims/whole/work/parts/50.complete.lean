/-! ### complete lengths, one alone, none -/
def q_U (f : Nat → Nat) (n : Nat) : Nat → Nat
  | 0 => 0
  | l + 1 => 2 * q_U f n l + q_c f n (l + 1)
theorem q_U_le (f : Nat → Nat) (n : Nat) : ∀ l, q_U f n l + n ≤ n * 2 ^ l
  | 0 => by simp [q_U]
  | l + 1 => by
    have h1 := q_U_le f n l
    have h2 := q_c_le f n (l + 1)
    show 2 * q_U f n l + q_c f n (l + 1) + n ≤ n * 2 ^ (l + 1)
    rw [Nat.pow_succ, ← Nat.mul_assoc]
    omega
theorem q_U0 (f : Nat → Nat) : ∀ l, q_U f 0 l = 0
  | 0 => rfl
  | l + 1 => by
    show 2 * q_U f 0 l + q_c f 0 (l + 1) = 0
    rw [q_U0 f l, q_c0]
theorem q_Us (f : Nat → Nat) (n : Nat) : ∀ l, q_U f (n + 1) l = q_U f n l + (if f n ≠ 0 ∧ f n ≤ l then 2 ^ (l - f n) else 0)
  | 0 => by
    show 0 = 0 + _
    rw [if_neg (by omega)]
  | l + 1 => by
    have h := q_Us f n l
    show 2 * q_U f (n + 1) l + q_c f (n + 1) (l + 1) = 2 * q_U f n l + q_c f n (l + 1) + _
    rw [h, q_cs]
    by_cases c1 : f n = l + 1
    · rw [if_neg (by omega), if_pos (by omega), if_pos (by omega), c1, Nat.sub_self]
      omega
    · by_cases c2 : f n ≠ 0 ∧ f n ≤ l
      · rw [if_pos c2, if_neg (by omega), if_pos (by omega)]
        have e : l + 1 - f n = (l - f n) + 1 := by omega
        rw [e, Nat.pow_succ]
        omega
      · rw [if_neg c2, if_neg (by omega), if_neg (by omega)]
        omega
theorem q_ring (a b c : Int32) : 2 * (a - b) - c = 2 * a - (2 * b + c) := by grind
theorem q_sub0 (a b : Int32) : (a - b = 0) ↔ (a = b) := by grind
section QC
variable {n A : Nat} {of ov : Nat → Int32} {f : Nat → Nat}
theorem sf_complL (hn : n ≤ 288) (hof : ∀ l, l < 16 → of l = nI (q_c f n l)) : ∀ (d m l : Nat), 15 = l + d → d + 1 < m → pX2_areComplete_b4 16 of m (nI (2 ^ l) - nI (q_U f n l)) (nI (l + 1)) = some (if q_U f n 15 = 32768 then 1 else 0) := by
  have hb : q_U f n 15 ≤ 288 * 32768 := by
    have h1 := q_U_le f n 15
    have h2 : n * 2 ^ 15 ≤ 288 * 2 ^ 15 := Nat.mul_le_mul_right _ hn
    omega
  intro d
  induction d with
  | zero =>
    intro m l hl hm
    obtain ⟨m, rfl⟩ : ∃ z, m = z + 1 := ⟨m - 1, by omega⟩
    have e : l = 15 := by omega
    subst e
    rw [pX2_areComplete_b4]
    dsimp only
    rw [if_pos (by decide)]
    have e : (nI (2 ^ 15) - nI (q_U f n 15) = 0) ↔ q_U f n 15 = 32768 := by
      rw [q_sub0, nI_eq (by omega) (by omega)]
      omega
    by_cases c : q_U f n 15 = 32768
    · rw [if_pos (e.mpr c), if_pos c]
    · rw [if_neg (fun z => c (e.mp z)), if_neg c]
  | succ d ih =>
    intro m l hl hm
    obtain ⟨m, rfl⟩ : ∃ z, m = z + 1 := ⟨m - 1, by omega⟩
    rw [pX2_areComplete_b4]
    dsimp only
    rw [show (15 : Int32) = nI 15 from rfl, qf_lt (by omega) (by omega), if_neg (by omega), qf_out (by omega), if_neg (by omega), nI_clamp (by omega), hof (l + 1) (by omega), nI_1, q_ring, show (2 : Int32) = nI 2 from rfl, pk_mul, pk_mul, nI_add]
    have e1 : 2 * 2 ^ l = 2 ^ (l + 1) := by rw [Nat.pow_succ]; omega
    rw [e1]
    exact ih m (l + 1) (by omega) (by omega)
theorem sf_compl (hn : n ≤ 288) (hof : ∀ l, l < 16 → of l = nI (q_c f n l)) : pX2_areComplete 16 of = some (if q_U f n 15 = 32768 then 1 else 0) := by
  unfold pX2_areComplete
  have hF : 15 + 1 < fb_F := by unfold fb_F; omega
  generalize fb_F = F at hF ⊢
  have e := sf_complL hn hof 15 F 0 (by omega) hF
  have e0 : nI (2 ^ 0) - nI (q_U f n 0) = (1 : Int32) := by
    show nI 1 - nI 0 = 1
    decide
  rw [e0, show nI (0 + 1) = (1 : Int32) from rfl] at e
  exact e
theorem q_sh15 : ∀ x, x ≤ 15 → (1 : Int32) <<< ((15 - nI x) &&& 31) = nI (2 ^ (15 - x)) := by decide +kernel
theorem sf_isCL (hn : n ≤ 288) (hA : n ≤ A) (h : ∀ j, j < n → ov j = nI (f j) ∧ f j ≤ 15) : ∀ (d m i : Nat), n = i + d → d < m → pX11_isComplete_b4 A ov (nI n) m (nI (q_U f i 15)) (nI i) = some (if q_U f n 15 = 32768 then 1 else 0) := by
  have hb : ∀ i, i ≤ n → q_U f i 15 ≤ 288 * 32768 := by
    intro i hi
    have h1 := q_U_le f i 15
    have h2 : i * 2 ^ 15 ≤ 288 * 2 ^ 15 := Nat.mul_le_mul_right _ (by omega)
    omega
  intro d
  induction d with
  | zero =>
    intro m i hi hm
    obtain ⟨m, rfl⟩ : ∃ z, m = z + 1 := ⟨m - 1, by omega⟩
    have e : i = n := by omega
    subst e
    have hbi := hb i (Nat.le_refl i)
    rw [pX11_isComplete_b4]
    dsimp only
    rw [if_pos (nI_le (Nat.le_refl i) (by omega)), show (32768 : Int32) = nI 32768 from rfl, qf_eq (by omega) (by omega)]
    by_cases c : q_U f i 15 = 32768
    · rw [if_pos c, if_pos c]
    · rw [if_neg c, if_neg c]
  | succ d ih =>
    intro m i hi hm
    obtain ⟨m, rfl⟩ : ∃ z, m = z + 1 := ⟨m - 1, by omega⟩
    obtain ⟨e1, e2⟩ := h i (by omega)
    have hs := q_Us f i 15
    rw [pX11_isComplete_b4]
    dsimp only
    rw [qf_le (by omega) (by omega), if_neg (by omega), qf_out (by omega), if_neg (by omega), nI_clamp (by omega), e1, nI_1]
    by_cases c : f i = 0
    · rw [if_neg (by omega)] at hs
      rw [c, if_pos (by decide), show (0 : Int32) = nI 0 from rfl, nI_add, Nat.add_zero, ← Nat.add_zero (q_U f i 15), ← hs]
      exact ih m (i + 1) (by omega) (by omega)
    · rw [if_pos ⟨c, e2⟩] at hs
      rw [if_neg (nI_nle (by omega) (by omega)), if_neg (show ¬ (nI i < 0 ∨ A ≤ i) from fun z => z.elim (nI_pos (by omega)) (by omega)), q_sh15 (f i) e2, nI_add, ← hs]
      exact ih m (i + 1) (by omega) (by omega)
theorem sf_isC (hn : n ≤ 288) (hA : n ≤ A) (h : ∀ j, j < n → ov j = nI (f j) ∧ f j ≤ 15) : pX11_isComplete A ov (nI n) = some (if q_U f n 15 = 32768 then 1 else 0) := by
  unfold pX11_isComplete
  have e := sf_isCL hn hA h n fb_F 0 (by omega) (by unfold fb_F; omega)
  rw [q_U0, nI_0] at e
  exact e
theorem sf_manyL (hn : n ≤ 288) (hA : n ≤ A) (h : ∀ j, j < n → ov j = nI (f j) ∧ f j ≤ 15) {l : Nat} (hl : l ≤ 15) : ∀ (d m i : Nat), n = i + d → d < m → pX11_howMany_b5 A ov (nI n) (nI l) m (nI (q_cnt f l i)) (nI i) = some (nI (q_cnt f l n)) := by
  intro d
  induction d with
  | zero =>
    intro m i hi hm
    obtain ⟨m, rfl⟩ : ∃ z, m = z + 1 := ⟨m - 1, by omega⟩
    have e : i = n := by omega
    subst e
    rw [pX11_howMany_b5]
    dsimp only
    rw [if_pos (nI_le (Nat.le_refl i) (by omega))]
  | succ d ih =>
    intro m i hi hm
    obtain ⟨m, rfl⟩ : ∃ z, m = z + 1 := ⟨m - 1, by omega⟩
    obtain ⟨e1, e2⟩ := h i (by omega)
    have hs : q_cnt f l (i + 1) = q_cnt f l i + (if f i = l then 1 else 0) := rfl
    rw [pX11_howMany_b5]
    dsimp only
    rw [qf_le (by omega) (by omega), if_neg (by omega), qf_out (by omega), if_neg (by omega), nI_clamp (by omega), e1, qf_eq (by omega) (by omega), nI_1, nI_1]
    by_cases c : f i = l
    · rw [if_pos c] at hs
      rw [if_pos c, ← hs]
      exact ih m (i + 1) (by omega) (by omega)
    · rw [if_neg c] at hs
      rw [if_neg c, show (0 : Int32) = nI 0 from rfl, nI_add, ← hs]
      exact ih m (i + 1) (by omega) (by omega)
theorem sf_many (hn : n ≤ 288) (hA : n ≤ A) (h : ∀ j, j < n → ov j = nI (f j) ∧ f j ≤ 15) {l : Nat} (hl : l ≤ 15) : pX11_howMany A ov (nI n) (nI l) = some (nI (q_cnt f l n)) := by
  unfold pX11_howMany
  have e := sf_manyL hn hA h hl n fb_F 0 (by omega) (by unfold fb_F; omega)
  rw [show nI (q_cnt f l 0) = 0 from nI_0, nI_0] at e
  exact e
theorem q_01 (f : Nat → Nat) : ∀ n, q_cnt f 0 n + q_cnt f 1 n ≤ n ∧ (q_mx f n ≤ 1 ↔ q_cnt f 0 n + q_cnt f 1 n = n)
  | 0 => ⟨Nat.le_refl 0, by simp [q_mx, q_cnt]⟩
  | n + 1 => by
    obtain ⟨h1, h2⟩ := q_01 f n
    have e0 : q_cnt f 0 (n + 1) = q_cnt f 0 n + (if f n = 0 then 1 else 0) := rfl
    have e1 : q_cnt f 1 (n + 1) = q_cnt f 1 n + (if f n = 1 then 1 else 0) := rfl
    have e2 : q_mx f (n + 1) = if q_mx f n < f n then f n else q_mx f n := rfl
    by_cases c0 : f n = 0
    · rw [if_pos c0] at e0
      rw [if_neg (by omega)] at e1 e2
      rw [e0, e1, e2]
      exact ⟨by omega, by rw [h2]; omega⟩
    · rw [if_neg c0] at e0
      by_cases c1 : f n = 1
      · rw [if_pos c1] at e1
        rw [e0, e1, e2]
        refine ⟨by omega, ?_⟩
        by_cases c2 : q_mx f n < f n
        · rw [if_pos c2, c1]
          have := h2.mp (by omega)
          omega
        · rw [if_neg c2, h2]
          omega
      · rw [if_neg c1] at e1
        rw [e0, e1, e2]
        refine ⟨by omega, ?_⟩
        by_cases c2 : q_mx f n < f n
        · rw [if_pos c2]
          omega
        · rw [if_neg c2]
          omega
theorem q_mx0 (f : Nat → Nat) : ∀ n, q_mx f n = 0 ↔ q_cnt f 0 n = n
  | 0 => by simp [q_mx, q_cnt]
  | n + 1 => by
    have h := q_mx0 f n
    have hle := q_cnt_le f 0 n
    have e0 : q_cnt f 0 (n + 1) = q_cnt f 0 n + (if f n = 0 then 1 else 0) := rfl
    have e2 : q_mx f (n + 1) = if q_mx f n < f n then f n else q_mx f n := rfl
    by_cases c0 : f n = 0
    · rw [if_pos c0] at e0
      rw [if_neg (by omega)] at e2
      rw [e0, e2, h]
      omega
    · rw [if_neg c0] at e0
      rw [e0, e2]
      split <;> omega
def q_one (f : Nat → Nat) (n : Nat) : Prop := q_mx f n = 1 ∧ q_cnt f 1 n = 1
theorem q_one_iff (f : Nat → Nat) {n : Nat} (hn : 0 < n) : q_one f n ↔ (q_cnt f 1 n = 1 ∧ q_cnt f 0 n = n - 1) := by
  obtain ⟨h1, h2⟩ := q_01 f n
  unfold q_one
  constructor
  · rintro ⟨a, b⟩
    have := h2.mp (by omega)
    exact ⟨b, by omega⟩
  · rintro ⟨a, b⟩
    have h3 := h2.mpr (by omega)
    obtain ⟨k, k1, k2, -⟩ := q_cnt_sel (f := f) (l := 1) (n := n) (r := 0) (by omega)
    have h4 := q_mx_ge (f := f) k1
    exact ⟨by omega, a⟩
theorem sf_isOne (hn0 : 0 < n) (hn : n ≤ 288) (hA : n ≤ A) (h : ∀ j, j < n → ov j = nI (f j) ∧ f j ≤ 15) : ∃ r, pX11_isOne A ov (nI n) = some r ∧ (r = 0 ∨ r = 1) ∧ (r = 0 ↔ ¬ q_one f n) := by
  have hl0 := q_cnt_le f 0 n
  have hl1 := q_cnt_le f 1 n
  unfold pX11_isOne
  rw [show (1 : Int32) = nI 1 from rfl, show (0 : Int32) = nI 0 from rfl, sf_many hn hA h (by omega), sf_many hn hA h (by omega), Option.bind_some, qf_eq (by omega) (by omega), pk_sub (by omega), Option.bind_some, qf_eq (by omega) (by omega), q_one_iff f hn0]
  by_cases c1 : q_cnt f 1 n = 1
  · rw [if_pos c1]
    by_cases c2 : q_cnt f 0 n = n - 1
    · rw [if_pos c2]
      exact ⟨1, rfl, Or.inr rfl, fun z => absurd z (by decide), fun z => absurd ⟨c1, c2⟩ z⟩
    · rw [if_neg c2]
      exact ⟨0, rfl, Or.inl rfl, fun _ z => c2 z.2, fun _ => rfl⟩
  · rw [if_neg c1]
    exact ⟨0, rfl, Or.inl rfl, fun _ z => c1 z.1, fun _ => rfl⟩
theorem sf_alone (hn : n ≤ 288) (hm : q_mx f n ≤ 15) (hof : ∀ l, l < 16 → of l = nI (q_c f n l)) : ∃ r, pX2_areOneAloneOfOneBit 16 (nI (q_mx f n)) of = some r ∧ (r = 0 ∨ r = 1) ∧ (r = 0 ↔ ¬ q_one f n) := by
  have hcl := q_cnt_le f 1 n
  have e1 : of (1 : Int32).toNatClampNeg = nI (q_cnt f 1 n) := by
    rw [show (1 : Int32).toNatClampNeg = 1 from rfl, hof 1 (by omega)]
    rfl
  unfold pX2_areOneAloneOfOneBit
  rw [e1, if_neg (show ¬ ((1 : Int32) < 0 ∨ 16 ≤ (1 : Int32).toNatClampNeg) by decide), show (1 : Int32) = nI 1 from rfl, qf_eq (by omega) (by omega), qf_eq (by omega) (by omega)]
  unfold q_one
  by_cases c1 : q_mx f n = 1
  · rw [if_pos c1]
    by_cases c2 : q_cnt f 1 n = 1
    · rw [if_pos c2]
      exact ⟨1, rfl, Or.inr rfl, fun z => absurd z (by decide), fun z => absurd ⟨c1, c2⟩ z⟩
    · rw [if_neg c2]
      exact ⟨0, rfl, Or.inl rfl, fun _ z => c2 z.2, fun _ => rfl⟩
  · rw [if_neg c1]
    exact ⟨0, rfl, Or.inl rfl, fun _ z => c1 z.1, fun _ => rfl⟩
theorem sf_none (hm : q_mx f n ≤ 15) : ∃ r, pX2_areNone (nI (q_mx f n)) = some r ∧ (r = 0 ↔ ¬ q_mx f n = 0) := by
  unfold pX2_areNone
  rw [show (0 : Int32) = nI 0 from rfl, qf_eq (by omega) (by omega)]
  by_cases c : q_mx f n = 0
  · rw [if_pos c]
    exact ⟨1, rfl, fun z => absurd z (by decide), fun z => absurd c z⟩
  · rw [if_neg c]
    exact ⟨0, rfl, fun _ => c, fun _ => rfl⟩
end QC
