/-! ### codes out of lengths -/
def q_cnt (f : Nat → Nat) (l : Nat) : Nat → Nat
  | 0 => 0
  | n + 1 => q_cnt f l n + (if f n = l then 1 else 0)
theorem q_cnt_le (f : Nat → Nat) (l : Nat) : ∀ n, q_cnt f l n ≤ n
  | 0 => Nat.le_refl 0
  | n + 1 => by
    have := q_cnt_le f l n
    unfold q_cnt
    split <;> omega
theorem q_cnt_mono (f : Nat → Nat) (l : Nat) {m n : Nat} (h : m ≤ n) : q_cnt f l m ≤ q_cnt f l n := by
  induction n with
  | zero => have : m = 0 := by omega
            subst this; exact Nat.le_refl _
  | succ n ih =>
    by_cases e : m = n + 1
    · subst e; exact Nat.le_refl _
    · have := ih (by omega)
      show q_cnt f l m ≤ q_cnt f l n + _
      omega
theorem q_cnt_lt {f : Nat → Nat} {l k n : Nat} (hk : k < n) (h : f k = l) : q_cnt f l k < q_cnt f l n := by
  have h1 := q_cnt_mono f l (m := k + 1) (n := n) hk
  have h2 : q_cnt f l (k + 1) = q_cnt f l k + 1 := by
    show q_cnt f l k + (if f k = l then 1 else 0) = _
    simp only [if_pos h]
  omega
theorem q_cnt_inj {f : Nat → Nat} {l j k : Nat} (hj : f j = l) (hk : f k = l) (h : q_cnt f l j = q_cnt f l k) : j = k := by
  rcases Nat.lt_trichotomy j k with q | q | q
  · have := q_cnt_lt q hj; omega
  · exact q
  · have := q_cnt_lt q hk; omega
theorem q_cnt_sel {f : Nat → Nat} {l : Nat} : ∀ {n r : Nat}, r < q_cnt f l n → ∃ k, k < n ∧ f k = l ∧ q_cnt f l k = r
  | 0, r, h => absurd h (Nat.not_lt_zero r)
  | n + 1, r, h => by
    have e : q_cnt f l (n + 1) = q_cnt f l n + (if f n = l then 1 else 0) := rfl
    by_cases c : r < q_cnt f l n
    · obtain ⟨k, h1, h2, h3⟩ := q_cnt_sel c
      exact ⟨k, by omega, h2, h3⟩
    · by_cases c2 : f n = l
      · rw [if_pos c2] at e
        exact ⟨n, by omega, c2, by omega⟩
      · rw [if_neg c2] at e
        omega
/-- of the length 0 there is no code -/
def q_c (f : Nat → Nat) (n l : Nat) : Nat := if l = 0 then 0 else q_cnt f l n
def q_fc (f : Nat → Nat) (n : Nat) : Nat → Nat
  | 0 => 0
  | l + 1 => 2 * (q_fc f n l + q_c f n l)
def q_fp (f : Nat → Nat) (n : Nat) : Nat → Nat
  | 0 => 0
  | l + 1 => q_fp f n l + q_c f n l
def q_mx (f : Nat → Nat) : Nat → Nat
  | 0 => 0
  | n + 1 => if q_mx f n < f n then f n else q_mx f n
theorem q_c_le (f : Nat → Nat) (n l : Nat) : q_c f n l ≤ n := by
  unfold q_c
  split
  · omega
  · exact q_cnt_le f l n
theorem q_fc_le (f : Nat → Nat) (n : Nat) : ∀ l, q_fc f n l + 2 * n ≤ 2 * n * 2 ^ l
  | 0 => by simp [q_fc]
  | l + 1 => by
    have h1 := q_fc_le f n l
    have h2 := q_c_le f n l
    show 2 * (q_fc f n l + q_c f n l) + 2 * n ≤ 2 * n * 2 ^ (l + 1)
    rw [Nat.pow_succ, ← Nat.mul_assoc]
    omega
theorem q_fc_b {f : Nat → Nat} {n l : Nat} (hn : n ≤ 288) (hl : l ≤ 15) : q_fc f n l ≤ 18900000 := by
  have h1 := q_fc_le f n l
  have h2 : 2 ^ l ≤ 2 ^ 15 := Nat.pow_le_pow_right (by decide) hl
  have h3 : 2 * n * 2 ^ l ≤ 576 * 2 ^ 15 := Nat.mul_le_mul (by omega) h2
  omega
def q_below (f : Nat → Nat) (l : Nat) : Nat → Nat
  | 0 => 0
  | n + 1 => q_below f l n + (if f n ≠ 0 ∧ f n < l then 1 else 0)
theorem q_below_le (f : Nat → Nat) (l : Nat) : ∀ n, q_below f l n ≤ n
  | 0 => Nat.le_refl 0
  | n + 1 => by
    have := q_below_le f l n
    unfold q_below
    split <;> omega
theorem q_below_s (f : Nat → Nat) (l : Nat) : ∀ n, q_below f (l + 1) n = q_below f l n + q_c f n l
  | 0 => by
    show 0 = 0 + q_c f 0 l
    unfold q_c
    split <;> rfl
  | n + 1 => by
    have h := q_below_s f l n
    unfold q_c at h ⊢
    show q_below f (l + 1) n + (if f n ≠ 0 ∧ f n < l + 1 then 1 else 0) = q_below f l n + (if f n ≠ 0 ∧ f n < l then 1 else 0) + if l = 0 then 0 else (q_cnt f l n + (if f n = l then 1 else 0))
    by_cases c0 : l = 0
    · rw [if_pos c0] at h ⊢
      simp (disch := omega) only [if_neg]
      omega
    · rw [if_neg c0] at h ⊢
      by_cases c1 : f n = l
      · simp (disch := omega) only [if_pos c1, if_pos, if_neg]
        omega
      · simp only [if_neg c1]
        by_cases c2 : f n ≠ 0 ∧ f n < l
        · simp (disch := omega) only [if_pos c2, if_pos]
          omega
        · simp (disch := omega) only [if_neg c2, if_neg]
          omega
theorem q_fp_below (f : Nat → Nat) (n : Nat) : ∀ l, q_fp f n l = q_below f l n
  | 0 => by
    induction n with
    | zero => rfl
    | succ n ih =>
      show 0 = q_below f 0 n + (if f n ≠ 0 ∧ f n < 0 then 1 else 0)
      simp (disch := omega) only [if_neg]
      exact ih
  | l + 1 => by
    rw [q_below_s, ← q_fp_below f n l]
    rfl
theorem q_fp_le (f : Nat → Nat) (n l : Nat) : q_fp f n l ≤ n := by
  rw [q_fp_below]
  exact q_below_le f l n
theorem q_fp_mono (f : Nat → Nat) (n : Nat) {a b : Nat} (h : a ≤ b) : q_fp f n a ≤ q_fp f n b := by
  induction b with
  | zero => have : a = 0 := by omega
            subst this; exact Nat.le_refl _
  | succ b ih =>
    by_cases e : a = b + 1
    · subst e; exact Nat.le_refl _
    · have := ih (by omega)
      show q_fp f n a ≤ q_fp f n b + _
      omega
/-- the place of symbol k among all that have codes -/
theorem q_place_lt {f : Nat → Nat} {n k : Nat} (hk : k < n) (h0 : f k ≠ 0) : q_fp f n (f k) + q_cnt f (f k) k < q_fp f n (f k + 1) := by
  have h1 := q_cnt_lt (f := f) hk rfl
  show _ < q_fp f n (f k) + q_c f n (f k)
  unfold q_c
  simp only [if_neg h0]
  omega
theorem q_place_inj {f : Nat → Nat} {n j k : Nat} (hj : j < n) (hk : k < n) (h0 : f j ≠ 0) (h1 : f k ≠ 0) (h : q_fp f n (f j) + q_cnt f (f j) j = q_fp f n (f k) + q_cnt f (f k) k) : j = k := by
  have a1 := q_place_lt hj h0
  have a2 := q_place_lt hk h1
  rcases Nat.lt_trichotomy (f j) (f k) with q | q | q
  · have := q_fp_mono f n (a := f j + 1) (b := f k) q
    omega
  · rw [q] at h
    exact q_cnt_inj q rfl (by rw [← q] at h ⊢; rw [q] at h ⊢; omega)
  · have := q_fp_mono f n (a := f k + 1) (b := f j) q
    omega
/-! ### Arrays.fill -/
theorem sf_fillL {n : Nat} {x : Int32} {v0 : Nat → Int32} (hn : n ≤ 80000) : ∀ (d m i : Nat) (v : Nat → Int32), n = i + d → d < m → (∀ j, j < i → v j = x) → (∀ j, i ≤ j → v j = v0 j) →
    ∃ v', pJ7_fill_53178_b5 n x m v (nI i) (nI n) = some v' ∧ (∀ j, j < n → v' j = x) ∧ ∀ j, n ≤ j → v' j = v0 j := by
  intro d
  induction d with
  | zero =>
    intro m i v hi hm h g
    obtain ⟨m, rfl⟩ : ∃ z, m = z + 1 := ⟨m - 1, by omega⟩
    have e : i = n := by omega
    subst e
    rw [pJ7_fill_53178_b5]
    dsimp only
    simp (disch := omega) only [qi_le, if_pos]
    exact ⟨v, rfl, h, g⟩
  | succ d ih =>
    intro m i v hi hm h g
    obtain ⟨m, rfl⟩ : ∃ z, m = z + 1 := ⟨m - 1, by omega⟩
    rw [pJ7_fill_53178_b5]
    simp (disch := omega) only [qi_le, if_neg, qi_lt0, nI_clamp, false_or, nI_clamp, nI_1]
    refine ih m (i + 1) _ (by omega) (by omega) (fun j hj => ?_) (fun j hj => ?_)
    · by_cases e : j = i
      · subst e; exact pk_us
      · rw [pk_un e]; exact h j (by omega)
    · rw [pk_un (by omega)]; exact g j (by omega)
theorem sf_fill {n : Nat} (x : Int32) (v : Nat → Int32) (hn : n ≤ 80000) : ∃ v', pJ7_fill_53178 n x v = some v' ∧ (∀ j, j < n → v' j = x) ∧ ∀ j, n ≤ j → v' j = v j := by
  unfold pJ7_fill_53178
  exact sf_fillL hn n fb_F 0 v (by omega) (by unfold fb_F; omega) (fun j hj => absurd hj (Nat.not_lt_zero j)) (fun _ _ => rfl)
/-! ### countLengths -/
theorem q_c0 (f : Nat → Nat) (l : Nat) : q_c f 0 l = 0 := by
  unfold q_c
  split <;> rfl
theorem q_cs (f : Nat → Nat) (i l : Nat) : q_c f (i + 1) l = q_c f i l + (if l ≠ 0 ∧ f i = l then 1 else 0) := by
  unfold q_c
  by_cases h : l = 0
  · simp (disch := omega) only [if_pos h, if_neg]
  · simp only [if_neg h]
    show q_cnt f l i + (if f i = l then 1 else 0) = _
    by_cases h2 : f i = l
    · rw [if_pos h2, if_pos ⟨h, h2⟩]
    · rw [if_neg h2, if_neg (fun q => h2 q.2)]
theorem q_mx_le {f : Nat → Nat} {b : Nat} : ∀ {n : Nat}, (∀ j, j < n → f j ≤ b) → q_mx f n ≤ b
  | 0, _ => Nat.zero_le b
  | n + 1, h => by
    have h1 := q_mx_le (f := f) (n := n) (fun j hj => h j (by omega))
    have h2 := h n (by omega)
    show (if q_mx f n < f n then f n else q_mx f n) ≤ b
    split <;> omega
theorem q_mx_ge {f : Nat → Nat} : ∀ {n j : Nat}, j < n → f j ≤ q_mx f n
  | 0, j, h => absurd h (Nat.not_lt_zero j)
  | n + 1, j, h => by
    show f j ≤ (if q_mx f n < f n then f n else q_mx f n)
    by_cases e : j = n
    · subst e; split <;> omega
    · have := q_mx_ge (f := f) (n := n) (j := j) (by omega)
      split <;> omega
theorem sf_cntL {N : Nat} {lv : Nat → Int32} {f : Nat → Nat} (hN : N ≤ 288) (h : ∀ j, j < N → lv j = nI (f j) ∧ f j ≤ 15) : ∀ (d m i : Nat) (of : Nat → Int32), N = i + d → d < m → (∀ l, l < 16 → of l = nI (q_c f i l)) →
    ∃ of', pX2_countLengths_b23 16 N lv m (nI (q_mx f i)) of (nI N) (nI i) = some (nI (q_mx f N), of') ∧ ∀ l, l < 16 → of' l = nI (q_c f N l) := by
  intro d
  induction d with
  | zero =>
    intro m i of hi hm g
    obtain ⟨m, rfl⟩ : ∃ z, m = z + 1 := ⟨m - 1, by omega⟩
    have e : i = N := by omega
    subst e
    rw [pX2_countLengths_b23]
    dsimp only
    simp (disch := omega) only [qi_le, if_pos]
    exact ⟨of, rfl, g⟩
  | succ d ih =>
    intro m i of hi hm g
    obtain ⟨m, rfl⟩ : ∃ z, m = z + 1 := ⟨m - 1, by omega⟩
    obtain ⟨e1, e2⟩ := h i (by omega)
    have hmx : q_mx f i ≤ 15 := q_mx_le (fun j hj => (h j (by omega)).2)
    have hs : q_mx f (i + 1) = if q_mx f i < f i then f i else q_mx f i := rfl
    rw [pX2_countLengths_b23]
    simp (disch := omega) only [qi_le, if_neg, qi_lt0, nI_clamp, false_or, nI_clamp, e1, nI_1]
    by_cases c : f i = 0
    · rw [c, if_pos (by decide)]
      have e3 : q_mx f i = q_mx f (i + 1) := by rw [hs, if_neg (by omega)]
      rw [e3]
      refine ih m (i + 1) of (by omega) (by omega) (fun l hl => ?_)
      rw [g l hl, q_cs, if_neg (by omega)]
      rfl
    · simp only [if_neg (nI_nle (n := f i) (by omega) (by omega))]
      simp (disch := omega) only [qi_lt0, nI_clamp, false_or, if_neg, nI_clamp, qi_lt, g (f i) (by omega), nI_1]
      have e3 : (if q_mx f i < f i then nI (f i) else nI (q_mx f i)) = nI (q_mx f (i + 1)) := by
        rw [hs]
        split <;> rfl
      rw [e3]
      refine ih m (i + 1) _ (by omega) (by omega) (fun l hl => ?_)
      rw [q_cs]
      by_cases e : l = f i
      · subst e
        rw [pk_us, if_pos ⟨c, rfl⟩]
      · rw [pk_un e, if_neg (fun q => e q.2.symm), g l hl]
        rfl
theorem sf_count2 {N : Nat} {lv of : Nat → Int32} {f : Nat → Nat} (hN : N ≤ 288) (h : ∀ j, j < N → lv j = nI (f j) ∧ f j ≤ 15) :
    ∃ of', pX2_countLengths 16 N lv of = some (nI (q_mx f N), of') ∧ ∀ l, l < 16 → of' l = nI (q_c f N l) := by
  obtain ⟨v', e1, e2, -⟩ := sf_fill (n := 16) 0 of (by omega)
  have hF : N < fb_F := by unfold fb_F; omega
  unfold pX2_countLengths
  generalize fb_F = F at hF ⊢
  obtain ⟨of', e3, e4⟩ := sf_cntL hN h N F 0 v' (by omega) hF (fun l hl => by rw [e2 l hl, q_c0, nI_0])
  refine ⟨of', ?_, e4⟩
  rw [show nI (q_mx f 0) = 0 from nI_0, nI_0] at e3
  rw [e1, Option.bind_some]
  exact e3
