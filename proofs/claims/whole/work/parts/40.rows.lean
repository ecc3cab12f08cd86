/-! Pure part: numbers, rows, the short calls. -/
/-- a byte as a byte array holds it -/
def yb (t : Nat) : Int32 := (nI t).toInt8.toInt32
theorem yb_and {t : Nat} (h : t < 256) : yb t &&& 255 = nI t := sc_k8 t h
theorem yb_inj {s t : Nat} (hs : s < 256) (ht : t < 256) (h : yb s = yb t) : s = t := by
  have h1 := congrArg (fun z : Int32 => z &&& 255) h
  simp only [yb_and hs, yb_and ht] at h1
  exact (nI_eq (by omega) (by omega)).mp h1
theorem yb_nar (t : Nat) : vp_nar .byte (yb t) = yb t := pk_vb (nI t)
theorem yb_fit (t : Nat) : fits .byte (.int (yb t)) = true := pk_fb (nI t)
theorem qi_lt {a b : Nat} (ha : a < 2 ^ 31) (hb : b < 2 ^ 31) : (nI a < nI b) = (a < b) := propext (nI_ltI ha hb)
theorem qi_le {a b : Nat} (ha : a < 2 ^ 31) (hb : b < 2 ^ 31) : (nI a ≤ nI b) = (a ≤ b) := propext (nI_leI ha hb)
theorem qi_eq {a b : Nat} (ha : a < 2 ^ 31) (hb : b < 2 ^ 31) : (nI a = nI b) = (a = b) := propext (nI_eq ha hb)
theorem qi_lt0 {a : Nat} (ha : a < 2 ^ 31) : (nI a < 0) = False := eq_false (nI_pos ha)
theorem qi_0le {a : Nat} (ha : a < 2 ^ 31) : ((0 : Int32) ≤ nI a) = True := eq_true (nI_pos' ha)
theorem qi_out {a n : Nat} (ha : a < 2 ^ 31) : (nI a < 0 ∨ n ≤ (nI a).toNatClampNeg) = (n ≤ a) := by
  rw [nI_clamp ha, qi_lt0 ha, false_or]
theorem qf_c {α : Type} {P Q : Prop} [Decidable P] [Decidable Q] (h : P = Q) (x y : α) : (if P then x else y) = if Q then x else y := by
  subst h
  by_cases p : P
  · simp only [if_pos p]
  · simp only [if_neg p]
theorem qf_lt {α : Type} {a b : Nat} (ha : a < 2 ^ 31) (hb : b < 2 ^ 31) {x y : α} : (if nI a < nI b then x else y) = if a < b then x else y := qf_c (qi_lt ha hb) x y
theorem qf_le {α : Type} {a b : Nat} (ha : a < 2 ^ 31) (hb : b < 2 ^ 31) {x y : α} : (if nI a ≤ nI b then x else y) = if a ≤ b then x else y := qf_c (qi_le ha hb) x y
theorem qf_eq {α : Type} {a b : Nat} (ha : a < 2 ^ 31) (hb : b < 2 ^ 31) {x y : α} : (if nI a = nI b then x else y) = if a = b then x else y := qf_c (qi_eq ha hb) x y
theorem qf_out {α : Type} {a n : Nat} (ha : a < 2 ^ 31) {x y : α} : (if nI a < 0 ∨ n ≤ (nI a).toNatClampNeg then x else y) = if n ≤ a then x else y := qf_c (qi_out ha) x y
theorem qi_of (n : Nat) : Int32.ofNat n = nI n := rfl
theorem qi_0 : (0 : Int32) = nI 0 := rfl
theorem qi_1 : (1 : Int32) = nI 1 := rfl
theorem qi_any (x : Int32) : x < 0 ∨ ∃ j : Nat, j < 2 ^ 31 ∧ x = nI j := by
  by_cases h : x < 0
  · exact Or.inl h
  · exact Or.inr (nI_of h)
theorem qi_neg1 : ¬ ((-1 : Int32) = 0) := by decide
theorem fb_F_gt {n : Nat} (h : n ≤ 4000000000) : ∃ m, fb_F = m + n + 1 := ⟨4294967296 - n - 1, by unfold fb_F; omega⟩
/-- a row of the class and one of the reference, with the same bytes -/
def q_row (n : Nat) (v : Nat → Int32) (sz : Int32) (mv : Nat → Int32) (msz : Int32) : Prop := ∃ k : Nat, k ≤ n ∧ sz = nI k ∧ msz = nI k ∧ ∀ j, j < k → ∃ t : Nat, t < 256 ∧ v j = yb t ∧ mv j = nI t
theorem q_row0 (n : Nat) (v mv : Nat → Int32) : q_row n v 0 mv 0 := ⟨0, Nat.zero_le n, rfl, rfl, fun j h => absurd h (Nat.not_lt_zero j)⟩
theorem q_row_le {n n' : Nat} {v mv : Nat → Int32} {sz msz : Int32} (h : q_row n v sz mv msz) (hk : sz ≤ nI n') (hn : n ≤ 80000) (hn' : n' ≤ 80000) : q_row n' v sz mv msz := by
  obtain ⟨k, h1, h2, h3, h4⟩ := h
  subst h2
  rw [qi_le (by omega) (by omega)] at hk
  exact ⟨k, hk, rfl, h3, h4⟩
/-! ### a byte comes -/
theorem sf_add {n k : Nat} (v : Nat → Int32) (x : Int32) (hn : n ≤ 80000) (hk : k ≤ n) : pX6_add n x (nI k) v = if k < n then some (1, nI (k + 1), upd v k (x.toInt8.toInt32)) else some (0, nI k, v) := by
  unfold pX6_add
  simp (disch := omega) only [qi_of, qi_lt, qi_lt0, nI_clamp, false_or, nI_clamp, pk_vb, nI_1]
  by_cases h : k < n
  · simp (disch := omega) only [if_pos h, if_neg]
  · simp only [if_neg h]
theorem sf_grow {n : Nat} {v mv : Nat → Int32} {k t : Nat} (hk : k < n) (ht : t < 256) (h : ∀ j, j < k → ∃ t : Nat, t < 256 ∧ v j = yb t ∧ mv j = nI t) : q_row n (upd v k (yb t)) (nI (k + 1)) (upd mv k (nI t)) (nI (k + 1)) := by
  refine ⟨k + 1, hk, rfl, rfl, fun j hj => ?_⟩
  by_cases e : j = k
  · subst e
    exact ⟨t, ht, pk_us, pk_us⟩
  · rw [pk_un e, pk_un e]
    exact h j (by omega)
/-- behind a call that lets the text grow: what was there stays -/
def q_more (v : Nat → Int32) (sz : Int32) (v' : Nat → Int32) (sz' : Int32) : Prop := ∃ k k' : Nat, k ≤ k' ∧ k' ≤ 80000 ∧ sz = nI k ∧ sz' = nI k' ∧ ∀ j, j < k → v' j = v j
theorem sf_feed {n N : Nat} {v mv : Nat → Int32} {sz msz : Int32} (b : Int32) (hn : n ≤ 80000) (hN : n ≤ N) (h : q_row n v sz mv msz) :
    ∃ u w, pX10_feed n b sz v = some u ∧ pX11_feed N (nI n) b msz mv = some w ∧ u.1 = w.1 ∧ q_row n u.2.2 u.2.1 w.2.2 w.2.1 ∧ q_more v sz u.2.2 u.2.1 := by
  obtain ⟨k, h1, rfl, rfl, h4⟩ := h
  have hs : q_more v (nI k) v (nI k) := ⟨k, k, Nat.le_refl k, by omega, rfl, rfl, fun _ _ => rfl⟩
  unfold pX10_feed pX11_feed pX10_isByte
  rcases qi_any b with hb | ⟨t, ht, rfl⟩
  · simp only [if_pos hb]
    exact ⟨_, _, rfl, rfl, rfl, ⟨k, h1, rfl, rfl, h4⟩, hs⟩
  · simp (disch := omega) only [if_neg (nI_pos ht), (show (255 : Int32) = nI 255 from rfl), qi_lt]
    by_cases h5 : 255 < t
    · simp only [if_pos h5]
      exact ⟨_, _, rfl, rfl, rfl, ⟨k, h1, rfl, rfl, h4⟩, hs⟩
    · simp (disch := omega) only [if_neg h5, qi_eq, sf_add v (nI t) hn h1, qi_lt0, nI_clamp, false_or, nI_clamp, nI_1]
      by_cases h6 : k < n
      · simp only [if_pos h6, if_neg (by omega : ¬ k = n), if_neg (by omega : ¬ N ≤ k)]
        refine ⟨(1, nI (k + 1), upd v k (yb t)), _, rfl, rfl, rfl, sf_grow h6 (by omega) h4, k, k + 1, by omega, by omega, rfl, rfl, fun j hj => pk_un (by omega)⟩
      · simp only [if_neg h6, if_pos (by omega : k = n)]
        exact ⟨_, _, rfl, rfl, rfl, ⟨k, h1, rfl, rfl, h4⟩, hs⟩
theorem sf_load {n N : Nat} {v mv : Nat → Int32} {sz msz : Int32} (b : Int32) (hn : n ≤ 80000) (hN : n ≤ N) (h : q_row n v sz mv msz) :
    ∃ u w, pX10_load n b sz v = some u ∧ pX11_load N (nI n) b msz mv = some w ∧ u.1 = w.1 ∧ q_row n u.2.2 u.2.1 w.2.2 w.2.1 := by
  obtain ⟨u, w, h1, h2, h3, h4, -⟩ := sf_feed b hn hN h
  exact ⟨u, w, h1, h2, h3, h4⟩
/-! ### a byte is told -/
theorem sf_get {n N : Nat} {v mv : Nat → Int32} {sz msz : Int32} (i : Int32) (hn : n ≤ 80000) (hN : n ≤ N) (h : q_row n v sz mv msz) :
    ∃ r, pX6_get n sz v i = some r ∧ pX11_packed N msz mv i = some r := by
  obtain ⟨k, h1, rfl, rfl, h4⟩ := h
  unfold pX6_get pX11_packed
  rcases qi_any i with hb | ⟨j, hj, rfl⟩
  · simp only [if_pos hb]
    exact ⟨_, rfl, rfl⟩
  · simp (disch := omega) only [if_neg (nI_pos hj), qi_le, qi_lt0, nI_clamp, false_or, nI_clamp]
    by_cases h5 : k ≤ j
    · simp only [if_pos h5]
      exact ⟨_, rfl, rfl⟩
    · simp (disch := omega) only [if_neg h5, if_neg]
      obtain ⟨t, ht, e1, e2⟩ := h4 j (by omega)
      rw [e1, e2, yb_and ht]
      exact ⟨_, rfl, rfl⟩
theorem sf_packed {n N : Nat} {v mv : Nat → Int32} {sz msz : Int32} (i : Int32) (hn : n ≤ 80000) (hN : n ≤ N) (h : q_row n v sz mv msz) :
    ∃ u w, pX10_packed n sz v i = some u ∧ pX11_packed N msz mv i = some w ∧ u = w := by
  obtain ⟨r, h1, h2⟩ := sf_get i hn hN h
  exact ⟨r, r, by unfold pX10_packed; rw [h1]; rfl, h2, rfl⟩
theorem sf_out {n N : Nat} {v mv : Nat → Int32} {sz msz : Int32} (i : Int32) (hn : n ≤ 80000) (hN : n ≤ N) (h : q_row n v sz mv msz) :
    ∃ u w, pX10_out n sz v i = some u ∧ pX11_out N msz mv i = some w ∧ u = w := by
  obtain ⟨r, h1, h2⟩ := sf_get i hn hN h
  exact ⟨r, r, by unfold pX10_out; rw [h1]; rfl, h2, rfl⟩
/-! ### what was packed is what is unpacked -/
theorem sf_takeL {P Lo k : Nat} {mv : Nat → Int32} (hP : k ≤ P) (hL : k ≤ Lo) (hk : k ≤ 80000) : ∀ (d n i : Nat) (lv : Nat → Int32), k = i + d → d < n → (∀ j, j < i → lv j = mv j) →
    ∃ lv', pX11_take_b2 P Lo (nI k) mv n lv (nI i) = some (nI k, nI k, lv') ∧ ∀ j, j < k → lv' j = mv j := by
  intro d
  induction d with
  | zero =>
    intro n i lv hi hn h
    obtain ⟨n, rfl⟩ : ∃ m, n = m + 1 := ⟨n - 1, by omega⟩
    rw [pX11_take_b2]
    simp (disch := omega) only [qi_le, if_pos]
    exact ⟨lv, rfl, fun j hj => h j (by omega)⟩
  | succ d ih =>
    intro n i lv hi hn h
    obtain ⟨n, rfl⟩ : ∃ m, n = m + 1 := ⟨n - 1, by omega⟩
    rw [pX11_take_b2]
    simp (disch := omega) only [qi_le, if_neg, qi_lt0, nI_clamp, false_or, nI_clamp, nI_1]
    refine ih n (i + 1) _ (by omega) (by omega) (fun j hj => ?_)
    by_cases e : j = i
    · subst e; exact pk_us
    · rw [pk_un e]; exact h j (by omega)
theorem sf_take {n P Lo : Nat} {v mv lv mlv : Nat → Int32} {sz msz : Int32} (hn : n ≤ 80000) (hP : n ≤ P) (hL : n ≤ Lo) (h : q_row n v sz mv msz) :
    ∃ u w, pX10_take n n sz v lv = some u ∧ pX11_take P Lo msz mv mlv = some w ∧ u.1 = w.1 ∧ q_row n u.2.2 u.2.1 w.2.2 w.2.1 := by
  obtain ⟨k, h1, rfl, rfl, h4⟩ := h
  obtain ⟨m, hm⟩ := fb_F_gt (n := k) (by omega)
  obtain ⟨lv', e1, e2⟩ := sf_takeL (P := P) (Lo := Lo) (k := k) (mv := mv) (by omega) (by omega) (by omega) k fb_F 0 mlv (by omega) (by omega) (fun j hj => absurd hj (Nat.not_lt_zero j))
  have hmin : (if (Int32.ofNat n) < nI k then (Int32.ofNat n) else nI k) = nI k := by
    simp (disch := omega) only [qi_of, qi_lt, if_neg]
  have h0 : ((0 : Int32)).toNatClampNeg = 0 := rfl
  refine ⟨(nI k, nI k, va_cpy v lv 0 0 k), (nI k, nI k, lv'), ?_, e1, rfl, k, h1, rfl, rfl, fun j hj => ?_⟩
  · unfold pX10_take pX6_become
    rw [hmin, h0, nI_clamp (by omega)]
    rw [if_pos]
    · rfl
    · refine ⟨by decide, by decide, nI_pos (by omega), by omega, by omega, fun i hi => ?_⟩
      obtain ⟨t, ht, e3, -⟩ := h4 (0 + i) (by omega)
      rw [e3]
      exact yb_fit t
  · obtain ⟨t, ht, e3, e4⟩ := h4 j hj
    refine ⟨t, ht, ?_, (e2 j hj).trans e4⟩
    show va_cpy v lv 0 0 k j = yb t
    have := pk_cpy_in (f := v) (g := lv) (sp := 0) (dp := 0) (n := k) (j := j) (Nat.zero_le j) (by omega)
    rw [this]
    have e5 : 0 + (j - 0) = j := by omega
    rw [e5, e3]
/-! ### counts, bits -/
theorem sf_count {a b c d e : Int32} (i : Int32) : ∃ r, pX10_count e d c b a i = some r ∧ pX11_count a b e c d i = some r := by
  unfold pX10_count pX11_count
  by_cases h0 : i = 0
  · simp only [if_pos h0]; exact ⟨_, rfl, rfl⟩
  · simp only [if_neg h0]
    by_cases h1 : i = 1
    · simp only [if_pos h1]; exact ⟨_, rfl, rfl⟩
    · simp only [if_neg h1]
      by_cases h2 : i = 2
      · simp only [if_pos h2]; exact ⟨_, rfl, rfl⟩
      · simp only [if_neg h2]
        by_cases h3 : i = 3
        · simp only [if_pos h3]; exact ⟨_, rfl, rfl⟩
        · simp only [if_neg h3]
          by_cases h4 : i = 4
          · simp only [if_pos h4]; exact ⟨_, rfl, rfl⟩
          · simp only [if_neg h4]; exact ⟨_, rfl, rfl⟩
/-! ### the same? -/
theorem sf_likeL {n n' k : Nat} {v w : Nat → Int32} (hn : k ≤ n) (hn' : k ≤ n') (hk : k ≤ 80000) : ∀ (d m i : Nat), k = i + d → d < m → (∀ j, j < i → v j = w j) →
    pX6_isLike_b15 n n' (nI k) v w m (nI i) = some (if ∀ j, j < k → v j = w j then 1 else 0) := by
  intro d
  induction d with
  | zero =>
    intro m i hi hm h
    obtain ⟨m, rfl⟩ : ∃ z, m = z + 1 := ⟨m - 1, by omega⟩
    rw [pX6_isLike_b15]
    simp (disch := omega) only [qi_le, if_pos]
    rw [if_pos (fun j hj => h j (by omega))]
  | succ d ih =>
    intro m i hi hm h
    obtain ⟨m, rfl⟩ : ∃ z, m = z + 1 := ⟨m - 1, by omega⟩
    rw [pX6_isLike_b15]
    simp (disch := omega) only [qi_le, if_neg, qi_lt0, nI_clamp, false_or, nI_clamp, nI_1]
    by_cases e : v i = w i
    · simp only [if_pos e]
      refine ih m (i + 1) (by omega) (by omega) (fun j hj => ?_)
      by_cases e2 : j = i
      · rw [e2]; exact e
      · exact h j (by omega)
    · rw [if_neg e, if_neg (fun q => e (q i (by omega)))]
theorem sf_sameL {n n' k : Nat} {v w : Nat → Int32} (hn : k ≤ n) (hn' : k ≤ n') (hk : k ≤ 80000) : ∀ (d m i : Nat), k = i + d → d < m → (∀ j, j < i → v j = w j) →
    pX11_same_b19 n n' (nI k) v w m 1 (nI i) = some (if ∀ j, j < k → v j = w j then 1 else 0) := by
  intro d
  induction d with
  | zero =>
    intro m i hi hm h
    obtain ⟨m, rfl⟩ : ∃ z, m = z + 1 := ⟨m - 1, by omega⟩
    rw [pX11_same_b19]
    simp (disch := omega) only [qi_le, if_pos]
    rw [if_pos (show (1 : Int32) &&& 1 = 1 by decide), if_pos (fun j hj => h j (by omega))]
  | succ d ih =>
    intro m i hi hm h
    obtain ⟨m, rfl⟩ : ∃ z, m = z + 1 := ⟨m - 1, by omega⟩
    rw [pX11_same_b19]
    simp (disch := omega) only [if_neg (show ¬ (1 : Int32) = 0 by decide), qi_le, if_neg, qi_lt0, nI_clamp, false_or, nI_clamp, nI_1]
    by_cases e : v i = w i
    · simp only [if_pos e]
      refine ih m (i + 1) (by omega) (by omega) (fun j hj => ?_)
      by_cases e2 : j = i
      · rw [e2]; exact e
      · exact h j (by omega)
    · rw [if_neg e, if_neg (fun q => e (q i (by omega)))]
      obtain ⟨m, rfl⟩ : ∃ z, m = z + 1 := ⟨m - 1, by omega⟩
      rw [pX11_same_b19]
      dsimp only
      by_cases h9 : nI k ≤ nI (i + 1)
      · rw [if_pos h9, if_pos (by decide)]
      · rw [if_neg h9, if_pos rfl, if_pos (by decide)]
theorem sf_same0 {n n' : Nat} {s : Int32} {v w : Nat → Int32} {m : Nat} {i : Int32} : pX11_same_b19 n n' s v w (m + 1) 0 i = some 0 := by
  rw [pX11_same_b19]
  dsimp only
  by_cases h9 : s ≤ i
  · rw [if_pos h9, if_pos (by decide)]
  · rw [if_neg h9, if_pos rfl, if_pos (by decide)]
theorem sf_same {n N N' : Nat} {v mv v2 mv2 : Nat → Int32} {sz msz sz2 msz2 : Int32} (hn : n ≤ 80000) (hN : n ≤ N) (hN' : n ≤ N') (h : q_row n v sz mv msz) (h2 : q_row n v2 sz2 mv2 msz2) :
    ∃ u w, pX10_same n n sz v sz2 v2 = some u ∧ pX11_same N N' msz2 msz mv mv2 = some w ∧ u = w := by
  obtain ⟨k, h1, rfl, rfl, h4⟩ := h
  obtain ⟨k2, g1, rfl, rfl, g4⟩ := h2
  obtain ⟨m, hm⟩ := fb_F_gt (n := k) (by omega)
  unfold pX10_same pX6_isLike pX11_same
  simp (disch := omega) only [qi_eq]
  by_cases e : k = k2
  · subst e
    rw [if_pos rfl, if_pos rfl]
    have a1 := sf_likeL (n := n) (n' := n) (k := k) (v := v) (w := v2) h1 h1 (by omega) k fb_F 0 (by omega) (by omega) (fun j hj => absurd hj (Nat.not_lt_zero j))
    have a2 := sf_sameL (n := N) (n' := N') (k := k) (v := mv) (w := mv2) (by omega) (by omega) (by omega) k fb_F 0 (by omega) (by omega) (fun j hj => absurd hj (Nat.not_lt_zero j))
    have e0 : (∀ j, j < k → v j = v2 j) ↔ ∀ j, j < k → mv j = mv2 j := by
      constructor
      · intro q j hj
        obtain ⟨t, ht, b1, b2⟩ := h4 j hj
        obtain ⟨t', ht', b3, b4⟩ := g4 j hj
        have := q j hj
        rw [b1, b3] at this
        rw [b2, b4, yb_inj ht ht' this]
      · intro q j hj
        obtain ⟨t, ht, b1, b2⟩ := h4 j hj
        obtain ⟨t', ht', b3, b4⟩ := g4 j hj
        have := q j hj
        rw [b2, b4] at this
        rw [b1, b3, (nI_eq (by omega) (by omega)).mp this]
    rw [show (0 : Int32) = nI 0 from rfl, a1, show (1 : Int32) = nI 1 from rfl] at *
    refine ⟨_, _, ?_, a2, rfl⟩
    by_cases q : ∀ j, j < k → v j = v2 j
    · simp only [if_pos q, if_pos (e0.mp q)]
      rfl
    · rw [if_neg q, if_neg (fun z => q (e0.mpr z))]
      rfl
  · rw [if_neg e, if_neg e, hm]
    rw [show m + k + 1 = (m + k) + 1 from rfl, sf_same0]
    exact ⟨0, 0, rfl, rfl, rfl⟩
