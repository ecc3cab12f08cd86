/-! ### the text's last bytes again -/
def q_ext (v v' : Nat → Int32) (k a len : Nat) : Prop := (∀ j, j < k → v' j = v j) ∧ ∀ j, k ≤ j → j < k + len → v' j = v' (j - a)
theorem q_ext0 (v : Nat → Int32) (k a : Nat) : q_ext v v k a 0 := ⟨fun _ _ => rfl, fun j h1 h2 => by omega⟩
theorem q_ext_s {v v' : Nat → Int32} {k a i : Nat} (ha : 1 ≤ a) (hak : a ≤ k) (h : q_ext v v' k a i) : q_ext v (upd v' (k + i) (v' (k + i - a))) k a (i + 1) := by
  refine ⟨fun j hj => by rw [pk_un (by omega)]; exact h.1 j hj, fun j h1 h2 => ?_⟩
  by_cases e : j = k + i
  · subst e
    rw [pk_us, pk_un (by omega)]
  · rw [pk_un e, pk_un (by omega)]
    exact h.2 j h1 (by omega)
theorem q_ext_row {v v' mv mv' : Nat → Int32} {k a len : Nat} (ha : 1 ≤ a) (hak : a ≤ k) (h1 : q_ext v v' k a len) (h2 : q_ext mv mv' k a len) (h : ∀ j, j < k → ∃ t : Nat, t < 256 ∧ v j = yb t ∧ mv j = nI t) :
    ∀ j, j < k + len → ∃ t : Nat, t < 256 ∧ v' j = yb t ∧ mv' j = nI t := by
  intro j
  induction j using Nat.strongRecOn with
  | _ j ih =>
    intro hj
    by_cases e : j < k
    · rw [h1.1 j e, h2.1 j e]
      exact h j e
    · rw [h1.2 j (by omega) hj, h2.2 j (by omega) hj]
      exact ih (j - a) (by omega) (by omega)
theorem q_ext_b {v v' : Nat → Int32} {k a len : Nat} (ha : 1 ≤ a) (hak : a ≤ k) (h1 : q_ext v v' k a len) (h : ∀ j, j < k → ∃ t : Nat, v j = yb t) : ∀ j, j < k + len → ∃ t : Nat, v' j = yb t := by
  intro j
  induction j using Nat.strongRecOn with
  | _ j ih =>
    intro hj
    by_cases e : j < k
    · rw [h1.1 j e]
      exact h j e
    · rw [h1.2 j (by omega) hj]
      exact ih (j - a) (by omega) (by omega)
theorem sf_repL {n k a len : Nat} {v0 : Nat → Int32} (hn : n ≤ 80000) (ha : 1 ≤ a) (hak : a ≤ k) (hk : k + len ≤ n) (hb : ∀ j, j < k → ∃ t : Nat, v0 j = yb t) : ∀ (d m i : Nat) (v : Nat → Int32), len = i + d → d < m → q_ext v0 v k a i →
    ∃ v', pX6_repeat_b31 n (nI a) (nI len) m (nI (k + i)) v (nI i) = some (1, nI (k + len), v') ∧ q_ext v0 v' k a len := by
  intro d
  induction d with
  | zero =>
    intro m i v hi hm h
    obtain ⟨m, rfl⟩ : ∃ z, m = z + 1 := ⟨m - 1, by omega⟩
    have e : i = len := by omega
    subst e
    rw [pX6_repeat_b31]
    dsimp only
    simp (disch := omega) only [qi_le, if_pos]
    exact ⟨v, rfl, h⟩
  | succ d ih =>
    intro m i v hi hm h
    obtain ⟨m, rfl⟩ : ∃ z, m = z + 1 := ⟨m - 1, by omega⟩
    obtain ⟨t, ht⟩ := q_ext_b ha hak h hb (k + i - a) (by omega)
    rw [pX6_repeat_b31]
    simp (disch := omega) only [qi_le, if_neg, pk_sub, qi_lt0, nI_clamp, false_or, nI_clamp, nI_1]
    rw [ht, yb_nar, ← ht]
    exact ih m (i + 1) _ (by omega) (by omega) (q_ext_s ha hak h)
theorem sf_rep {n k a len : Nat} {v0 : Nat → Int32} (hn : n ≤ 80000) (ha : 1 ≤ a) (hak : a ≤ k) (hk : k ≤ n) (hl : len < 2 ^ 31) (hb : ∀ j, j < k → ∃ t : Nat, v0 j = yb t) :
    (k + len ≤ n → ∃ v', pX6_repeat n (nI a) (nI len) (nI k) v0 = some (1, nI (k + len), v') ∧ q_ext v0 v' k a len) ∧ (n < k + len → pX6_repeat n (nI a) (nI len) (nI k) v0 = some (0, nI k, v0)) := by
  unfold pX6_repeat
  rw [show (1 : Int32) = nI 1 from rfl]
  simp (disch := omega) only [qi_lt, if_neg, qi_of, pk_sub, qi_le]
  constructor
  · intro h
    simp (disch := omega) only [if_pos]
    obtain ⟨m, hm⟩ := fb_F_gt (n := len) (by omega)
    exact sf_repL hn ha hak h hb len fb_F 0 v0 (by omega) (by omega) (q_ext0 v0 k a)
  · intro h
    simp (disch := omega) only [if_neg]
theorem sf_agL {N k a c len : Nat} {v0 : Nat → Int32} (hN : N ≤ 80000) (ha : 1 ≤ a) (hak : a ≤ k) (hk : k + len ≤ N) (hac : a * c = len) : ∀ (d m i : Nat) (v : Nat → Int32), len = i + d → d < m → q_ext v0 v k a i →
    ∃ v', pX11_again_b54 N (nI a) (nI c) m (nI (k + i)) v (nI i) = some (nI (k + len), nI (k + len), v') ∧ q_ext v0 v' k a len := by
  intro d
  induction d with
  | zero =>
    intro m i v hi hm h
    obtain ⟨m, rfl⟩ : ∃ z, m = z + 1 := ⟨m - 1, by omega⟩
    have e : i = len := by omega
    subst e
    rw [pX11_again_b54]
    dsimp only
    rw [pk_mul, hac]
    simp (disch := omega) only [qi_le, if_pos]
    exact ⟨v, rfl, h⟩
  | succ d ih =>
    intro m i v hi hm h
    obtain ⟨m, rfl⟩ : ∃ z, m = z + 1 := ⟨m - 1, by omega⟩
    rw [pX11_again_b54]
    simp (disch := omega) only [pk_mul, hac, qi_le, if_neg, pk_sub, qi_lt0, nI_clamp, false_or, nI_clamp, nI_1]
    exact ih m (i + 1) _ (by omega) (by omega) (q_ext_s ha hak h)
theorem lg_le0 {a b : Nat} (ha : a < 2 ^ 31) (hb : b < 2 ^ 31) : (lg_cmp (lN a) (lN b) ≤ 0) = (a ≤ b) := by
  unfold lg_cmp
  simp only [show (lN a > lN b) = (b < a) from propext (lN_lt hb ha)]
  by_cases h : b < a
  · simp only [if_pos h]
    exact propext ⟨fun q => absurd q (by decide), fun q => by omega⟩
  · simp only [if_neg h]
    by_cases h2 : lN a = lN b
    · simp only [if_pos h2]
      exact propext ⟨fun _ => by omega, fun _ => by decide⟩
    · simp only [if_neg h2]
      exact propext ⟨fun _ => by omega, fun _ => by decide⟩
theorem qf_lg {α : Type} {a b : Nat} (ha : a < 2 ^ 31) (hb : b < 2 ^ 31) {x y : α} : (if lg_cmp (lN a) (lN b) ≤ 0 then x else y) = if a ≤ b then x else y := qf_c (lg_le0 ha hb) x y
theorem sf_again {n N : Nat} {v mv : Nat → Int32} {sz msz : Int32} (x1 x2 : Int32) (hn : n ≤ 80000) (hN : n ≤ N) (hN2 : N ≤ 80000) (h : q_row n v sz mv msz) :
    ∃ u w, pX10_again n x1 x2 sz v = some u ∧ pX11_again N (nI n) x1 x2 msz mv = some w ∧ u.1 = w.1 ∧ q_row n u.2.2 u.2.1 w.2.2 w.2.1 ∧ q_more v sz u.2.2 u.2.1 := by
  obtain ⟨k, h1, rfl, rfl, h4⟩ := h
  have hs : q_more v (nI k) v (nI k) := ⟨k, k, Nat.le_refl k, by omega, rfl, rfl, fun _ _ => rfl⟩
  have hr : q_row n v (nI k) mv (nI k) := ⟨k, h1, rfl, rfl, h4⟩
  unfold pX10_again pX11_again
  rcases qi_any x1 with hb | ⟨a, ha, rfl⟩
  · have hlt : x1 < 1 := Int32.lt_trans hb (by decide)
    simp only [if_pos hlt]
    exact ⟨_, _, rfl, rfl, rfl, hr, hs⟩
  rw [show (1 : Int32) = nI 1 from rfl, show (258 : Int32) = nI 258 from rfl, show (70000 : Int32) = nI 70000 from rfl]
  simp (disch := omega) only [qi_lt]
  by_cases c1 : a < 1
  · simp only [if_pos c1]
    exact ⟨_, _, rfl, rfl, rfl, hr, hs⟩
  simp only [if_neg c1]
  by_cases c2 : 258 < a
  · simp only [if_pos c2]
    exact ⟨_, _, rfl, rfl, rfl, hr, hs⟩
  simp (disch := omega) only [if_neg c2, qi_lt]
  rcases qi_any x2 with hb | ⟨c, hc, rfl⟩
  · have hlt : x2 < nI 1 := Int32.lt_trans hb (by decide)
    simp only [if_pos hlt]
    by_cases c3 : k < a
    · simp only [if_pos c3]
      exact ⟨_, _, rfl, rfl, rfl, hr, hs⟩
    · simp only [if_neg c3, if_pos hlt]
      exact ⟨_, _, rfl, rfl, rfl, hr, hs⟩
  simp (disch := omega) only [qi_lt, qi_le, nI_l ha, nI_l hc, lN_mul, pk_sub, nI_l (by omega), pk_mul]
  by_cases c4 : c < 1
  · simp only [if_pos c4]
    by_cases c3 : k < a
    · simp only [if_pos c3]
      exact ⟨_, _, rfl, rfl, rfl, hr, hs⟩
    · simp only [if_neg c3, if_pos c4]
      exact ⟨_, _, rfl, rfl, rfl, hr, hs⟩
  simp only [if_neg c4]
  by_cases c5 : c ≤ 70000
  · have hac : a * c ≤ 258 * 70000 := Nat.mul_le_mul (by omega) c5
    simp only [if_pos c5]
    by_cases c3 : k < a
    · simp only [if_pos c3]
      refine ⟨(-1, nI k, v), _, ?_, rfl, rfl, hr, hs⟩
      unfold pX6_repeat
      rw [show (1 : Int32) = nI 1 from rfl]
      simp (disch := omega) only [qi_lt, if_neg c1, if_pos c3]
      rfl
    · simp (disch := omega) only [if_neg c3, if_neg c4, if_neg, lg_le0]
      obtain ⟨r1, r2⟩ := sf_rep (n := n) (k := k) (a := a) (len := a * c) (v0 := v) hn (by omega) (by omega) h1 (by omega) (fun j hj => (h4 j hj).elim (fun t q => ⟨t, q.2.1⟩))
      simp (disch := omega) only [nI_l, lg_le0]
      by_cases c6 : a * c ≤ n - k
      · simp only [if_pos c6]
        obtain ⟨v', e1, e2⟩ := r1 (by omega)
        obtain ⟨m, hm⟩ := fb_F_gt (n := a * c) (by omega)
        obtain ⟨mv', e3, e4⟩ := sf_agL (N := N) (k := k) (a := a) (c := c) (len := a * c) (v0 := mv) hN2 (by omega) (by omega) (by omega) rfl (a * c) fb_F 0 mv (by omega) (by omega) (q_ext0 mv k a)
        rw [e1]
        refine ⟨(nI (k + a * c), nI (k + a * c), v'), _, rfl, e3, rfl, ⟨k + a * c, by omega, rfl, rfl, q_ext_row (by omega) (by omega) e2 e4 h4⟩, k, k + a * c, by omega, by omega, rfl, rfl, fun j hj => e2.1 j hj⟩
      · rw [if_neg c6, r2 (by omega)]
        exact ⟨(-1, nI k, v), _, rfl, rfl, rfl, hr, hs⟩
  · simp only [if_neg c5]
    by_cases c3 : k < a
    · simp only [if_pos c3]
      exact ⟨_, _, rfl, rfl, rfl, hr, hs⟩
    · simp (disch := omega) only [if_neg c3, if_neg c4, if_pos]
      exact ⟨_, _, rfl, rfl, rfl, hr, hs⟩
