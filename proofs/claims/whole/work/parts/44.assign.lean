/-! ### assign, findCodes -/
/-- what a Codes object holds for the lengths f of N symbols -/
def q_codes (N : Nat) (f : Nat → Nat) (L : Int32) (of fcv fpv cv bc : Nat → Int32) : Prop :=
  L = nI (q_mx f N) ∧ (∀ l, l < 16 → of l = nI (q_c f N l) ∧ fcv l = nI (q_fc f N l) ∧ fpv l = nI (q_fp f N l)) ∧
  ∀ j, j < N → f j ≠ 0 → cv j = nI (q_fc f N (f j) + q_cnt f (f j) j) ∧ bc (q_fp f N (f j) + q_cnt f (f j) j) = nI j
theorem sf_asgL {N : Nat} {lv of fcv fpv : Nat → Int32} {f : Nat → Nat} {L : Int32} (hN : N ≤ 288) (h : ∀ j, j < N → lv j = nI (f j) ∧ f j ≤ 15)
    (hfc : ∀ l, l < 16 → fcv l = nI (q_fc f N l)) (hfp : ∀ l, l < 16 → fpv l = nI (q_fp f N l)) : ∀ (d m i : Nat) (gv cv bc : Nat → Int32), N = i + d → d < m → (∀ l, l < 16 → gv l = nI (q_c f i l)) →
    (∀ j, j < i → f j ≠ 0 → cv j = nI (q_fc f N (f j) + q_cnt f (f j) j) ∧ bc (q_fp f N (f j) + q_cnt f (f j) j) = nI j) →
    ∃ gv' cv' bc', pX2_assign_b76 N 16 16 16 N N lv m L of fcv fpv gv cv bc (nI i) = some (L, of, fcv, fpv, gv', cv', bc') ∧
      ∀ j, j < N → f j ≠ 0 → cv' j = nI (q_fc f N (f j) + q_cnt f (f j) j) ∧ bc' (q_fp f N (f j) + q_cnt f (f j) j) = nI j := by
  intro d
  induction d with
  | zero =>
    intro m i gv cv bc hi hm g k
    obtain ⟨m, rfl⟩ : ∃ z, m = z + 1 := ⟨m - 1, by omega⟩
    have e : i = N := by omega
    subst e
    rw [pX2_assign_b76]
    dsimp only
    rw [qi_of]
    simp (disch := omega) only [qi_le, if_pos]
    exact ⟨gv, cv, bc, rfl, k⟩
  | succ d ih =>
    intro m i gv cv bc hi hm g k
    obtain ⟨m, rfl⟩ : ∃ z, m = z + 1 := ⟨m - 1, by omega⟩
    obtain ⟨e1, e2⟩ := h i (by omega)
    rw [pX2_assign_b76]
    simp (disch := omega) only [qi_of, qi_le, if_neg, qi_lt0, nI_clamp, false_or, nI_clamp, e1, nI_1]
    by_cases c : f i = 0
    · rw [c, if_pos (by decide)]
      refine ih m (i + 1) gv cv bc (by omega) (by omega) (fun l hl => ?_) (fun j hj hj0 => ?_)
      · rw [g l hl, q_cs, if_neg (by omega)]
        rfl
      · exact k j (by by_cases e : j = i
                      · subst e; exact absurd c hj0
                      · omega) hj0
    · have hc : q_c f i (f i) = q_cnt f (f i) i := by unfold q_c; simp only [if_neg c]
      have hp := q_place_lt (f := f) (n := N) (k := i) (by omega) c
      have hp2 := q_fp_le f N (f i + 1)
      have hcl := q_cnt_le f (f i) i
      have hfb := q_fc_b (f := f) (n := N) (l := f i) hN e2
      simp only [if_neg (nI_nle (n := f i) (by omega) (by omega))]
      simp (disch := omega) only [qi_lt0, nI_clamp, false_or, if_neg, nI_clamp, hfp (f i) (by omega), g (f i) (by omega), hc, nI_add, hfc (f i) (by omega), nI_1]
      refine ih m (i + 1) _ _ _ (by omega) (by omega) (fun l hl => ?_) (fun j hj hj0 => ?_)
      · rw [q_cs]
        by_cases e : l = f i
        · subst e
          rw [pk_us, if_pos ⟨c, rfl⟩, hc]
        · rw [pk_un e, if_neg (fun q => e q.2.symm), g l hl]
          rfl
      · by_cases e : j = i
        · subst e
          exact ⟨pk_us, pk_us⟩
        · obtain ⟨k1, k2⟩ := k j (by omega) hj0
          refine ⟨by rw [pk_un e]; exact k1, ?_⟩
          rw [pk_un (fun q => e (q_place_inj (f := f) (n := N) (by omega) (by omega) hj0 c q))]
          exact k2
theorem sf_asg6 {N : Nat} {lv of : Nat → Int32} {f : Nat → Nat} {L : Int32} (hN : N ≤ 288) (h : ∀ j, j < N → lv j = nI (f j) ∧ f j ≤ 15) (hof : ∀ l, l < 16 → of l = nI (q_c f N l)) : ∀ (d m x : Nat) (fcv fpv gv cv bc : Nat → Int32), 16 = x + d → d < m → 1 ≤ x →
    (∀ l, l < x → fcv l = nI (q_fc f N l)) → (∀ l, l < x → fpv l = nI (q_fp f N l)) →
    ∃ fcv' fpv' gv' cv' bc', pX2_assign_b6 16 N 16 16 16 N N lv m L of fcv fpv gv cv bc (nI x) = some (L, of, fcv', fpv', gv', cv', bc') ∧ (∀ l, l < 16 → fcv' l = nI (q_fc f N l)) ∧ (∀ l, l < 16 → fpv' l = nI (q_fp f N l)) ∧
      ∀ j, j < N → f j ≠ 0 → cv' j = nI (q_fc f N (f j) + q_cnt f (f j) j) ∧ bc' (q_fp f N (f j) + q_cnt f (f j) j) = nI j := by
  intro d
  induction d with
  | zero =>
    intro m x fcv fpv gv cv bc hx hm h1 g1 g2
    obtain ⟨m, rfl⟩ : ∃ z, m = z + 1 := ⟨m - 1, by omega⟩
    have e : x = 16 := by omega
    subst e
    obtain ⟨gv', e1, e2, -⟩ := sf_fill (n := 16) 0 gv (by omega)
    obtain ⟨gv2, cv2, bc2, e3, e4⟩ := sf_asgL (of := of) (L := L) hN h g1 g2 N fb_F 0 gv' cv bc (by omega) (by unfold fb_F; omega) (fun l hl => by rw [e2 l hl, q_c0]; rfl) (fun j hj => absurd hj (Nat.not_lt_zero j))
    rw [pX2_assign_b6]
    dsimp only
    rw [if_pos (by decide), e1, Option.bind_some]
    exact ⟨fcv, fpv, gv2, cv2, bc2, e3, g1, g2, e4⟩
  | succ d ih =>
    intro m x fcv fpv gv cv bc hx hm h1 g1 g2
    obtain ⟨m, rfl⟩ : ∃ z, m = z + 1 := ⟨m - 1, by omega⟩
    have hfb := q_fc_b (f := f) (n := N) (l := x - 1) hN (by omega)
    have hcb := q_c_le f N (x - 1)
    obtain ⟨y, rfl⟩ : ∃ y, x = y + 1 := ⟨x - 1, by omega⟩
    rw [pX2_assign_b6]
    dsimp only
    rw [show (15 : Int32) = nI 15 from rfl]
    simp (disch := omega) only [qi_lt, if_neg, nI_pred, qi_lt0, nI_clamp, false_or, nI_clamp, g1 y (by omega), g2 y (by omega), hof y (by omega), nI_add, (show (2 : Int32) = nI 2 from rfl), pk_mul, nI_1]
    refine ih m (y + 1 + 1) _ _ gv cv bc (by omega) (by omega) (by omega) (fun l hl => ?_) (fun l hl => ?_)
    · by_cases e : l = y + 1
      · subst e; exact pk_us
      · rw [pk_un e]; exact g1 l (by omega)
    · by_cases e : l = y + 1
      · subst e; exact pk_us
      · rw [pk_un e]; exact g2 l (by omega)
theorem sf_assign {N : Nat} {lv of fcv fpv gv cv bc : Nat → Int32} {f : Nat → Nat} (hN : N ≤ 288) (h : ∀ j, j < N → lv j = nI (f j) ∧ f j ≤ 15) (h0 : fcv 0 = 0) (h1 : fpv 0 = 0) :
    ∃ L of' fcv' fpv' gv' cv' bc', pX2_assign 16 N 16 16 16 N N lv of fcv fpv gv cv bc = some (L, of', fcv', fpv', gv', cv', bc') ∧ q_codes N f L of' fcv' fpv' cv' bc' := by
  unfold pX2_assign
  obtain ⟨of', e1, e2⟩ := sf_count2 (of := of) hN h
  obtain ⟨fcv', fpv', gv', cv', bc', e3, e4, e5, e6⟩ := sf_asg6 (L := nI (q_mx f N)) hN h e2 15 fb_F 1 fcv fpv gv cv bc (by omega) (by unfold fb_F; omega) (by omega)
    (fun l hl => by have : l = 0 := by omega
                    subst this; exact h0) (fun l hl => by have : l = 0 := by omega
                                                          subst this; exact h1)
  rw [e1, Option.bind_some]
  dsimp only
  exact ⟨nI (q_mx f N), of', fcv', fpv', gv', cv', bc', e3, rfl, fun l hl => ⟨e2 l hl, e4 l hl, e5 l hl⟩, e6⟩
/-! the reference's codes -/
def q_to (n : Nat) (f : Nat → Nat) (to : Nat → Int32) (l i : Nat) : Prop := ∀ k, k < n → f k ≠ 0 → (f k < l ∨ (f k = l ∧ k < i)) → to k = nI (q_fc f n (f k) + q_cnt f (f k) k)
theorem sf_find16 {n A B : Nat} {ov : Nat → Int32} {f : Nat → Nat} (hn : n ≤ 288) (hA : n ≤ A) (hB : n ≤ B) (h : ∀ j, j < n → ov j = nI (f j) ∧ f j ≤ 15) (K : (Nat → Int32) → Int32 → Int32 → Option (Nat → Int32)) {l : Nat} (hl : 1 ≤ l) (hl2 : l ≤ 15) :
    ∀ (d m i : Nat) (to : Nat → Int32), n = i + d → d < m → q_to n f to l i →
    ∃ to', pX11_findCodes_b16 A B ov (nI n) K m to (nI (q_fc f n l + q_cnt f l i)) (nI l) (nI i) = K to' (nI (q_fc f n (l + 1))) (nI (l + 1)) ∧ q_to n f to' (l + 1) 0 := by
  intro d
  induction d with
  | zero =>
    intro m i to hi hm g
    obtain ⟨m, rfl⟩ : ∃ z, m = z + 1 := ⟨m - 1, by omega⟩
    have e : i = n := by omega
    subst e
    rw [pX11_findCodes_b16]
    dsimp only
    simp (disch := omega) only [qi_le, if_pos]
    rw [show (2 : Int32) = nI 2 from rfl, pk_mul, nI_1]
    refine ⟨to, ?_, fun k hk h0 hc => g k hk h0 (by omega)⟩
    have e2 : (q_fc f i l + q_cnt f l i) * 2 = q_fc f i (l + 1) := by
      show _ = 2 * (q_fc f i l + q_c f i l)
      unfold q_c
      simp (disch := omega) only [if_neg]
      omega
    rw [e2]
  | succ d ih =>
    intro m i to hi hm g
    obtain ⟨m, rfl⟩ : ∃ z, m = z + 1 := ⟨m - 1, by omega⟩
    obtain ⟨e1, e2⟩ := h i (by omega)
    have hs : q_cnt f l (i + 1) = q_cnt f l i + (if f i = l then 1 else 0) := rfl
    rw [pX11_findCodes_b16]
    simp (disch := omega) only [qi_le, if_neg, qi_lt0, nI_clamp, false_or, nI_clamp, e1, qi_eq, nI_1]
    by_cases c : f i = l
    · rw [if_pos c] at hs
      simp (disch := omega) only [if_pos c, if_neg]
      have e3 : q_fc f n l + q_cnt f l i + 1 = q_fc f n l + q_cnt f l (i + 1) := by omega
      rw [e3]
      refine ih m (i + 1) _ (by omega) (by omega) (fun k hk h0 hc => ?_)
      by_cases e : k = i
      · subst e
        rw [pk_us, c]
      · rw [pk_un e]
        exact g k hk h0 (by omega)
    · rw [if_neg c] at hs
      simp only [if_neg c]
      have e3 : q_fc f n l + q_cnt f l i = q_fc f n l + q_cnt f l (i + 1) := by omega
      rw [e3]
      refine ih m (i + 1) _ (by omega) (by omega) (fun k hk h0 hc => ?_)
      by_cases e : k = i
      · subst e
        exact g k hk h0 (by omega)
      · exact g k hk h0 (by omega)
theorem sf_find6 {n A B : Nat} {ov : Nat → Int32} {f : Nat → Nat} (hn : n ≤ 288) (hA : n ≤ A) (hB : n ≤ B) (h : ∀ j, j < n → ov j = nI (f j) ∧ f j ≤ 15) :
    ∀ (d m l : Nat) (to : Nat → Int32), 16 = l + d → d < m → 1 ≤ l → q_to n f to l 0 →
    ∃ to', pX11_findCodes_b6 A B ov (nI n) m to (nI (q_fc f n l)) (nI l) = some to' ∧ q_to n f to' 16 0 := by
  intro d
  induction d with
  | zero =>
    intro m l to hl hm h1 g
    obtain ⟨m, rfl⟩ : ∃ z, m = z + 1 := ⟨m - 1, by omega⟩
    have e : l = 16 := by omega
    subst e
    rw [pX11_findCodes_b6]
    dsimp only
    rw [if_pos (by decide)]
    exact ⟨to, rfl, g⟩
  | succ d ih =>
    intro m l to hl hm h1 g
    obtain ⟨m, rfl⟩ : ∃ z, m = z + 1 := ⟨m - 1, by omega⟩
    rw [pX11_findCodes_b6]
    dsimp only
    rw [show (15 : Int32) = nI 15 from rfl]
    simp (disch := omega) only [qi_lt, if_neg]
    obtain ⟨to', e1, e2⟩ := sf_find16 hn hA hB h (pX11_findCodes_b6 A B ov (nI n) m) (l := l) h1 (by omega) n fb_F 0 to (by omega) (by unfold fb_F; omega) (fun k hk h0 hc => g k hk h0 (by omega))
    have e3 : q_fc f n l + q_cnt f l 0 = q_fc f n l := rfl
    rw [e3] at e1
    rw [show (0 : Int32) = nI 0 from rfl, e1]
    exact ih m (l + 1) to' (by omega) (by omega) (by omega) e2
theorem sf_find {n A B : Nat} {ov to : Nat → Int32} {f : Nat → Nat} (hn : n ≤ 288) (hA : n ≤ A) (hB : n ≤ B) (h : ∀ j, j < n → ov j = nI (f j) ∧ f j ≤ 15) :
    ∃ to', pX11_findCodes A B ov (nI n) to = some to' ∧ ∀ k, k < n → f k ≠ 0 → to' k = nI (q_fc f n (f k) + q_cnt f (f k) k) := by
  unfold pX11_findCodes
  obtain ⟨to', e1, e2⟩ := sf_find6 hn hA hB h 15 fb_F 1 to (by omega) (by unfold fb_F; omega) (by omega) (fun k hk h0 hc => by omega)
  refine ⟨to', e1, fun k hk h0 => e2 k hk h0 (Or.inl ?_)⟩
  have := (h k hk).2
  omega
