/-! ### lengths by the told codes: class and reference -/
theorem q_ord2 : ∀ i, i < 19 → pX11_orderOf (nI i) = some (fb_ord i) := by decide +kernel
theorem q_ord3 : ∀ i, i < 19 → ∃ j, j < 19 ∧ fb_ord i = nI j := by decide +kernel
theorem q_nb1 : ∀ s, s < 19 → pX7_numberBitsOf (nI s) = pX11_numberBits (nI s) := by decide +kernel
def q_nb (s : Nat) : Nat := if s = 16 then 2 else if s = 17 then 3 else if s = 18 then 7 else 0
theorem q_nb2 : ∀ s, s < 19 → pX11_numberBits (nI s) = some (nI (q_nb s)) := by decide +kernel
theorem q_nbb : ∀ s, s < 19 → q_nb s ≤ 7 := by decide +kernel
def q_tm (s x : Nat) : Nat := if s < 16 then 1 else if s = 18 then 11 + x else 3 + x
section QE
variable {k N A B C D E Z : Nat} {v mv : Nat → Int32}
theorem q_tm_a {s x : Nat} (h : s < 16) : q_tm s x = 1 := by unfold q_tm; rw [if_pos h]
theorem q_tm_b {x : Nat} : q_tm 18 x = 11 + x := rfl
theorem q_tm_c {s x : Nat} (h : 16 ≤ s) (h2 : ¬ s = 18) : q_tm s x = 3 + x := by unfold q_tm; rw [if_neg (by omega), if_neg h2]
theorem sf_times {s x : Nat} (hs : s < 19) (hx : x < 200) : pX9_timesOf (nI s) (nI x) = some (nI (q_tm s x)) := by
  unfold pX9_timesOf
  rw [show (16 : Int32) = nI 16 from rfl, show (18 : Int32) = nI 18 from rfl, qf_le (by omega) (by omega), qf_eq (by omega) (by omega), show (11 : Int32) = nI 11 from rfl, show (3 : Int32) = nI 3 from rfl, nI_add, nI_add]
  by_cases c1 : 16 ≤ s
  · rw [if_pos c1]
    by_cases c2 : s = 18
    · subst c2
      rw [if_pos rfl, q_tm_b, Nat.add_comm]
    · rw [if_neg c2, q_tm_c c1 c2, Nat.add_comm]
  · rw [if_neg c1, q_tm_a (by omega)]
    rfl
/-- the reference writes a length so many times -/
theorem sf_t312 {LL LC SL DL : Nat → Int32} {p x1 x2 x4 : Int32} {tm a0 : Nat} {y : Int32} {R0 : Nat → Int32} (hE : E ≤ 80000) (ha : a0 + tm ≤ E)
    (K : Int32 → Int32 → (Nat → Int32) → (Nat → Int32) → (Nat → Int32) → (Nat → Int32) → (Nat → Int32) → Int32 → Int32 → Int32 → Int32 → Option (Int32 × Int32 × (Nat → Int32) × (Nat → Int32) × (Nat → Int32) × (Nat → Int32) × (Nat → Int32))) :
    ∀ (d m i : Nat) (RW : Nat → Int32), tm = i + d → d < m → (∀ j, RW j = if a0 ≤ j ∧ j < a0 + i then y else R0 j) →
    ∃ RW', pX11_toldCodes_b312 E K m p 0 LL LC RW SL DL x1 x2 x4 (nI (a0 + i)) (nI tm) y (nI i) = K p 0 LL LC RW' SL DL x1 x2 x4 (nI (a0 + tm)) ∧ ∀ j, RW' j = if a0 ≤ j ∧ j < a0 + tm then y else R0 j := by
  intro d
  induction d with
  | zero =>
    intro m i RW hi hm h
    obtain ⟨m, rfl⟩ : ∃ z, m = z + 1 := ⟨m - 1, by omega⟩
    have e : i = tm := by omega
    subst e
    rw [pX11_toldCodes_b312]
    dsimp only
    rw [if_pos (nI_le (Nat.le_refl i) (by omega))]
    exact ⟨RW, rfl, h⟩
  | succ d ih =>
    intro m i RW hi hm h
    obtain ⟨m, rfl⟩ : ∃ z, m = z + 1 := ⟨m - 1, by omega⟩
    rw [pX11_toldCodes_b312]
    dsimp only
    rw [qf_le (by omega) (by omega), if_neg (by omega), if_pos (show (0 : Int32) = 0 from rfl), qf_out (by omega), if_neg (by omega), nI_clamp (by omega), nI_1, nI_1]
    refine ih m (i + 1) _ (by omega) (by omega) (fun j => ?_)
    by_cases e : j = a0 + i
    · subst e
      rw [pk_us, if_pos (by omega)]
    · rw [pk_un e, h j]
      by_cases c : a0 ≤ j ∧ j < a0 + i
      · rw [if_pos c, if_pos (by omega)]
      · rw [if_neg c, if_neg (by omega)]
theorem sf_t312F {LL LC RW SL DL : Nat → Int32} {p g x1 x2 x4 x5 x8 x9 x10 : Int32} {m : Nat} (hg : ¬ g = 0)
    (K : Int32 → Int32 → (Nat → Int32) → (Nat → Int32) → (Nat → Int32) → (Nat → Int32) → (Nat → Int32) → Int32 → Int32 → Int32 → Int32 → Option (Int32 × Int32 × (Nat → Int32) × (Nat → Int32) × (Nat → Int32) × (Nat → Int32) × (Nat → Int32))) :
    pX11_toldCodes_b312 E K (m + 1) p g LL LC RW SL DL x1 x2 x4 x5 x8 x9 x10 = K p g LL LC RW SL DL x1 x2 x4 x5 := by
  rw [pX11_toldCodes_b312]
  dsimp only
  by_cases c : x8 ≤ x10
  · rw [if_pos c]
  · rw [if_neg c, if_neg hg]
theorem sf_t266F {LL LC RW SL DL : Nat → Int32} {p g x1 x2 x4 x6 x8 t : Int32} {a : Nat} (ha : a ≤ E) (hE : E ≤ 80000) (hg : ¬ g = 0)
    (K : Int32 → Int32 → (Nat → Int32) → (Nat → Int32) → (Nat → Int32) → (Nat → Int32) → (Nat → Int32) → Int32 → Int32 → Int32 → Int32 → Option (Int32 × Int32 × (Nat → Int32) × (Nat → Int32) × (Nat → Int32) × (Nat → Int32) × (Nat → Int32))) :
    ∀ g0, pX11_cannot t 4 g0 = some g → pX11_toldCodes_b266 E K p g0 LL LC RW SL DL x1 x2 x4 (nI a) x6 x8 t = K p g LL LC RW SL DL x1 x2 x4 (nI a) := by
  intro g0 h0
  unfold pX11_toldCodes_b266
  rw [h0, Option.bind_some, show fb_F = 4294967295 + 1 from rfl, sf_t312F hg, sf_t312F hg, sf_t312F hg]
  by_cases c1 : 16 ≤ x6
  · rw [if_pos c1]
    by_cases c2 : x6 = 16
    · rw [if_pos c2]
      by_cases c3 : nI a ≤ 0
      · rw [if_pos c3]
      · have ha0 : 0 < a := by
          rcases Nat.eq_zero_or_pos a with q | q
          · subst q; exact absurd (by decide) c3
          · exact q
        rw [if_neg c3, show (1 : Int32) = nI 1 from rfl, pk_sub (by omega), qf_out (by omega), if_neg (by omega)]
    · rw [if_neg c2]
  · rw [if_neg c1]
/-- the loop over the lengths -/
theorem sf_lensL {n : Nat} {f : Nat → Nat} {L : Int32} {of fcv fpv cv bc ov cdv SL DL : Nat → Int32} {x1 x2 : Int32} (hN : N ≤ 80000) (hk : k ≤ N) (hZ : k ≤ Z) (hr : ∀ j, j < k → ∃ t : Nat, t < 256 ∧ v j = yb t ∧ mv j = nI t) (hA : 19 ≤ C) (hB : 19 ≤ D) (h : ∀ j, j < 19 → ov j = nI (f j) ∧ f j ≤ 15)
    (hc : ∀ j, j < 19 → f j ≠ 0 → cdv j = nI (q_fc f 19 (f j) + q_cnt f (f j) j)) (hq : q_codes 19 f L of fcv fpv cv bc) (hE : 320 ≤ E) (hE2 : E ≤ 80000) {all : Nat} (hall : all ≤ 316) (hfa : 288 ≤ A) (hfb : 288 ≤ B) :
    ∀ (e m m' i a j : Nat) (rc rm : Nat → Int32), all < a + e → e < m → e < m' → i ≤ 8 * k → j ≤ a → a ≤ all → (∀ z, z < a → rc z = rm z ∧ ∃ t, t ≤ 15 ∧ rc z = nI t) →
    ∃ why i' rc', pX9_readLengths_b4 16 16 16 19 N 316 L fcv of fpv bc (nI (8 * k)) v (nI all) m (nI i) rc (nI a) (nI j) = some (why, nI i', rc') ∧ i ≤ i' ∧ i' ≤ 8 * k ∧
      ((why = 0 ∧ ∃ rm', pX11_toldCodes_b154 Z C D E A B (nI k) mv m' (nI i) 0 ov cdv rm SL DL x1 x2 (nI all) (nI a) = pX11_toldCodes_b350 E A B fb_F (nI i') 0 ov cdv rm' SL DL x1 x2 0 ∧ ∀ z, z < all → rc' z = rm' z ∧ ∃ t, t ≤ 15 ∧ rc' z = nI t) ∨
       (¬ why = 0 ∧ ∃ rm' SL' DL', pX11_toldCodes_b154 Z C D E A B (nI k) mv m' (nI i) 0 ov cdv rm SL DL x1 x2 (nI all) (nI a) = some (nI i', why, ov, cdv, rm', SL', DL') ∧ ∀ z, z < 288 → SL' z = nI 0 ∧ DL' z = nI 0)) := by
  have hm : ∀ j, j < k → ∃ t : Nat, t < 256 ∧ mv j = nI t := fun j hj => (hr j hj).elim (fun t q => ⟨t, q.1, q.2.2⟩)
  intro e
  induction e with
  | zero =>
    intro m m' i a j rc rm h1
    omega
  | succ e ih =>
    intro m m' i a j rc rm h1 hm1 hm2 hi hj ha hrow
    obtain ⟨m, rfl⟩ : ∃ z, m = z + 1 := ⟨m - 1, by omega⟩
    obtain ⟨m', rfl⟩ : ∃ z, m' = z + 1 := ⟨m' - 1, by omega⟩
    rw [pX9_readLengths_b4, pX11_toldCodes_b154]
    dsimp only
    rw [qf_le (by omega) (by omega), qf_le (by omega) (by omega), qf_le (by omega) (by omega)]
    by_cases c0 : all ≤ a
    · have e0 : ∀ P : Prop, [Decidable P] → ∀ x : Option (Int32 × Int32 × (Nat → Int32)), (if P then x else x) = x := by
        intro P _ x
        by_cases q : P
        · rw [if_pos q]
        · rw [if_neg q]
      rw [if_pos c0, if_pos c0, e0]
      exact ⟨0, i, rc, rfl, Nat.le_refl i, hi, Or.inl ⟨rfl, rm, rfl, fun z hz => hrow z (by omega)⟩⟩
    rw [if_neg (by omega : ¬ all ≤ j), if_neg c0, if_neg c0, if_pos (show (0 : Int32) = 0 from rfl), show (19 : Int32) = nI 19 from rfl]
    obtain ⟨r, s', g, i', e1, e2, e3, e4, e5⟩ := sf_rd (Z := Z) (A := C) (B := D) (ov := ov) (cdv := cdv) (n := 19) hN hk hZ hr (by omega) (by omega) hA hB h hc hq hi
    rw [e1, e2, Option.bind_some, Option.bind_some]
    dsimp only
    obtain ⟨m'', hm''⟩ : ∃ z, m' = z + 1 := ⟨m' - 1, by omega⟩
    have hfail : ∀ (i2 : Nat) (g : Int32), ¬ g = 0 → ∃ rm' SL' DL', pX11_toldCodes_b154 Z C D E A B (nI k) mv m' (nI i2) g ov cdv rm SL DL x1 x2 (nI all) (nI a) = some (nI i2, g, ov, cdv, rm', SL', DL') ∧ ∀ z, z < 288 → SL' z = nI 0 ∧ DL' z = nI 0 := by
      intro i2 g hg
      rw [hm'']
      obtain ⟨SL', DL', q1, q2⟩ := sf_t154F (Z := Z) (C := C) (D := D) (E := E) (mv := mv) (S := nI k) (LL := ov) (LC := cdv) (RW := rm) (SL := SL) (DL := DL) (p := nI i2) (m := m'') (x1 := x1) (x2 := x2) (x4 := nI all) (x5 := nI a) hg hfa hfb
      exact ⟨rm, SL', DL', q1, q2⟩
    -- a fault before the number: the reference goes through
    have hthru : ∀ (i2 : Nat) (g t : Int32), ¬ g = 0 → ∀ s6, pX11_toldCodes_b204 E (pX11_toldCodes_b154 Z C D E A B (nI k) mv m') (nI i2) g ov cdv rm SL DL x1 x2 (nI all) (nI a) s6 t = pX11_toldCodes_b154 Z C D E A B (nI k) mv m' (nI i2) g ov cdv rm SL DL x1 x2 (nI all) (nI a) := by
      intro i2 g t hg s6
      have k266 : ∀ x8 t, pX11_toldCodes_b266 E (pX11_toldCodes_b154 Z C D E A B (nI k) mv m') (nI i2) g ov cdv rm SL DL x1 x2 (nI all) (nI a) s6 x8 t = pX11_toldCodes_b154 Z C D E A B (nI k) mv m' (nI i2) g ov cdv rm SL DL x1 x2 (nI all) (nI a) := fun x8 t => sf_t266F (by omega) hE2 hg _ g (sf_canF hg)
      have k236 : ∀ t, pX11_toldCodes_b236 E (pX11_toldCodes_b154 Z C D E A B (nI k) mv m') (nI i2) g ov cdv rm SL DL x1 x2 (nI all) (nI a) s6 t = pX11_toldCodes_b154 Z C D E A B (nI k) mv m' (nI i2) g ov cdv rm SL DL x1 x2 (nI all) (nI a) := by
        intro t
        unfold pX11_toldCodes_b236 pX11_toldCodes_b251
        simp only [k266]
        by_cases q1 : s6 = 16
        · rw [if_pos q1]
          by_cases q2 : nI a = 0
          · rw [if_pos q2]
          · rw [if_neg q2]
            by_cases q3 : nI a + t ≤ nI all
            · rw [if_pos q3]
            · rw [if_neg q3]
        · rw [if_neg q1]
          by_cases q3 : nI a + t ≤ nI all
          · rw [if_pos q3]
          · rw [if_neg q3]
      unfold pX11_toldCodes_b204
      simp only [k236]
      by_cases q1 : 16 ≤ s6
      · rw [if_pos q1]
        by_cases q2 : s6 = 18
        · rw [if_pos q2]
        · rw [if_neg q2]
      · rw [if_neg q1]
    rcases e5 with ⟨y, y1, y2, y3, rfl, rfl, rfl⟩ | ⟨rfl, rfl, rfl, e6⟩ | ⟨rfl, rfl, rfl⟩
    · have hnb := q_nbb y y1
      rw [if_pos (nI_pos' (by omega)), if_pos (show (0 : Int32) = 0 from rfl), q_nb1 y y1, q_nb2 y y1, Option.bind_some, Option.bind_some, sf_number hN hk hr (b := q_nb y) (by omega) e4, sf_tk (mv := mv) hZ (by omega) hm (b := q_nb y) (by omega) e4]
      by_cases c1 : i' + q_nb y ≤ 8 * k
      · have hx1 := q_num_lt mv i' (q_nb y)
        have hx2 : 2 ^ q_nb y ≤ 2 ^ 7 := Nat.pow_le_pow_right (by decide) hnb
        have htm : q_tm y (q_num mv i' (q_nb y)) ≤ 138 ∧ 1 ≤ q_tm y (q_num mv i' (q_nb y)) := by
          unfold q_tm
          split
          · omega
          · split <;> omega
        rw [if_pos c1, if_pos c1, Option.bind_some, Option.bind_some]
        dsimp only
        rw [if_pos (nI_pos' (by omega)), sf_times y1 (by omega), Option.bind_some]
        -- the reference: to b236 with the same number of times
        have hb204 : pX11_toldCodes_b204 E (pX11_toldCodes_b154 Z C D E A B (nI k) mv m') (nI (i' + q_nb y)) 0 ov cdv rm SL DL x1 x2 (nI all) (nI a) (nI y) (nI (q_num mv i' (q_nb y))) = pX11_toldCodes_b236 E (pX11_toldCodes_b154 Z C D E A B (nI k) mv m') (nI (i' + q_nb y)) 0 ov cdv rm SL DL x1 x2 (nI all) (nI a) (nI y) (nI (q_tm y (q_num mv i' (q_nb y)))) := by
          unfold pX11_toldCodes_b204
          rw [show (16 : Int32) = nI 16 from rfl, show (18 : Int32) = nI 18 from rfl, qf_le (by omega) (by omega), qf_eq (by omega) (by omega), show (11 : Int32) = nI 11 from rfl, show (3 : Int32) = nI 3 from rfl, nI_add, nI_add]
          by_cases q1 : 16 ≤ y
          · rw [if_pos q1]
            by_cases q2 : y = 18
            · rw [if_pos q2, q2, q_tm_b]
            · rw [if_neg q2, q_tm_c q1 q2]
          · rw [if_neg q1, q_tm_a (by omega)]
            rfl
        rw [hb204]
        generalize q_tm y (q_num mv i' (q_nb y)) = tm at htm ⊢
        obtain ⟨t1, t2⟩ := htm
        unfold pX11_toldCodes_b236 pX11_toldCodes_b251
        have hbad : ∃ rm' SL' DL', pX11_toldCodes_b266 E (pX11_toldCodes_b154 Z C D E A B (nI k) mv m') (nI (i' + q_nb y)) 0 ov cdv rm SL DL x1 x2 (nI all) (nI a) (nI y) (nI tm) 1 = some (nI (i' + q_nb y), 4, ov, cdv, rm', SL', DL') ∧ ∀ z, z < 288 → SL' z = nI 0 ∧ DL' z = nI 0 := by
          rw [sf_t266F (g := 4) (by omega) hE2 (by decide) _ 0 sf_can1]
          exact hfail _ 4 (by decide)
        rw [show (16 : Int32) = nI 16 from rfl, qf_eq (by omega) (by omega), qf_eq (by omega) (by omega), nI_add, qf_le (by omega) (by omega)]
        -- what both do with a good one
        have hgood : a + tm ≤ all → (y = 16 → 0 < a) → ∃ why i3 rc', pX9_readLengths_b77 316 (nI all) (pX9_readLengths_b4 16 16 16 19 N 316 L fcv of fpv bc (nI (8 * k)) v (nI all) m) (nI (i' + q_nb y)) rc (nI a) (nI j) (nI y) (nI tm) = some (why, nI i3, rc') ∧ i ≤ i3 ∧ i3 ≤ 8 * k ∧
            ((why = 0 ∧ ∃ rm', pX11_toldCodes_b266 E (pX11_toldCodes_b154 Z C D E A B (nI k) mv m') (nI (i' + q_nb y)) 0 ov cdv rm SL DL x1 x2 (nI all) (nI a) (nI y) (nI tm) 0 = pX11_toldCodes_b350 E A B fb_F (nI i3) 0 ov cdv rm' SL DL x1 x2 0 ∧ ∀ z, z < all → rc' z = rm' z ∧ ∃ t, t ≤ 15 ∧ rc' z = nI t) ∨
             (¬ why = 0 ∧ ∃ rm' SL' DL', pX11_toldCodes_b266 E (pX11_toldCodes_b154 Z C D E A B (nI k) mv m') (nI (i' + q_nb y)) 0 ov cdv rm SL DL x1 x2 (nI all) (nI a) (nI y) (nI tm) 0 = some (nI i3, why, ov, cdv, rm', SL', DL') ∧ ∀ z, z < 288 → SL' z = nI 0 ∧ DL' z = nI 0)) := by
          intro hfit hpos
          -- the length that is written
          have hval : ∃ t, t ≤ 15 ∧ (∀ x : Int32, x = nI t → ∃ why i3 rc', pX9_readLengths_b118 316 (pX9_readLengths_b4 16 16 16 19 N 316 L fcv of fpv bc (nI (8 * k)) v (nI all) m) (nI (i' + q_nb y)) rc (nI a) (nI j) (nI tm) x = some (why, nI i3, rc') ∧ i ≤ i3 ∧ i3 ≤ 8 * k ∧
              ((why = 0 ∧ ∃ rm', pX11_toldCodes_b312 E (pX11_toldCodes_b154 Z C D E A B (nI k) mv m') fb_F (nI (i' + q_nb y)) 0 ov cdv rm SL DL x1 x2 (nI all) (nI a) (nI tm) x 0 = pX11_toldCodes_b350 E A B fb_F (nI i3) 0 ov cdv rm' SL DL x1 x2 0 ∧ ∀ z, z < all → rc' z = rm' z ∧ ∃ t, t ≤ 15 ∧ rc' z = nI t) ∨
               (¬ why = 0 ∧ ∃ rm' SL' DL', pX11_toldCodes_b312 E (pX11_toldCodes_b154 Z C D E A B (nI k) mv m') fb_F (nI (i' + q_nb y)) 0 ov cdv rm SL DL x1 x2 (nI all) (nI a) (nI tm) x 0 = some (nI i3, why, ov, cdv, rm', SL', DL') ∧ ∀ z, z < 288 → SL' z = nI 0 ∧ DL' z = nI 0))) ∧
              (if y < 16 then t = y else if y = 16 then (0 < a ∧ rc (a - 1) = nI t) else t = 0) := by
            have hw : ∀ t, t ≤ 15 → (∀ x : Int32, x = nI t → ∃ why i3 rc', pX9_readLengths_b118 316 (pX9_readLengths_b4 16 16 16 19 N 316 L fcv of fpv bc (nI (8 * k)) v (nI all) m) (nI (i' + q_nb y)) rc (nI a) (nI j) (nI tm) x = some (why, nI i3, rc') ∧ i ≤ i3 ∧ i3 ≤ 8 * k ∧
              ((why = 0 ∧ ∃ rm', pX11_toldCodes_b312 E (pX11_toldCodes_b154 Z C D E A B (nI k) mv m') fb_F (nI (i' + q_nb y)) 0 ov cdv rm SL DL x1 x2 (nI all) (nI a) (nI tm) x 0 = pX11_toldCodes_b350 E A B fb_F (nI i3) 0 ov cdv rm' SL DL x1 x2 0 ∧ ∀ z, z < all → rc' z = rm' z ∧ ∃ t, t ≤ 15 ∧ rc' z = nI t) ∨
               (¬ why = 0 ∧ ∃ rm' SL' DL', pX11_toldCodes_b312 E (pX11_toldCodes_b154 Z C D E A B (nI k) mv m') fb_F (nI (i' + q_nb y)) 0 ov cdv rm SL DL x1 x2 (nI all) (nI a) (nI tm) x 0 = some (nI i3, why, ov, cdv, rm', SL', DL') ∧ ∀ z, z < 288 → SL' z = nI 0 ∧ DL' z = nI 0))) := by
              intro t ht x hx
              obtain ⟨rc2, w1, w2⟩ := sf_fill4 (n := 316) (a := a) (b := a + tm) x rc (by omega) (by omega) (by omega)
              have hF : tm < fb_F := by unfold fb_F; omega
              obtain ⟨rm2, w3, w4⟩ := sf_t312 (E := E) (LL := ov) (LC := cdv) (SL := SL) (DL := DL) (p := nI (i' + q_nb y)) (x1 := x1) (x2 := x2) (x4 := nI all) (tm := tm) (a0 := a) (y := x) (R0 := rm) hE2 (by omega) (pX11_toldCodes_b154 Z C D E A B (nI k) mv m') tm fb_F 0 rm (by omega) hF (fun j => by rw [if_neg (by omega)])
              rw [Nat.add_zero, nI_0] at w3
              unfold pX9_readLengths_b118
              rw [nI_add, w1, Option.bind_some, nI_1, w3]
              obtain ⟨why, i3, rc', z1, z2, z3, z4⟩ := ih m m' (i' + q_nb y) (a + tm) (j + 1) rc2 rm2 (by omega) (by omega) (by omega) c1 (by omega) hfit (fun z hz => by
                rw [w2 z, w4 z]
                by_cases q : a ≤ z ∧ z < a + tm
                · rw [if_pos q, if_pos q]
                  exact ⟨rfl, t, ht, hx⟩
                · rw [if_neg q, if_neg q]
                  exact hrow z (by omega))
              exact ⟨why, i3, rc', z1, by omega, z3, z4⟩
            by_cases q1 : y < 16
            · exact ⟨y, by omega, hw y (by omega), by rw [if_pos q1]⟩
            · by_cases q2 : y = 16
              · obtain ⟨-, t, u1, u2⟩ := hrow (a - 1) (by have := hpos q2; omega)
                exact ⟨t, u1, hw t u1, by rw [if_neg q1, if_pos q2]; exact ⟨hpos q2, u2⟩⟩
              · exact ⟨0, by omega, hw 0 (by omega), by rw [if_neg q1, if_neg q2]⟩
          obtain ⟨t, u1, u2, u3⟩ := hval
          unfold pX9_readLengths_b77 pX11_toldCodes_b266
          rw [sf_can0, Option.bind_some, pk_sub ha, qf_le (by omega) (by omega), if_pos (by omega), show (16 : Int32) = nI 16 from rfl, qf_le (by omega) (by omega), qf_le (by omega) (by omega), qf_eq (by omega) (by omega), qf_eq (by omega) (by omega)]
          by_cases q1 : y < 16
          · rw [if_pos q1] at u3
            rw [if_neg (show ¬ 16 ≤ y by omega), if_neg (show ¬ 16 ≤ y by omega)]
            exact u2 (nI y) (by rw [u3])
          · rw [if_neg q1] at u3
            rw [if_pos (show 16 ≤ y by omega), if_pos (show 16 ≤ y by omega)]
            by_cases q2 : y = 16
            · rw [if_pos q2] at u3
              have hrm := (hrow (a - 1) (by omega)).1
              rw [if_pos q2, if_pos q2, if_neg (nI_nle u3.1 (by omega)), show (1 : Int32) = nI 1 from rfl, pk_sub (by omega), qf_out (by omega), if_neg (by omega), qf_out (by omega), if_neg (by omega), nI_clamp (by omega), ← hrm]
              exact u2 _ u3.2
            · rw [if_neg q2] at u3
              rw [if_neg q2, if_neg q2]
              exact u2 0 (by rw [u3, nI_0])
        have hover : ¬ a + tm ≤ all → pX9_readLengths_b77 316 (nI all) (pX9_readLengths_b4 16 16 16 19 N 316 L fcv of fpv bc (nI (8 * k)) v (nI all) m) (nI (i' + q_nb y)) rc (nI a) (nI j) (nI y) (nI tm) = some (4, nI (i' + q_nb y), rc) := by
          intro q
          unfold pX9_readLengths_b77
          rw [pk_sub ha, qf_le (by omega) (by omega), if_neg (by omega)]
        by_cases c2 : y = 16
        · rw [if_pos c2, if_pos c2, show (0 : Int32) = nI 0 from rfl, qf_eq (by omega) (by omega), qf_eq (by omega) (by omega)]
          by_cases c3 : a = 0
          · rw [if_pos c3, if_pos c3]
            exact ⟨4, i' + q_nb y, rc, rfl, by omega, c1, Or.inr ⟨by decide, hbad⟩⟩
          · rw [if_neg c3, if_neg c3]
            by_cases c4 : a + tm ≤ all
            · rw [if_pos c4]
              exact hgood c4 (fun _ => by omega)
            · rw [if_neg c4, hover c4]
              exact ⟨4, i' + q_nb y, rc, rfl, by omega, c1, Or.inr ⟨by decide, hbad⟩⟩
        · rw [if_neg c2, if_neg c2]
          by_cases c4 : a + tm ≤ all
          · rw [if_pos c4]
            exact hgood c4 (fun q => absurd q c2)
          · rw [if_neg c4, hover c4]
            exact ⟨4, i' + q_nb y, rc, rfl, by omega, c1, Or.inr ⟨by decide, hbad⟩⟩
      · rw [if_neg c1, if_neg c1, Option.bind_some, Option.bind_some]
        dsimp only
        rw [if_neg (by decide), hthru _ 1 _ (by decide)]
        exact ⟨1, 8 * k, rc, rfl, by omega, by omega, Or.inr ⟨by decide, hfail _ 1 (by decide)⟩⟩
    · rw [if_neg (by decide), if_neg (by decide), hthru _ 1 _ (by decide)]
      exact ⟨1, i', rc, rfl, by omega, e4, Or.inr ⟨by decide, hfail _ 1 (by decide)⟩⟩
    · rw [if_neg (by decide), if_neg (by decide), hthru _ 5 _ (by decide)]
      exact ⟨5, i', rc, rfl, by omega, e4, Or.inr ⟨by decide, hfail _ 5 (by decide)⟩⟩
end QE
