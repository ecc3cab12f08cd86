/-! ### codes that are told: class and reference -/
section QF
variable {k N A B C D E Z : Nat} {v mv : Nat → Int32}
theorem q_num_add (i a : Nat) : ∀ b, q_num mv i (a + b) = q_num mv i a + 2 ^ a * q_num mv (i + a) b
  | 0 => by simp [q_num]
  | b + 1 => by
    have h := q_num_add i a b
    show q_num mv i (a + b) + q_B mv (i + (a + b)) * 2 ^ (a + b) = q_num mv i a + 2 ^ a * (q_num mv (i + a) b + q_B mv (i + a + b) * 2 ^ b)
    rw [h, Nat.mul_add, Nat.pow_add, Nat.add_assoc i a b, ← Nat.add_assoc, Nat.mul_left_comm, Nat.add_assoc]
theorem sf_t52 {LC RW SL DL : Nat → Int32} {p g S x1 x2 x3 : Int32} (hC : 19 ≤ C) (hC2 : C ≤ 80000) : ∀ (d m i : Nat) (LL : Nat → Int32), 19 = i + d → d < m → (∀ j, j < i → LL j = 0) →
    ∃ LL', pX11_toldCodes_b52 Z C D E A B S mv m p g LL LC RW SL DL x1 x2 x3 (nI i) = pX11_toldCodes_b76 Z C D E A B S mv fb_F p g LL' LC RW SL DL x1 x2 x3 0 ∧ ∀ j, j < 19 → LL' j = 0 := by
  intro d
  induction d with
  | zero =>
    intro m i LL hi hm h
    obtain ⟨m, rfl⟩ : ∃ z, m = z + 1 := ⟨m - 1, by omega⟩
    have e : i = 19 := by omega
    subst e
    rw [pX11_toldCodes_b52]
    dsimp only
    rw [if_pos (by decide)]
    exact ⟨LL, rfl, h⟩
  | succ d ih =>
    intro m i LL hi hm h
    obtain ⟨m, rfl⟩ : ∃ z, m = z + 1 := ⟨m - 1, by omega⟩
    rw [pX11_toldCodes_b52]
    dsimp only
    rw [show (19 : Int32) = nI 19 from rfl, qf_le (by omega) (by omega), if_neg (by omega), qf_out (by omega), if_neg (by omega), nI_clamp (by omega), nI_1]
    refine ih m (i + 1) _ (by omega) (by omega) (fun j hj => ?_)
    by_cases e : j = i
    · subst e; exact pk_us
    · rw [pk_un e]; exact h j (by omega)
theorem sf_t76F {LL LC RW SL DL : Nat → Int32} {p g S x1 x2 x3 x4 : Int32} {m : Nat} (hg : ¬ g = 0) : pX11_toldCodes_b76 Z C D E A B S mv (m + 1) p g LL LC RW SL DL x1 x2 x3 x4 = pX11_toldCodes_b110 Z C D E A B S mv p g LL LC RW SL DL x1 x2 := by
  rw [pX11_toldCodes_b76]
  dsimp only
  by_cases c : x3 ≤ x4
  · rw [if_pos c]
  · rw [if_neg c, if_neg hg]
/-- a fault ahead of the lengths of lengths -/
theorem sf_t45F {LL LC RW SL DL : Nat → Int32} {p g S x1 x2 x3 t : Int32} {g0 : Int32} (h0 : pX11_cannot t 4 g0 = some g) (hg : ¬ g = 0) (hA : 288 ≤ A) (hB : 288 ≤ B) (hC : 19 ≤ C) (hC2 : C ≤ 80000) (hD : 19 ≤ D) :
    ∃ LL' LC' SL' DL', pX11_toldCodes_b45 Z C D E A B S mv p g0 LL LC RW SL DL x1 x2 x3 t = some (p, g, LL', LC', RW, SL', DL') ∧ ∀ j, j < 288 → SL' j = nI 0 ∧ DL' j = nI 0 := by
  unfold pX11_toldCodes_b45
  rw [h0, Option.bind_some]
  have hF : 19 < fb_F := by unfold fb_F; omega
  obtain ⟨LL', e1, e2⟩ := sf_t52 (Z := Z) (D := D) (E := E) (A := A) (B := B) (mv := mv) (LC := LC) (RW := RW) (SL := SL) (DL := DL) (p := p) (g := g) (S := S) (x1 := x1) (x2 := x2) (x3 := x3) hC hC2 19 fb_F 0 LL (by omega) hF (fun j hj => absurd hj (Nat.not_lt_zero j))
  rw [nI_0] at e1
  rw [e1, show fb_F = 4294967295 + 1 from rfl, sf_t76F hg]
  obtain ⟨LC', SL', DL', e3, e4⟩ := sf_t110F (Z := Z) (C := C) (D := D) (E := E) (mv := mv) (S := S) (LL := LL') (LC := LC) (RW := RW) (SL := SL) (DL := DL) (p := p) (x1 := x1) (x2 := x2) (fl := fun _ => 0) hg hA hB hC hD (fun j hj => ⟨by rw [e2 j hj]; rfl, by omega⟩)
  exact ⟨LL', LC', SL', DL', e3, e4⟩
/-- the lengths of lengths -/
theorem sf_tellL {RW SL DL LC : Nat → Int32} {x1 x2 : Int32} {n : Nat} {of fcv fpv gv cv bc : Nat → Int32} {L : Int32} (hN : N ≤ 80000) (hk : k ≤ N) (hZ : k ≤ Z) (hr : ∀ j, j < k → ∃ t : Nat, t < 256 ∧ v j = yb t ∧ mv j = nI t) (hn : n ≤ 19) (hA : 288 ≤ A) (hB : 288 ≤ B) (hC : 19 ≤ C) (hC2 : C ≤ 80000) (hD : 19 ≤ D) (h0 : fcv 0 = 0) (h1 : fpv 0 = 0) :
    ∀ (d m m' j i : Nat) (lc LL : Nat → Int32), n = j + d → d < m → d + 1 < m' → i ≤ 8 * k → (∀ z, z < 19 → lc z = LL z ∧ ∃ t, t ≤ 7 ∧ lc z = nI t) →
    ∃ why i' L' lc' of' fc' fp' gv' cv' bc', pX9_readTelling_b13 19 N 16 16 16 16 19 19 (nI (8 * k)) v (nI n) m L lc (nI i) of fcv fpv gv cv bc (nI j) = some (why, L', lc', nI i', of', fc', fp', gv', cv', bc') ∧ fc' 0 = 0 ∧ fp' 0 = 0 ∧ i ≤ i' ∧ i' ≤ 8 * k ∧
      ((why = 0 ∧ ∃ f LL' LC', q_codes 19 f L' of' fc' fp' cv' bc' ∧ (∀ j, j < 19 → LL' j = nI (f j) ∧ f j ≤ 15) ∧ (∀ j, j < 19 → f j ≠ 0 → LC' j = nI (q_fc f 19 (f j) + q_cnt f (f j) j)) ∧
          pX11_toldCodes_b76 Z C D E A B (nI k) mv m' (nI i) 0 LL LC RW SL DL x1 x2 (nI n) (nI j) = pX11_toldCodes_b154 Z C D E A B (nI k) mv fb_F (nI i') 0 LL' LC' RW SL DL x1 x2 (x1 + x2) 0) ∨
       (¬ why = 0 ∧ ∃ LL' LC' SL' DL', pX11_toldCodes_b76 Z C D E A B (nI k) mv m' (nI i) 0 LL LC RW SL DL x1 x2 (nI n) (nI j) = some (nI i', why, LL', LC', RW, SL', DL') ∧ ∀ z, z < 288 → SL' z = nI 0 ∧ DL' z = nI 0)) := by
  have hm : ∀ j, j < k → ∃ t : Nat, t < 256 ∧ mv j = nI t := fun j hj => (hr j hj).elim (fun t q => ⟨t, q.1, q.2.2⟩)
  intro d
  induction d with
  | zero =>
    intro m m' j i lc LL hj hm1 hm2 hi hrow
    obtain ⟨m, rfl⟩ : ∃ z, m = z + 1 := ⟨m - 1, by omega⟩
    obtain ⟨m', rfl⟩ : ∃ z, m' = z + 1 := ⟨m' - 1, by omega⟩
    have e : j = n := by omega
    subst e
    -- the lengths as numbers
    have hf : ∃ f : Nat → Nat, ∀ z, z < 19 → lc z = nI (f z) ∧ LL z = nI (f z) ∧ f z ≤ 15 := by
      refine ⟨fun z => (lc z).toNatClampNeg, fun z hz => ?_⟩
      obtain ⟨a1, t, a2, a3⟩ := hrow z hz
      have : (lc z).toNatClampNeg = t := by rw [a3, nI_clamp (by omega)]
      dsimp only
      rw [this]
      exact ⟨a3, by rw [← a1]; exact a3, by omega⟩
    obtain ⟨f, hf⟩ := hf
    obtain ⟨L', of', fc', fp', gv', cv', bc', e1, e2⟩ := sf_assign (N := 19) (lv := lc) (of := of) (fcv := fcv) (fpv := fpv) (gv := gv) (cv := cv) (bc := bc) (f := f) (by omega) (fun z hz => ⟨(hf z hz).1, (hf z hz).2.2⟩) h0 h1
    have hl : ∀ z, z < 19 → LL z = nI (f z) ∧ f z ≤ 15 := fun z hz => ⟨(hf z hz).2.1, (hf z hz).2.2⟩
    obtain ⟨LC', a1, a2⟩ := sf_find (n := 19) (A := C) (B := D) (ov := LL) (to := LC) (f := f) (by omega) hC hD hl
    rw [pX9_readTelling_b13, pX11_toldCodes_b76]
    dsimp only
    rw [if_pos (nI_le (Nat.le_refl j) (by omega)), if_pos (nI_le (Nat.le_refl j) (by omega))]
    unfold pX9_readTelling_b59 pX11_toldCodes_b110
    rw [e1, Option.bind_some]
    dsimp only
    rw [sf_compl (n := 19) (by omega) (fun l hl => (e2.2.1 l hl).1), Option.bind_some, show (19 : Int32) = nI 19 from rfl, sf_isC (by omega) hC hl, Option.bind_some]
    have z0 := e2.2.1 0 (by omega)
    by_cases c : q_U f 19 15 = 32768
    · rw [if_pos c, if_neg (by decide), if_neg (by decide)]
      unfold pX11_toldCodes_b128
      rw [sf_can0, Option.bind_some, show (19 : Int32) = nI 19 from rfl, a1, Option.bind_some]
      exact ⟨0, i, L', lc, of', fc', fp', gv', cv', bc', rfl, by rw [z0.2.1]; rfl, by rw [z0.2.2]; rfl, Nat.le_refl i, hi, Or.inl ⟨rfl, f, LL, LC', e2, hl, a2, rfl⟩⟩
    · rw [if_neg c, if_pos rfl, if_pos rfl]
      unfold pX11_toldCodes_b128
      rw [sf_can1, Option.bind_some, show (19 : Int32) = nI 19 from rfl, a1, Option.bind_some, show fb_F = 4294967295 + 1 from rfl]
      obtain ⟨SL', DL', q1, q2⟩ := sf_t154F (Z := Z) (C := C) (D := D) (E := E) (mv := mv) (S := nI k) (LL := LL) (LC := LC') (RW := RW) (SL := SL) (DL := DL) (p := nI i) (g := 4) (m := 4294967295) (x1 := x1) (x2 := x2) (x4 := x1 + x2) (x5 := 0) (by decide) hA hB
      exact ⟨4, i, L', lc, of', fc', fp', gv', cv', bc', rfl, by rw [z0.2.1]; rfl, by rw [z0.2.2]; rfl, Nat.le_refl i, hi, Or.inr ⟨by decide, LL, LC', SL', DL', q1, q2⟩⟩
  | succ d ih =>
    intro m m' j i lc LL hj hm1 hm2 hi hrow
    obtain ⟨m, rfl⟩ : ∃ z, m = z + 1 := ⟨m - 1, by omega⟩
    obtain ⟨m', rfl⟩ : ∃ z, m' = z + 1 := ⟨m' - 1, by omega⟩
    obtain ⟨o, o1, o2⟩ := q_ord3 j (by omega)
    rw [pX9_readTelling_b13, pX11_toldCodes_b76]
    dsimp only
    rw [qf_le (by omega) (by omega), qf_le (by omega) (by omega), if_neg (by omega : ¬ n ≤ j), if_neg (by omega : ¬ n ≤ j), show (19 : Int32) = nI 19 from rfl, qf_le (by omega) (by omega), if_neg (by omega : ¬ 19 ≤ j), if_pos (show (0 : Int32) = 0 from rfl), q_ord2 j (by omega), Option.bind_some, show (3 : Int32) = nI 3 from rfl, sf_number hN hk hr (b := 3) (by omega) hi, sf_tk (mv := mv) hZ (by omega) hm (b := 3) (by omega) hi]
    by_cases c : i + 3 ≤ 8 * k
    · have hx := q_num_lt mv i 3
      have hx2 : (2 : Nat) ^ 3 = 8 := by decide
      rw [if_pos c, if_pos c, Option.bind_some, Option.bind_some]
      dsimp only
      rw [if_pos (nI_pos' (by omega)), qf_out (by omega), if_neg (by omega), nI_clamp (by omega), o2, qf_out (by omega), if_neg (by omega), qf_out (by omega), if_neg (by omega), nI_clamp (by omega), nI_1]
      obtain ⟨why, i', L', lc', of', fc', fp', gv', cv', bc', e1, e2, e3, e4, e5, e6⟩ := ih m m' (j + 1) (i + 3) (upd lc o (nI (q_num mv i 3))) (upd LL o (nI (q_num mv i 3))) (by omega) (by omega) (by omega) c (fun z hz => by
        by_cases q : z = o
        · subst q
          rw [pk_us, pk_us]
          exact ⟨rfl, _, by omega, rfl⟩
        · rw [pk_un q, pk_un q]
          exact hrow z hz)
      exact ⟨why, i', L', lc', of', fc', fp', gv', cv', bc', e1, e2, e3, by omega, e5, e6⟩
    · have hx := q_num_lt mv i (8 * k - i)
      have hx3 : 2 ^ (8 * k - i) ≤ 2 ^ 3 := Nat.pow_le_pow_right (by decide) (by omega)
      obtain ⟨m', rfl⟩ : ∃ z, m' = z + 1 := ⟨m' - 1, by omega⟩
      rw [if_neg c, if_neg c, Option.bind_some, Option.bind_some]
      dsimp only
      rw [if_neg (by decide), o2, qf_out (by omega), if_neg (by omega), nI_clamp (by omega), sf_t76F (by decide)]
      obtain ⟨LC', SL', DL', q1, q2⟩ := sf_t110F (Z := Z) (C := C) (D := D) (E := E) (mv := mv) (S := nI k) (LL := upd LL o (nI (q_num mv i (8 * k - i)))) (LC := LC) (RW := RW) (SL := SL) (DL := DL) (p := nI (8 * k)) (g := 1) (x1 := x1) (x2 := x2) (fl := fun z => (upd LL o (nI (q_num mv i (8 * k - i))) z).toNatClampNeg) (by decide) hA hB hC hD (fun z hz => by
        by_cases q : z = o
        · subst q
          rw [pk_us, nI_clamp (by omega)]
          exact ⟨rfl, by omega⟩
        · rw [pk_un q]
          obtain ⟨a1, t, a2, a3⟩ := hrow z hz
          rw [← a1, a3, nI_clamp (by omega)]
          exact ⟨rfl, by omega⟩)
      exact ⟨1, 8 * k, L, lc, of, fcv, fpv, gv, cv, bc, rfl, h0, h1, by omega, by omega, Or.inr ⟨by decide, _, LC', SL', DL', q1, q2⟩⟩
theorem sf_telling {LL RW SL DL LC : Nat → Int32} {x1 x2 : Int32} {n i : Nat} {lc of fcv fpv gv cv bc : Nat → Int32} {L : Int32} (hN : N ≤ 80000) (hk : k ≤ N) (hZ : k ≤ Z) (hr : ∀ j, j < k → ∃ t : Nat, t < 256 ∧ v j = yb t ∧ mv j = nI t) (hn : n ≤ 19) (hA : 288 ≤ A) (hB : 288 ≤ B) (hC : 19 ≤ C) (hC2 : C ≤ 80000) (hD : 19 ≤ D) (h0 : fcv 0 = 0) (h1 : fpv 0 = 0) (hi : i ≤ 8 * k) :
    ∃ why i' L' lc' of' fc' fp' gv' cv' bc', pX9_readTelling 19 N 16 16 16 16 19 19 (nI (8 * k)) v (nI n) L lc (nI i) of fcv fpv gv cv bc = some (why, L', lc', nI i', of', fc', fp', gv', cv', bc') ∧ fc' 0 = 0 ∧ fp' 0 = 0 ∧ i ≤ i' ∧ i' ≤ 8 * k ∧
      ((why = 0 ∧ ∃ f LL' LC', q_codes 19 f L' of' fc' fp' cv' bc' ∧ (∀ j, j < 19 → LL' j = nI (f j) ∧ f j ≤ 15) ∧ (∀ j, j < 19 → f j ≠ 0 → LC' j = nI (q_fc f 19 (f j) + q_cnt f (f j) j)) ∧
          pX11_toldCodes_b45 Z C D E A B (nI k) mv (nI i) 0 LL LC RW SL DL x1 x2 (nI n) 0 = pX11_toldCodes_b154 Z C D E A B (nI k) mv fb_F (nI i') 0 LL' LC' RW SL DL x1 x2 (x1 + x2) 0) ∨
       (¬ why = 0 ∧ ∃ LL' LC' SL' DL', pX11_toldCodes_b45 Z C D E A B (nI k) mv (nI i) 0 LL LC RW SL DL x1 x2 (nI n) 0 = some (nI i', why, LL', LC', RW, SL', DL') ∧ ∀ z, z < 288 → SL' z = nI 0 ∧ DL' z = nI 0)) := by
  have hF : 20 < fb_F := by unfold fb_F; omega
  obtain ⟨LL', e1, e2⟩ := sf_t52 (Z := Z) (D := D) (E := E) (A := A) (B := B) (mv := mv) (LC := LC) (RW := RW) (SL := SL) (DL := DL) (p := nI i) (g := 0) (S := nI k) (x1 := x1) (x2 := x2) (x3 := nI n) hC hC2 19 fb_F 0 LL (by omega) (by omega) (fun j hj => absurd hj (Nat.not_lt_zero j))
  obtain ⟨lc', a1, a2⟩ := sf_fillC (n := 19) (a := 0) (b := 19) 0 lc (by omega) (by omega) (by omega)
  rw [nI_0] at e1 a1
  unfold pX9_readTelling pX11_toldCodes_b45
  rw [sf_can0, Option.bind_some, e1, show (19 : Int32) = nI 19 from rfl, a1, Option.bind_some]
  have key := sf_tellL (E := E) (RW := RW) (SL := SL) (DL := DL) (LC := LC) (x1 := x1) (x2 := x2) (of := of) (gv := gv) (cv := cv) (bc := bc) (L := L) hN hk hZ hr hn hA hB hC hC2 hD h0 h1 n fb_F fb_F 0 i lc' LL' (by omega) (by omega) (by omega) hi (fun z hz => by
    rw [a2 z, if_pos (by omega), e2 z hz]
    exact ⟨rfl, 0, by omega, rfl⟩)
  rw [nI_0] at key
  exact key
/-! ### all told -/
theorem sf_tell {n S T : Nat} {lv rw_ : Nat → Int32} {r : Nat → Nat} (hn : n ≤ 288) (hS : S + T ≤ 316) (hT : T ≤ n) (h : ∀ j, j < S + T → rw_ j = nI (r j) ∧ r j ≤ 15) :
    ∃ l', pX2_tell n 316 rw_ (nI S) (nI T) lv = some l' ∧ ∀ j, j < n → l' j = nI (q_ls T (fun z => r (S + z)) j) ∧ q_ls T (fun z => r (S + z)) j ≤ 15 := by
  obtain ⟨u, a1, a2, -⟩ := sf_fill (n := n) 0 lv (by omega)
  have h0 : (0 : Int32).toNatClampNeg = 0 := rfl
  unfold pX2_tell
  rw [a1, Option.bind_some, h0, nI_clamp (by omega), nI_clamp (by omega), if_pos ⟨nI_pos (by omega), by decide, nI_pos (by omega), by omega, by omega⟩]
  refine ⟨_, rfl, fun j hj => ?_⟩
  unfold q_ls
  by_cases c : j < T
  · rw [if_pos c, pk_cpy_in (Nat.zero_le j) (by omega)]
    have e : S + (j - 0) = S + j := by omega
    rw [e]
    exact h (S + j) (by omega)
  · rw [if_neg c, pk_cpy_out (by omega), a2 j hj]
    exact ⟨rfl, by omega⟩
theorem q_32 {f : Nat → Nat} (h1 : f 30 = 0) (h2 : f 31 = 0) : q_U f 32 15 = q_U f 30 15 ∧ q_mx f 32 = q_mx f 30 ∧ q_cnt f 1 32 = q_cnt f 1 30 := by
  refine ⟨?_, ?_, ?_⟩
  · rw [q_Us f 31, q_Us f 30, if_neg (by omega), if_neg (by omega)]
    rfl
  · show (if q_mx f 31 < f 31 then f 31 else q_mx f 31) = _
    rw [if_neg (by omega)]
    show (if q_mx f 30 < f 30 then f 30 else q_mx f 30) = _
    rw [if_neg (by omega)]
  · show q_cnt f 1 31 + (if f 31 = 1 then 1 else 0) = _
    rw [if_neg (by omega)]
    show q_cnt f 1 30 + (if f 30 = 1 then 1 else 0) + 0 = _
    rw [if_neg (by omega)]
    rfl
theorem sf_us34 {fd : Nat → Nat} {dof : Nat → Int32} (h1 : fd 30 = 0) (h2 : fd 31 = 0) (hb : ∀ j, j < 32 → fd j ≤ 15) (hof : ∀ l, l < 16 → dof l = nI (q_c fd 32 l)) : ∃ r, pX9_areUsable_b34 16 (nI (q_mx fd 32)) dof = some r ∧ (r = 0 ↔ ¬ q_gd fd) := by
  obtain ⟨g1, g2, g3⟩ := q_32 h1 h2
  have hmx : q_mx fd 32 ≤ 15 := q_mx_le hb
  have hone : q_one fd 32 ↔ q_one fd 30 := by unfold q_one; rw [g2, g3]
  unfold pX9_areUsable_b34 q_gd
  rw [sf_compl (n := 32) (by omega) hof, Option.bind_some, g1]
  by_cases c1 : q_U fd 30 15 = 32768
  · rw [if_pos c1, if_neg (by decide)]
    exact ⟨1, rfl, fun z => absurd z (by decide), fun z => absurd (Or.inl c1) z⟩
  rw [if_neg c1, if_pos rfl]
  obtain ⟨r, r1, r2, r3⟩ := sf_alone (n := 32) (f := fd) (of := dof) (by omega) hmx hof
  rw [r1, Option.bind_some]
  by_cases c2 : r = 0
  · rw [if_pos c2]
    obtain ⟨r', s1, s2⟩ := sf_none (n := 32) (f := fd) hmx
    rw [s1, Option.bind_some]
    by_cases c3 : r' = 0
    · rw [if_pos c3]
      refine ⟨0, rfl, fun _ z => ?_, fun _ => rfl⟩
      rcases z with z | z | z
      · exact c1 z
      · exact r3.mp c2 (hone.mpr z)
      · exact s2.mp c3 (by rw [g2]; exact z)
    · rw [if_neg c3]
      exact ⟨1, rfl, fun z => absurd z (by decide), fun z => absurd (Or.inr (Or.inr (Classical.byContradiction (fun q => c3 (s2.mpr (by rw [g2]; exact q)))))) z⟩
  · rw [if_neg c2]
    exact ⟨1, rfl, fun z => absurd z (by decide), fun z => absurd (Or.inr (Or.inl (Classical.byContradiction (fun q => c2 (r3.mpr (fun w => q (hone.mp w))))))) z⟩
theorem sf_usable {fs fd : Nat → Nat} {sl sof dof : Nat → Int32} (hs : ∀ j, j < 288 → sl j = nI (fs j) ∧ fs j ≤ 15) (hsf : ∀ l, l < 16 → sof l = nI (q_c fs 288 l)) (h1 : fd 30 = 0) (h2 : fd 31 = 0) (hb : ∀ j, j < 32 → fd j ≤ 15) (hof : ∀ l, l < 16 → dof l = nI (q_c fd 32 l)) :
    ∃ r, pX9_areUsable 288 16 16 (nI (q_mx fs 288)) sl sof (nI (q_mx fd 32)) dof = some r ∧ (r = 0 ↔ ¬ (q_gs fs ∧ q_gd fd)) := by
  have hmx : q_mx fs 288 ≤ 15 := q_mx_le (fun j hj => (hs j hj).2)
  have h256 := hs 256 (by omega)
  obtain ⟨rd, d1, d2⟩ := sf_us34 h1 h2 hb hof
  unfold pX9_areUsable q_gs
  rw [show (256 : Int32) = nI 256 from rfl, qf_out (by omega), if_neg (by omega), nI_clamp (by omega), h256.1]
  by_cases c : fs 256 = 0
  · rw [c, if_pos (by decide)]
    exact ⟨0, rfl, fun _ z => z.1.1 rfl, fun _ => rfl⟩
  rw [if_neg (nI_nle (by omega) (by omega)), sf_compl (n := 288) (by omega) hsf, Option.bind_some]
  by_cases c1 : q_U fs 288 15 = 32768
  · rw [if_pos c1, if_neg (by decide), d1]
    exact ⟨rd, rfl, fun z w => d2.mp z w.2, fun z => d2.mpr (fun w => z ⟨⟨c, Or.inl c1⟩, w⟩)⟩
  rw [if_neg c1, if_pos rfl]
  obtain ⟨r, r1, r2, r3⟩ := sf_alone (n := 288) (f := fs) (of := sof) (by omega) hmx hsf
  rw [r1, Option.bind_some]
  by_cases c2 : r = 0
  · rw [if_pos c2]
    refine ⟨0, rfl, fun _ z => ?_, fun _ => rfl⟩
    rcases z.1.2 with w | w
    · exact c1 w
    · exact r3.mp c2 w
  · rw [if_neg c2, d1]
    exact ⟨rd, rfl, fun z w => d2.mp z w.2, fun z => d2.mpr (fun w => z ⟨⟨c, Or.inr (Classical.byContradiction (fun q => c2 (r3.mpr q)))⟩, w⟩)⟩
end QF
