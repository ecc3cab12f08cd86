/-! ### the symbols of a block -/
section QL
variable {rt k N Z No A1 B1 A2 B2 : Nat} {v mv sov scv dov dcv sof sfc sfp sc sbc dof dfc dfp dc dbc : Nat → Int32} {fs fd : Nat → Nat} {Ls Ld : Int32}
theorem sf_b31F {m : Nat} {r S os p g x : Int32} {ov : Nat → Int32} (hg : ¬ g = 0) : pX11_codedBlock_b31 A1 B1 A2 B2 Z No r S sov dov mv (m + 1) os p g scv dcv ov x = some (os, p, g, scv, dcv, ov) := by
  rw [pX11_codedBlock_b31]
  dsimp only
  rw [if_neg hg]
theorem sf_b100F {r S os p g x : Int32} {ov : Nat → Int32} (K : Int32 → Int32 → Int32 → (Nat → Int32) → (Nat → Int32) → (Nat → Int32) → Int32 → Option (Int32 × Int32 × Int32 × (Nat → Int32) × (Nat → Int32) × (Nat → Int32))) (hg : ¬ g = 0) : pX11_codedBlock_b100 A2 B2 Z No r S dov mv K os p g scv dcv ov x = K os p g scv dcv ov x := by
  unfold pX11_codedBlock_b100
  rw [if_neg hg]
theorem sf_b74F {r S os p g x t : Int32} {ov : Nat → Int32} (K : Int32 → Int32 → Int32 → (Nat → Int32) → (Nat → Int32) → (Nat → Int32) → Int32 → Option (Int32 × Int32 × Int32 × (Nat → Int32) × (Nat → Int32) × (Nat → Int32))) (hg : ¬ g = 0) : pX11_codedBlock_b74 A2 B2 Z No r S dov mv K os p g scv dcv ov x t = K os p g scv dcv ov x := by
  unfold pX11_codedBlock_b74
  rw [sf_canF hg, Option.bind_some, if_neg hg, sf_b100F K hg]
theorem sf_symsL (hN : N ≤ 80000) (hk : k ≤ N) (hZ : k ≤ Z) (hr : ∀ j, j < k → ∃ t : Nat, t < 256 ∧ v j = yb t ∧ mv j = nI t) (hrt : rt ≤ No) (hNo : No ≤ 80000) (hA1 : 288 ≤ A1) (hB1 : 288 ≤ B1) (hA2 : 32 ≤ A2) (hB2 : 32 ≤ B2)
    (hs : ∀ j, j < 288 → sov j = nI (fs j) ∧ fs j ≤ 15) (hsc : ∀ j, j < 288 → fs j ≠ 0 → scv j = nI (q_fc fs 288 (fs j) + q_cnt fs (fs j) j)) (hqs : q_codes 288 fs Ls sof sfc sfp sc sbc)
    (hd : ∀ j, j < 32 → dov j = nI (fd j) ∧ fd j ≤ 15) (hdc : ∀ j, j < 32 → fd j ≠ 0 → dcv j = nI (q_fc fd 32 (fd j) + q_cnt fd (fd j) j)) (hqd : q_codes 32 fd Ld dof dfc dfp dc dbc) :
    ∀ (e m m' i j q : Nat) (s : Int32) (uv ov : Nat → Int32), 8 * k < i + e → e < m → e + 1 < m' → i ≤ 8 * k → j ≤ i → q ≤ rt → ¬ s = 256 → (∀ j, j < q → ∃ t : Nat, t < 256 ∧ uv j = yb t ∧ ov j = nI t) →
    ∃ why i' us' uv' os' ov', pX9_readSymbols_b2 16 16 16 288 N rt 16 16 16 32 (nI (8 * k)) Ls sfc sof sfp sbc v Ld dfc dof dfp dbc m (nI i) (nI q) uv (nI j) = some (why, nI i', us', uv') ∧
      pX11_codedBlock_b31 A1 B1 A2 B2 Z No (nI rt) (nI k) sov dov mv m' (nI q) (nI i) 0 scv dcv ov s = some (os', nI i', why, scv, dcv, ov') ∧ q_end rt k i why i' us' uv' os' ov' := by
  intro e
  induction e with
  | zero =>
    intro m m' i j q s uv ov h1
    omega
  | succ e ih =>
    intro m m' i j q s uv ov h1 hm hm' hi hj hq hs9 h
    obtain ⟨m, rfl⟩ : ∃ z, m = z + 1 := ⟨m - 1, by omega⟩
    obtain ⟨m', rfl⟩ : ∃ z, m' = z + 1 := ⟨m' - 1, by omega⟩
    obtain ⟨m'', hm''⟩ : ∃ z, m' = z + 1 := ⟨m' - 1, by omega⟩
    rw [pX9_readSymbols_b2, pX11_codedBlock_b31]
    dsimp only
    rw [qf_lt (by omega) (by omega), if_neg (by omega : ¬ 8 * k < j), if_pos (show (0 : Int32) = 0 from rfl), if_neg hs9, show (288 : Int32) = nI 288 from rfl]
    obtain ⟨r, s', g, i', e1, e2, e3, e4, e5⟩ := sf_rd (Z := Z) (A := A1) (B := B1) (ov := sov) (cdv := scv) (n := 288) hN hk hZ hr (by omega) (by omega) hA1 hB1 hs hsc hqs hi
    rw [e1, e2, Option.bind_some, Option.bind_some]
    dsimp only
    rcases e5 with ⟨y, y1, y2, y3, rfl, rfl, rfl⟩ | ⟨rfl, rfl, rfl, e6⟩ | ⟨rfl, rfl, rfl⟩
    · rw [if_pos (nI_pos' (by omega)), show (256 : Int32) = nI 256 from rfl, show (285 : Int32) = nI 285 from rfl]
      rw [qf_eq (by omega) (by omega), qf_le (by omega) (by omega), qf_le (by omega) (by omega)]
      by_cases c1 : y = 256
      · subst c1
        rw [if_pos rfl, if_pos (by omega)]
        unfold pX11_codedBlock_b74 pX11_codedBlock_b100
        rw [sf_can0, Option.bind_some, if_pos (show (0 : Int32) = 0 from rfl), if_pos (by decide), if_pos (show (0 : Int32) = 0 from rfl), if_pos (by decide), hm'', pX11_codedBlock_b31]
        dsimp only
        rw [if_pos (show (0 : Int32) = 0 from rfl), if_pos (by decide)]
        exact ⟨0, i', _, _, _, _, rfl, rfl, by omega, e4, fun _ => ⟨q, hq, rfl, rfl, h⟩⟩
      · rw [if_neg c1]
        by_cases c2 : 256 ≤ y
        · rw [if_pos c2, show (257 : Int32) = nI 257 from rfl, pk_sub (by omega)]
          by_cases c3 : y ≤ 285
          · rw [if_pos c3]
            unfold pX11_codedBlock_b74 pX11_codedBlock_b100
            rw [sf_can0, Option.bind_some, if_pos (show (0 : Int32) = 0 from rfl), show (256 : Int32) = nI 256 from rfl, qf_le (by omega) (by omega), if_pos c2, if_pos (show (0 : Int32) = 0 from rfl), qf_le (by omega) (by omega), if_neg (by omega), show (257 : Int32) = nI 257 from rfl, pk_sub (by omega)]
            obtain ⟨why, i2, us2, uv2, os2, ov2, g1, g2, g3, g4, g5⟩ := sf_match (Z := Z) (No := No) (A := A2) (B := B2) (rt := rt) (uv := uv) (ov := ov) hN hk hZ hr hrt hNo hA2 hB2 hd hdc hqd (kk := y - 257) (i := i') (q := q) (by omega) e4 hq h
            rw [g1, g2, Option.bind_some, Option.bind_some]
            dsimp only
            unfold pX9_readSymbols_b65
            by_cases c4 : why = 0
            · subst c4
              rw [if_pos rfl, nI_1]
              obtain ⟨q2, w1, rfl, rfl, w4⟩ := g5 rfl
              obtain ⟨why, i3, us3, uv3, os3, ov3, x1, x2, x3, x4, x5⟩ := ih m m' i2 (j + 1) q2 (nI y) uv2 ov2 (by omega) (by omega) (by omega) g4 (by omega) w1 (by rw [show (256 : Int32) = nI 256 from rfl, nI_eq (by omega) (by omega)]; exact c1) w4
              exact ⟨why, i3, us3, uv3, os3, ov3, x1, x2, by omega, x4, x5⟩
            · rw [if_neg c4, hm'', sf_b31F c4]
              exact ⟨why, i2, us2, uv2, os2, ov2, rfl, rfl, by omega, g4, fun z => absurd z c4⟩
          · rw [if_neg c3]
            unfold pX9_readMatch
            rw [show (29 : Int32) = nI 29 from rfl, qf_lt (by omega) (by omega), if_neg (by omega), Option.bind_some]
            dsimp only
            unfold pX9_readSymbols_b65 pX11_codedBlock_b74
            rw [if_neg (by decide), sf_can1, Option.bind_some, if_neg (by decide), sf_b100F _ (by decide), hm'', sf_b31F (by decide)]
            exact ⟨5, i', _, _, _, _, rfl, rfl, by omega, e4, fun z => absurd z (by decide)⟩
        · rw [if_neg c2, if_pos (by omega)]
          unfold pX9_addByte pX11_codedBlock_b74
          rw [sf_can0, Option.bind_some, if_pos (show (0 : Int32) = 0 from rfl), show (256 : Int32) = nI 256 from rfl, qf_le (by omega) (by omega), if_neg c2, sf_add uv _ (by omega) hq, sf_putOut hrt hNo hq]
          by_cases c4 : q < rt
          · rw [if_pos c4, if_pos c4, Option.bind_some, Option.bind_some]
            dsimp only
            rw [if_neg (by decide), Option.bind_some]
            dsimp only
            unfold pX9_readSymbols_b65
            rw [if_pos rfl, nI_1]
            obtain ⟨why, i3, us3, uv3, os3, ov3, x1, x2, x3, x4, x5⟩ := ih m m' i' (j + 1) (q + 1) (nI y) (upd uv q (nI y).toInt8.toInt32) (upd ov q (nI y)) (by omega) (by omega) (by omega) e4 (by omega) (by omega) (by rw [show (256 : Int32) = nI 256 from rfl, nI_eq (by omega) (by omega)]; exact c1) (by
              obtain ⟨k', z1, z2, z3, z4⟩ := sf_grow (n := rt) (k := q) (t := y) (v := uv) (mv := ov) c4 (by omega) h
              have : k' = q + 1 := ((nI_eq (by omega) (by omega)).mp z2).symm
              rw [this] at z4
              exact z4)
            exact ⟨why, i3, us3, uv3, os3, ov3, x1, x2, by omega, x4, x5⟩
          · rw [if_neg c4, if_neg c4, Option.bind_some, Option.bind_some]
            dsimp only
            rw [if_pos rfl, Option.bind_some]
            dsimp only
            unfold pX9_readSymbols_b65
            rw [if_neg (by decide), hm'', sf_b31F (by decide)]
            exact ⟨7, i', _, _, _, _, rfl, rfl, by omega, e4, fun z => absurd z (by decide)⟩
    · rw [if_neg (by decide), if_pos (by decide), sf_b74F _ (by decide), hm'', sf_b31F (by decide)]
      exact ⟨1, i', _, _, _, _, rfl, rfl, by omega, e4, fun z => absurd z (by decide)⟩
    · rw [if_neg (by decide), if_pos (by decide), sf_b74F _ (by decide), hm'', sf_b31F (by decide)]
      exact ⟨5, i', _, _, _, _, rfl, rfl, by omega, e4, fun z => absurd z (by decide)⟩
/-- a whole block of symbols: the class has its codes, the reference makes them now -/
theorem sf_block (hN : N ≤ 80000) (hk : k ≤ N) (hZ : k ≤ Z) (hr : ∀ j, j < k → ∃ t : Nat, t < 256 ∧ v j = yb t ∧ mv j = nI t) (hrt : rt ≤ No) (hNo : No ≤ 80000) (hA1 : 288 ≤ A1) (hB1 : 288 ≤ B1) (hA2 : 32 ≤ A2) (hB2 : 32 ≤ B2)
    (hs : ∀ j, j < 288 → sov j = nI (fs j) ∧ fs j ≤ 15) (hqs : q_codes 288 fs Ls sof sfc sfp sc sbc) (hd : ∀ j, j < 32 → dov j = nI (fd j) ∧ fd j ≤ 15) (hqd : q_codes 32 fd Ld dof dfc dfp dc dbc)
    {i q : Nat} {uv ov : Nat → Int32} (hi : i ≤ 8 * k) (hq : q ≤ rt) (h : ∀ j, j < q → ∃ t : Nat, t < 256 ∧ uv j = yb t ∧ ov j = nI t) :
    ∃ why i' us' uv' os' ov' scv' dcv', pX9_readSymbols 16 16 16 288 N rt 16 16 16 32 (nI (8 * k)) Ls sfc sof sfp sbc v Ld dfc dof dfp dbc (nI i) (nI q) uv = some (why, nI i', us', uv') ∧
      pX11_codedBlock A1 B1 A2 B2 Z No (nI rt) (nI k) sov dov mv (nI q) (nI i) 0 scv dcv ov = some (os', nI i', why, scv', dcv', ov') ∧ q_end rt k i why i' us' uv' os' ov' := by
  obtain ⟨scv', a1, a2⟩ := sf_find (n := 288) (A := A1) (B := B1) (ov := sov) (to := scv) (f := fs) (by omega) hA1 hB1 hs
  obtain ⟨dcv', a3, a4⟩ := sf_find (n := 32) (A := A2) (B := B2) (ov := dov) (to := dcv) (f := fd) (by omega) hA2 hB2 hd
  unfold pX9_readSymbols pX11_codedBlock
  rw [show (288 : Int32) = nI 288 from rfl, show (32 : Int32) = nI 32 from rfl, a1, a3, Option.bind_some, Option.bind_some]
  have hF : 8 * k + 2 < fb_F := by unfold fb_F; omega
  generalize fb_F = F at hF ⊢
  obtain ⟨why, i', us', uv', os', ov', e1, e2, e3⟩ := sf_symsL (Z := Z) (No := No) (rt := rt) hN hk hZ hr hrt hNo hA1 hB1 hA2 hB2 hs a2 hqs hd a4 hqd (8 * k + 1) F F i 0 q 0 uv ov (by omega) (by omega) (by omega) hi (by omega) hq (by decide) h
  rw [nI_0] at e1
  exact ⟨why, i', us', uv', os', ov', scv', dcv', e1, e2, e3⟩
end QL
