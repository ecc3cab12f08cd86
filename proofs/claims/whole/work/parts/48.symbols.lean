/-! ### a match is read -/
section QS
variable {rt k N Z No A B : Nat} {v mv uv ov dov dcv of fcv fpv cv bc : Nat → Int32} {fd : Nat → Nat} {L : Int32}
theorem sf_c97 {os p g x y : Int32} {r : Int32} (hg : ¬ g = 0) (t : Int32) : pX11_copy_b97 No r os p g ov x y t = some (os, p, g, ov) := by
  unfold pX11_copy_b97
  rw [sf_canF hg, Option.bind_some, show fb_F = 4294967295 + 1 from rfl, sf_cF hg]
theorem sf_c80 {os p g x t : Int32} {r : Int32} (hg : ¬ g = 0) : pX11_copy_b80 No r os p g ov x t = some (os, p, g, ov) := by
  unfold pX11_copy_b80
  by_cases c : t ≤ os
  · rw [if_pos c, sf_c97 hg]
  · rw [if_neg c, sf_c97 hg]
theorem sf_c52 {S os p g x y t : Int32} {r : Int32} (hg : ¬ g = 0) : pX11_copy_b52 Z No r S mv os p g ov x y t = some (os, p, g, ov) := by
  unfold pX11_copy_b52
  rw [sf_canF hg, Option.bind_some, if_neg hg, sf_c80 hg]
theorem sf_c39 {S os p g x t : Int32} {r : Int32} (hg : ¬ g = 0) : pX11_copy_b39 Z No r S mv os p g ov x t = some (os, p, g, ov) := by
  unfold pX11_copy_b39
  by_cases c : t ≤ 29
  · rw [if_pos c, sf_c52 hg]
  · rw [if_neg c, sf_c52 hg]
theorem sf_match (hN : N ≤ 80000) (hk : k ≤ N) (hZ : k ≤ Z) (hr : ∀ j, j < k → ∃ t : Nat, t < 256 ∧ v j = yb t ∧ mv j = nI t) (hrt : rt ≤ No) (hNo : No ≤ 80000) (hA : 32 ≤ A) (hB : 32 ≤ B)
    (hd : ∀ j, j < 32 → dov j = nI (fd j) ∧ fd j ≤ 15) (hdc : ∀ j, j < 32 → fd j ≠ 0 → dcv j = nI (q_fc fd 32 (fd j) + q_cnt fd (fd j) j)) (hq : q_codes 32 fd L of fcv fpv cv bc)
    {kk i q : Nat} (hkk : kk < 29) (hi : i ≤ 8 * k) (hqr : q ≤ rt) (h : ∀ j, j < q → ∃ t : Nat, t < 256 ∧ uv j = yb t ∧ ov j = nI t) :
    ∃ why i' us' uv' os' ov', pX9_readMatch N 16 16 16 32 rt (nI (8 * k)) v L fcv of fpv bc (nI kk) (nI i) (nI q) uv = some (why, nI i', us', uv') ∧
      pX11_copy Z A B No (nI rt) (nI k) mv dov dcv (nI kk) (nI q) (nI i) 0 ov = some (os', nI i', why, ov') ∧ q_end rt k i why i' us' uv' os' ov' := by
  have hm : ∀ j, j < k → ∃ t : Nat, t < 256 ∧ mv j = nI t := fun j hj => (hr j hj).elim (fun t q => ⟨t, q.1, q.2.2⟩)
  obtain ⟨b1, b2, b3⟩ := q_lbb kk hkk
  unfold pX9_readMatch pX11_copy
  rw [show (29 : Int32) = nI 29 from rfl, if_pos ((nI_ltI (by omega) (by omega)).mpr hkk), q_lb1 kk hkk, q_lb2 kk hkk, q_lf2 kk hkk, Option.bind_some, Option.bind_some, Option.bind_some, sf_number hN hk hr (b := q_lb kk) (by omega) hi, sf_tk (mv := mv) hZ (by omega) hm (b := q_lb kk) (by omega) hi]
  by_cases c1 : i + q_lb kk ≤ 8 * k
  · have hn1 := q_num_lt mv i (q_lb kk)
    have hn2 : 2 ^ q_lb kk ≤ 2 ^ 5 := Nat.pow_le_pow_right (by decide) b1
    rw [if_pos c1, if_pos c1, Option.bind_some, Option.bind_some]
    dsimp only
    rw [if_pos (nI_pos' (by omega)), if_pos (show (0 : Int32) = 0 from rfl), show (32 : Int32) = nI 32 from rfl]
    obtain ⟨r, s, g, i', e1, e2, e3, e4, e5⟩ := sf_rd (Z := Z) (A := A) (B := B) (ov := dov) (cdv := dcv) (n := 32) hN hk hZ hr (by omega) (by omega) hA hB hd hdc hq c1
    rw [e1, e2, Option.bind_some, Option.bind_some]
    dsimp only
    rcases e5 with ⟨d, d1, d2, d3, rfl, rfl, rfl⟩ | ⟨rfl, rfl, rfl, e6⟩ | ⟨rfl, rfl, rfl⟩
    · rw [if_pos (nI_pos' (by omega)), show (30 : Int32) = nI 30 from rfl]
      unfold pX11_copy_b39 pX11_copy_b52
      rw [show (29 : Int32) = nI 29 from rfl]
      simp (disch := omega) only [qi_lt, qi_le]
      by_cases c2 : d < 30
      · obtain ⟨f1, f2, f3⟩ := q_dbb d c2
        rw [if_pos c2, if_pos (by omega : d ≤ 29), sf_can0, Option.bind_some, if_pos (show (0 : Int32) = 0 from rfl), q_db1 d c2, q_db2 d c2, q_df1 d c2, q_df2 d c2, Option.bind_some, Option.bind_some, Option.bind_some, sf_number hN hk hr (b := q_db d) (by omega) e4, sf_tk (mv := mv) hZ (by omega) hm (b := q_db d) (by omega) e4]
        by_cases c3 : i' + q_db d ≤ 8 * k
        · have hn3 := q_num_lt mv i' (q_db d)
          have hn4 : 2 ^ q_db d ≤ 2 ^ 13 := Nat.pow_le_pow_right (by decide) f1
          rw [if_pos c3, if_pos c3, Option.bind_some, Option.bind_some]
          dsimp only
          rw [if_pos (nI_pos' (by omega)), Option.bind_some, nI_add, nI_add]
          unfold pX11_copy_b80 pX11_copy_b97
          simp (disch := omega) only [qi_le]
          by_cases c4 : q_df d + q_num mv i' (q_db d) ≤ q
          · rw [if_pos c4, if_pos c4, q_lf1 kk hkk, Option.bind_some, nI_add, sf_can0, Option.bind_some]
            obtain ⟨r1, r2⟩ := sf_rep (n := rt) (k := q) (a := q_df d + q_num mv i' (q_db d)) (len := q_lf kk + q_num mv i (q_lb kk)) (v0 := uv) (by omega) (by omega) c4 hqr (by omega) (fun j hj => (h j hj).elim (fun t q => ⟨t, q.2.1⟩))
            have hF : q_lf kk + q_num mv i (q_lb kk) + 1 < fb_F := by unfold fb_F; omega
            generalize fb_F = F at hF ⊢
            obtain ⟨s1, s2⟩ := sf_copyL (rt := rt) (No := No) (ov0 := ov) (q := q) (a := q_df d + q_num mv i' (q_db d)) (len := q_lf kk + q_num mv i (q_lb kk)) (p := nI (i' + q_db d)) hrt hNo (by omega) c4 hqr (by omega) (fun j hj => (h j hj).elim (fun t q => ⟨t, q.2.2⟩)) (q_lf kk + q_num mv i (q_lb kk)) F 0 ov (by omega) (by omega) (by omega) (q_ext0 ov q _)
            rw [nI_0] at s1 s2
            by_cases c5 : q + (q_lf kk + q_num mv i (q_lb kk)) ≤ rt
            · obtain ⟨uv', x1, x2⟩ := r1 c5
              obtain ⟨ov', y1, y2⟩ := s1 c5
              rw [x1, Option.bind_some]
              dsimp only
              rw [if_neg (by decide)]
              exact ⟨0, i' + q_db d, _, uv', _, ov', rfl, y1, by omega, c3, fun _ => ⟨_, c5, rfl, rfl, q_ext_row (by omega) c4 x2 y2 h⟩⟩
            · obtain ⟨os, ov', y1⟩ := s2 (by omega)
              rw [r2 (by omega), Option.bind_some]
              dsimp only
              rw [if_pos rfl]
              exact ⟨7, i' + q_db d, _, _, os, ov', rfl, y1, by omega, c3, fun z => absurd z (by decide)⟩
          · rw [if_neg c4, if_neg c4, sf_can1, Option.bind_some, show fb_F = 4294967295 + 1 from rfl, sf_cF (by decide)]
            exact ⟨6, i' + q_db d, _, _, _, _, rfl, rfl, by omega, c3, fun z => absurd z (by decide)⟩
        · rw [if_neg c3, if_neg c3, Option.bind_some]
          dsimp only
          rw [if_neg (by decide), Option.bind_some]
          dsimp only
          rw [sf_c80 (by decide)]
          exact ⟨1, 8 * k, _, _, _, _, rfl, rfl, by omega, by omega, fun z => absurd z (by decide)⟩
      · rw [if_neg c2, if_neg (by omega : ¬ d ≤ 29), sf_can1, Option.bind_some, if_neg (by decide), sf_c80 (by decide)]
        exact ⟨5, i', _, _, _, _, rfl, rfl, by omega, e4, fun z => absurd z (by decide)⟩
    · rw [if_neg (by decide), sf_c39 (by decide)]
      exact ⟨1, i', _, _, _, _, rfl, rfl, by omega, e4, fun z => absurd z (by decide)⟩
    · rw [if_neg (by decide), sf_c39 (by decide)]
      exact ⟨5, i', _, _, _, _, rfl, rfl, by omega, e4, fun z => absurd z (by decide)⟩
  · rw [if_neg c1, if_neg c1, Option.bind_some, Option.bind_some]
    dsimp only
    rw [if_neg (by decide), if_neg (by decide), sf_c39 (by decide)]
    exact ⟨1, 8 * k, _, _, _, _, rfl, rfl, by omega, by omega, fun z => absurd z (by decide)⟩
end QS
