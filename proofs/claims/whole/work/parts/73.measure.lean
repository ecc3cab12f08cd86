/-! ### lengths from counts, whole -/
section QZ
variable {N A : Nat}
theorem sf_copyO {o : Nat → Nat} {oft al pa to : Nat → Int32} {lim : Int32} (hN : N ≤ 286) (ho : ∀ k, k < N → oft k = nI (o k)) : ∀ (d m i : Nat) (cv : Nat → Int32), N = i + d → d < m → (∀ k, k < i → cv k = nI (o k)) →
    ∃ cv', pX11_findLengths_b3 288 576 576 576 A oft (nI N) lim m cv al pa to (nI i) = pX11_findLengths_b29 576 576 576 A (nI N) lim fb_F cv' al pa to ∧ ∀ k, k < N → cv' k = nI (o k) := by
  intro d
  induction d with
  | zero =>
    intro m i cv hi hm h1
    obtain ⟨m, rfl⟩ : ∃ z, m = z + 1 := ⟨m - 1, by omega⟩
    rw [pX11_findLengths_b3]
    dsimp only
    rw [qf_le (by omega) (by omega), if_pos (by omega)]
    exact ⟨cv, rfl, fun k hk => h1 k (by omega)⟩
  | succ d ih =>
    intro m i cv hi hm h1
    obtain ⟨m, rfl⟩ : ∃ z, m = z + 1 := ⟨m - 1, by omega⟩
    rw [pX11_findLengths_b3]
    dsimp only
    rw [qf_le (by omega) (by omega), if_neg (by omega), qf_out (by omega), if_neg (by omega), qf_out (by omega), if_neg (by omega), nI_clamp (by omega), ho i (by omega), nI_1]
    refine ih m (i + 1) _ (by omega) (by omega) (fun k hk => ?_)
    by_cases w : k = i
    · subst w; exact pk_us
    · rw [pk_un w]; exact h1 k (by omega)
set_option maxRecDepth 100000 in
theorem sf_measure {lim : Nat} {o : Nat → Nat} {ov oft cv sv wv av dv a3 cvM al pa to : Nat → Int32} (hN : N ≤ 286) (hA : N ≤ A) (hA2 : A ≤ 80000) (hlim : N < h_g lim 1 2) (hlim1 : 1 ≤ lim) (hlim2 : lim ≤ 15) (ho : ∀ k, k < N → ov k = nI (o k)) (hoft : ∀ k, k < N → oft k = nI (o k)) (hsum : q_sum o N ≤ 100000) :
    ∃ (s' : Int32) (cv' sv' wv' av' dv' a3' cvM' al' pa' to' : Nat → Int32) (f : Nat → Nat), pX3_measure 286 286 572 572 572 N N ov (nI lim) cv sv wv av dv a3 = some (s', cv', sv', wv', av', dv', a3') ∧
      pX11_findLengths 288 576 576 576 A oft (nI N) (nI lim) cvM al pa to = some (cvM', al', pa', to') ∧ q_lens N lim o f a3' to' := by
  have hcb : ∀ k, k < N → o k ≤ 100000 := fun k hk => by have := q_sum_el (f := o) (k := 0) (i := k) (n := N) (by omega) hk; omega
  have hSN := q_cp_le o N
  obtain ⟨cvM1, m1, m2⟩ := sf_copyO (A := A) (al := al) (pa := pa) (to := to) (lim := nI lim) hN hoft N fb_F 0 cvM (by omega) (by unfold fb_F; omega) (fun k hk => absurd hk (Nat.not_lt_zero k))
  obtain ⟨a31, b1, b2, -⟩ := sf_fill (n := N) 0 a3 (by omega)
  have hcp : ∀ k, k < N → va_cpy ov cv 0 0 N k = nI (o k) := by
    intro k hk
    rw [pk_cpy_in (Nat.zero_le k) (by omega), ← ho k hk]
    congr 1
    omega
  obtain ⟨so, sv1, s1, s2, s3⟩ := sf_sort (c := o) (cv := va_cpy ov cv 0 0 N) (sv := sv) hN (fun k hk => ⟨hcp k hk, hcb k hk⟩)
  unfold pX3_measure pX11_findLengths
  rw [nI_0] at m1
  rw [m1, qi_of, show ((0 : Int32)).toNatClampNeg = 0 from rfl, nI_clamp (show N < 2 ^ 31 by omega), if_pos ⟨by decide, by decide, nI_pos (by omega), by omega, by omega⟩, b1, Option.bind_some, s1, Option.bind_some]
  dsimp only
  by_cases w : q_cp o N = 1
  · obtain ⟨mx, cvM2, al2, pa2, to2, f, t1, t2, t3, t4, t5, t6, t7, t8⟩ := sf_tree (A := A) (cv := cvM1) (al := al) (pa := pa) (to := to) hN hA hA2 m2 hsum s2 rfl
    have hso := s2.1 0 (by omega)
    have hf : ∀ k, k < N → k ≠ so 0 → o k = 0 := by
      intro k hk hne
      apply Classical.byContradiction
      intro z
      obtain ⟨i, i1, i2⟩ := s2.2.2.1 k hk (by omega)
      have : i = 0 := by omega
      subst this
      exact hne i2.symm
    have hmx : mx ≤ lim := (t4 lim).mpr (fun k hk => by
      by_cases z : k = so 0
      · rw [z, t7 w]; omega
      · rw [t6 k hk (hf k hk z)]; omega)
    have hs30 := s3 0 (by omega)
    rw [w, if_pos (show nI 1 = (1 : Int32) from rfl), if_neg (by decide)]
    simp only [hs30]
    rw [qf_out (by omega), if_neg (by omega), nI_clamp (by omega), show pX11_findLengths_b29 576 576 576 A (nI N) (nI lim) fb_F = pX11_findLengths_b29 576 576 576 A (nI N) (nI lim) (4294967295 + 1) from rfl, pX11_findLengths_b29]
    dsimp only
    rw [t1, Option.bind_some]
    dsimp only
    rw [qf_le (by omega) (by omega), if_pos hmx]
    refine ⟨_, _, _, _, _, _, _, _, _, _, _, f, rfl, rfl, fun k hk => ?_⟩
    by_cases z : k = so 0
    · subst z
      exact ⟨by rw [pk_us, t7 w]; rfl, (t3 _ hk).1, by rw [t7 w]; omega, fun q => by omega, fun _ => by rw [t7 w]; omega⟩
    · have h0 := hf k hk z
      exact ⟨by rw [pk_un z, b2 k hk, t6 k hk h0]; rfl, (t3 k hk).1, by rw [t6 k hk h0]; omega, fun _ => t6 k hk h0, fun q => by omega⟩
  · rw [show (1 : Int32) = nI 1 from rfl, qf_eq (by omega) (by omega), if_neg w]
    have := sf_roundL hN hA hA2 hlim hlim2 17 fb_F fb_F 0 o so (va_cpy ov cv 0 0 N) sv1 wv av dv a31 cvM1 al pa to (by omega) (by unfold fb_F; omega) (by unfold fb_F; omega) (fun k hk => by
      have := hcb k hk
      have p : (2 : Nat) ^ 17 = 131072 := by decide
      omega) hsum w s2 s3 hcp m2 b2
    rw [nI_0] at this
    exact this
end QZ
