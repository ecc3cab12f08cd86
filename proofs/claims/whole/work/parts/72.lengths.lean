/-! ### lengths from counts: class and reference -/
section QY
variable {N S A : Nat}
def q_hv (c : Nat → Nat) : Nat → Nat := fun k => (c k + 1) / 2
theorem q_sum_mono {f g : Nat → Nat} : ∀ n, (∀ i, i < n → f i ≤ g i) → q_sum f n ≤ q_sum g n := by
  intro n
  induction n with
  | zero => intro _; exact Nat.le_refl _
  | succ n ih =>
    intro h
    have := ih (fun i hi => h i (by omega))
    have := h n (by omega)
    rw [q_sum, q_sum]
    omega
theorem q_sum_one {f : Nat → Nat} : ∀ n, (∀ i, i < n → f i ≤ 1) → q_sum f n ≤ n := by
  intro n
  induction n with
  | zero => intro _; exact Nat.le_refl _
  | succ n ih =>
    intro h
    have := ih (fun i hi => h i (by omega))
    have := h n (by omega)
    rw [q_sum]
    omega
theorem q_cp_hv (c : Nat → Nat) (N : Nat) : q_cp (q_hv c) N = q_cp c N := by
  unfold q_cp
  refine q_sum_congr N (fun i _ => ?_)
  unfold q_hv
  by_cases w : c i = 0
  · rw [if_neg (by omega), if_neg (by omega)]
  · rw [if_pos (by omega), if_pos (by omega)]
theorem sf_halveL {c : Nat → Nat} (hN : N ≤ 286) (hc : ∀ k, k < N → c k ≤ 200000) : ∀ (d m i : Nat) (cv : Nat → Int32), N = i + d → d < m → (∀ k, k < i → cv k = nI (q_hv c k)) → (∀ k, i ≤ k → k < N → cv k = nI (c k)) →
    ∃ cv', pX3_halve_b2 286 (nI N) m cv (nI i) = some cv' ∧ ∀ k, k < N → cv' k = nI (q_hv c k) := by
  intro d
  induction d with
  | zero =>
    intro m i cv hi hm h1 h2
    obtain ⟨m, rfl⟩ : ∃ z, m = z + 1 := ⟨m - 1, by omega⟩
    rw [pX3_halve_b2]
    dsimp only
    rw [qf_le (by omega) (by omega), if_pos (by omega)]
    exact ⟨cv, rfl, fun k hk => h1 k (by omega)⟩
  | succ d ih =>
    intro m i cv hi hm h1 h2
    obtain ⟨m, rfl⟩ : ∃ z, m = z + 1 := ⟨m - 1, by omega⟩
    have := hc i (by omega)
    rw [pX3_halve_b2]
    dsimp only
    rw [qf_le (by omega) (by omega), if_neg (by omega), qf_out (by omega), if_neg (by omega), qf_out (by omega), if_neg (by omega), nI_clamp (by omega), h2 i (Nat.le_refl i) (by omega), nI_1, nI_1, show (2 : Int32) = nI 2 from rfl, pk_div (by omega) (by omega) (by omega)]
    refine ih m (i + 1) _ (by omega) (by omega) (fun k hk => ?_) (fun k k1 k2 => by rw [pk_un (by omega)]; exact h2 k (by omega) k2)
    by_cases w : k = i
    · subst w; exact pk_us
    · rw [pk_un w]; exact h1 k (by omega)
theorem sf_halveM {c : Nat → Nat} (hN : N ≤ 286) (hc : ∀ k, k < N → c k ≤ 200000) {al pa to : Nat → Int32} (K : (Nat → Int32) → (Nat → Int32) → (Nat → Int32) → (Nat → Int32) → Option ((Nat → Int32) × (Nat → Int32) × (Nat → Int32) × (Nat → Int32))) : ∀ (d m i : Nat) (cv : Nat → Int32), N = i + d → d < m → (∀ k, k < i → cv k = nI (q_hv c k)) → (∀ k, i ≤ k → k < N → cv k = nI (c k)) →
    ∃ cv', pX11_findLengths_b42 576 (nI N) K m cv al pa to (nI i) = K cv' al pa to ∧ ∀ k, k < N → cv' k = nI (q_hv c k) := by
  intro d
  induction d with
  | zero =>
    intro m i cv hi hm h1 h2
    obtain ⟨m, rfl⟩ : ∃ z, m = z + 1 := ⟨m - 1, by omega⟩
    rw [pX11_findLengths_b42]
    dsimp only
    rw [qf_le (by omega) (by omega), if_pos (by omega)]
    exact ⟨cv, rfl, fun k hk => h1 k (by omega)⟩
  | succ d ih =>
    intro m i cv hi hm h1 h2
    obtain ⟨m, rfl⟩ : ∃ z, m = z + 1 := ⟨m - 1, by omega⟩
    have := hc i (by omega)
    rw [pX11_findLengths_b42]
    dsimp only
    rw [qf_le (by omega) (by omega), if_neg (by omega), qf_out (by omega), if_neg (by omega), qf_out (by omega), if_neg (by omega), nI_clamp (by omega), h2 i (Nat.le_refl i) (by omega), nI_1, nI_1, show (2 : Int32) = nI 2 from rfl, pk_div (by omega) (by omega) (by omega)]
    refine ih m (i + 1) _ (by omega) (by omega) (fun k hk => ?_) (fun k k1 k2 => by rw [pk_un (by omega)]; exact h2 k (by omega) k2)
    by_cases w : k = i
    · subst w; exact pk_us
    · rw [pk_un w]; exact h1 k (by omega)
theorem sf_m80 {c so D : Nat → Nat} {cv sov wv av dv : Nat → Int32} (hN : N ≤ 286) (hS : S ≤ N) (h : h_srt c N S so) (hso : ∀ i, i < S → sov i = nI (so i)) (hdv : ∀ i, i < S → dv i = nI (D i)) :
    ∀ (d m i : Nat) (a3 : Nat → Int32), S = i + d → d < m → (∀ j, j < i → a3 (so j) = nI (D j)) → (∀ k, k < N → c k = 0 → a3 k = 0) →
    ∃ a3', pX3_measure_b80 286 572 N m (nI S) cv sov wv av dv a3 (nI i) = some (nI S, cv, sov, wv, av, dv, a3') ∧ (∀ j, j < S → a3' (so j) = nI (D j)) ∧ ∀ k, k < N → c k = 0 → a3' k = 0 := by
  intro d
  induction d with
  | zero =>
    intro m i a3 hi hm h1 h2
    obtain ⟨m, rfl⟩ : ∃ z, m = z + 1 := ⟨m - 1, by omega⟩
    rw [pX3_measure_b80]
    dsimp only
    rw [qf_le (by omega) (by omega), if_pos (by omega)]
    exact ⟨a3, rfl, fun j hj => h1 j (by omega), h2⟩
  | succ d ih =>
    intro m i a3 hi hm h1 h2
    obtain ⟨m, rfl⟩ : ∃ z, m = z + 1 := ⟨m - 1, by omega⟩
    have hh := h.1 i (by omega)
    rw [pX3_measure_b80]
    dsimp only
    rw [qf_le (by omega) (by omega), if_neg (by omega), qf_out (by omega), if_neg (by omega), qf_out (by omega), if_neg (by omega), nI_clamp (by omega), hso i (by omega), qf_out (by omega), if_neg (by omega), nI_clamp (by omega), hdv i (by omega), nI_1]
    refine ih m (i + 1) _ (by omega) (by omega) (fun j hj => ?_) (fun k k1 k2 => ?_)
    · by_cases w : j = i
      · subst w; exact pk_us
      · rw [pk_un (fun e => w (h_so_inj h (by omega) (by omega) e))]; exact h1 j (by omega)
    · by_cases w : k = so i
      · rw [w] at k2; omega
      · rw [pk_un w]; exact h2 k k1 k2
theorem sf_deepest0 {sov cv wv av dv : Nat → Int32} : ∃ wv' av', pX3_deepest 286 286 572 572 572 (nI 0) sov cv wv av dv = some (0, wv', av', dv) := by
  unfold pX3_deepest
  rw [show pX3_deepest_b2 286 286 572 572 572 (nI 0) sov cv fb_F = pX3_deepest_b2 286 286 572 572 572 (nI 0) sov cv (4294967295 + 1) from rfl, pX3_deepest_b2]
  dsimp only
  rw [if_pos (show nI 0 ≤ 0 by decide)]
  have hj : pX3_join 572 572 (nI 0) wv av = some (wv, av) := by
    unfold pX3_join
    rw [show pX3_join_b12 572 572 (nI 0) fb_F = pX3_join_b12 572 572 (nI 0) (4294967295 + 1) from rfl, pX3_join_b12]
    dsimp only
    rw [if_pos (by decide)]
  rw [hj, Option.bind_some, if_pos (by decide), show pX3_deepest_b63 572 572 fb_F = pX3_deepest_b63 572 572 (4294967295 + 1) from rfl, pX3_deepest_b63]
  dsimp only
  rw [if_pos (by decide)]
  exact ⟨_, _, rfl⟩
/-- what both lengths are -/
def q_lens (N lim : Nat) (o f : Nat → Nat) (a to : Nat → Int32) : Prop := ∀ k, k < N → a k = nI (f k) ∧ to k = nI (f k) ∧ f k ≤ lim ∧ (o k = 0 → f k = 0) ∧ (0 < o k → 0 < f k)
set_option maxRecDepth 100000 in
theorem sf_round1 {lim r m m' : Nat} {c so : Nat → Nat} {cv sv wv av dv a3 cvM al pa to : Nat → Int32} (hN : N ≤ 286) (hA : N ≤ A) (hA2 : A ≤ 80000) (hlim2 : lim ≤ 15) (hr : r ≤ 17) (hsum : q_sum c N ≤ 100000) (hS1 : q_cp c N ≠ 1) (h : h_srt c N (q_cp c N) so) (hsv : ∀ i, i < q_cp c N → sv i = nI (so i)) (hcv : ∀ k, k < N → cv k = nI (c k)) (hcvM : ∀ k, k < N → cvM k = nI (c k)) (ha3 : ∀ k, k < N → a3 k = 0) :
    (∃ (s' : Int32) (cv' sv' wv' av' dv' a3' cvM' al' pa' to' : Nat → Int32) (f : Nat → Nat), pX3_measure_b44 286 286 572 572 572 N N (nI lim) (m + 1) (nI (q_cp c N)) cv sv wv av dv a3 (nI r) = some (s', cv', sv', wv', av', dv', a3') ∧
      pX11_findLengths_b29 576 576 576 A (nI N) (nI lim) (m' + 1) cvM al pa to = some (cvM', al', pa', to') ∧ q_lens N lim c f a3' to') ∨
    (∃ (cv1 sv1 wv1 av1 dv1 cvM1 al1 pa1 to1 : Nat → Int32) (so1 : Nat → Nat), pX3_measure_b44 286 286 572 572 572 N N (nI lim) (m + 1) (nI (q_cp c N)) cv sv wv av dv a3 (nI r) = pX3_measure_b44 286 286 572 572 572 N N (nI lim) m (nI (q_cp (q_hv c) N)) cv1 sv1 wv1 av1 dv1 a3 (nI (r + 1)) ∧
      pX11_findLengths_b29 576 576 576 A (nI N) (nI lim) (m' + 1) cvM al pa to = pX11_findLengths_b29 576 576 576 A (nI N) (nI lim) m' cvM1 al1 pa1 to1 ∧ h_srt (q_hv c) N (q_cp (q_hv c) N) so1 ∧ (∀ i, i < q_cp (q_hv c) N → sv1 i = nI (so1 i)) ∧ (∀ k, k < N → cv1 k = nI (q_hv c k)) ∧ (∀ k, k < N → cvM1 k = nI (q_hv c k)) ∧ h_g lim 1 2 ≤ q_sum c N) := by
  have hSN := q_cp_le c N
  have hcb : ∀ k, k < N → c k ≤ 100000 := fun k hk => by have := q_sum_el (f := c) (k := 0) (i := k) (n := N) (by omega) hk; omega
  obtain ⟨mx, cvM2, al2, pa2, to2, f, t1, t2, t3, t4, t5, t6, t7, t8⟩ := sf_tree (A := A) (cv := cvM) (al := al) (pa := pa) (to := to) hN hA hA2 hcvM hsum h rfl
  have eM : pX11_findLengths_b29 576 576 576 A (nI N) (nI lim) (m' + 1) cvM al pa to = if mx ≤ lim then some (cvM2, al2, pa2, to2) else pX11_findLengths_b42 576 (nI N) (pX11_findLengths_b29 576 576 576 A (nI N) (nI lim) m') fb_F cvM2 al2 pa2 to2 0 := by
    rw [pX11_findLengths_b29]
    dsimp only
    rw [t1, Option.bind_some]
    dsimp only
    rw [qf_le (by omega) (by omega)]
  rw [eM, pX3_measure_b44]
  dsimp only
  rw [show (32 : Int32) = nI 32 from rfl, qf_le (by omega) (by omega), if_neg (by omega)]
  rcases Nat.eq_zero_or_pos (q_cp c N) with hS0 | hSp
  · have hc0 : ∀ k, k < N → c k = 0 := by
      intro k hk
      apply Classical.byContradiction
      intro w
      obtain ⟨i, i1, -⟩ := h.2.2.1 k hk (by omega)
      omega
    have hmx : mx ≤ lim := (t4 lim).mpr (fun k hk => by rw [t6 k hk (hc0 k hk)]; omega)
    obtain ⟨wv1, av1, d1⟩ := sf_deepest0 (sov := sv) (cv := cv) (wv := wv) (av := av) (dv := dv)
    rw [if_pos hmx, hS0, d1, Option.bind_some]
    dsimp only
    rw [if_pos (nI_pos' (by omega)), show pX3_measure_b80 286 572 N fb_F = pX3_measure_b80 286 572 N (4294967295 + 1) from rfl, pX3_measure_b80]
    dsimp only
    rw [if_pos (show nI 0 ≤ 0 by decide)]
    exact Or.inl ⟨_, _, _, _, _, _, _, _, _, _, _, f, rfl, rfl, fun k hk => ⟨by rw [ha3 k hk, t6 k hk (hc0 k hk)]; rfl, (t3 k hk).1, by rw [t6 k hk (hc0 k hk)]; omega, fun _ => t6 k hk (hc0 k hk), fun w => by have := hc0 k hk; omega⟩⟩
  have hs0 : ∀ i i', i ≤ i' → i' < q_cp c N → c (so i) ≤ c (so i') := by
    intro i i' h1 h2
    by_cases w : i = i'
    · rw [w]; exact Nat.le_refl _
    · have := h.2.1 i i' (by omega) h2
      omega
  have hpos : ∀ i, i < q_cp c N → 1 ≤ c (so i) := fun i hi => (h.1 i hi).2
  have hBS : q_sum (fun i => c (so i)) (q_cp c N) ≤ 100000 := by rw [h.2.2.2]; exact hsum
  have hS2 : 2 ≤ q_cp c N := by omega
  obtain ⟨mx1, wv1, av1, dv1, d1, d2, d3, d4⟩ := sf_deepest (S := q_cp c N) (so := so) (W0 := fun i => c (so i)) (sov := sv) (cv := cv) (wv := wv) (av := av) (dv := dv) hS2 (by omega) hs0 hpos hBS (fun i hi => ⟨hsv i hi, by have := (h.1 i hi).1; omega, hcv _ (h.1 i hi).1⟩)
  have hleaf : ∀ L, mx1 ≤ L ↔ mx ≤ L := by
    intro L
    rw [d4 L, t4 L]
    constructor
    · intro w k hk
      by_cases z : c k = 0
      · rw [t6 k hk z]; omega
      · obtain ⟨i, i1, i2⟩ := h.2.2.1 k hk (by omega)
        rw [← i2, t8 hS2 i i1]
        exact w i (by omega)
    · intro w
      refine h_leaf hS2 hs0 hpos (fun z hz => ?_)
      rw [← t8 hS2 z hz]
      exact w _ (h.1 z hz).1
  rw [d1, Option.bind_some]
  dsimp only
  rw [qf_le (by omega) (by omega)]
  by_cases w : mx ≤ lim
  · rw [if_pos ((hleaf lim).mpr w), if_pos w]
    obtain ⟨a3', z1, z2, z3⟩ := sf_m80 (cv := cv) (wv := wv1) (av := av1) hN hSN h hsv d3 (q_cp c N) fb_F 0 a3 (by omega) (by unfold fb_F; omega) (fun j hj => absurd hj (Nat.not_lt_zero j)) (fun k hk _ => ha3 k hk)
    rw [nI_0] at z1
    rw [z1]
    refine Or.inl ⟨_, _, _, _, _, _, _, _, _, _, _, f, rfl, rfl, fun k hk => ?_⟩
    have hle := (t4 lim).mp w k hk
    by_cases z : c k = 0
    · exact ⟨by rw [z3 k hk z, t6 k hk z]; rfl, (t3 k hk).1, hle, fun _ => t6 k hk z, fun q => by omega⟩
    · obtain ⟨i, i1, i2⟩ := h.2.2.1 k hk (by omega)
      refine ⟨by rw [← i2, z2 i i1, t8 hS2 i i1], (t3 k hk).1, hle, fun q => absurd q z, fun _ => ?_⟩
      rw [← i2, t8 hS2 i i1]
      have hinv := h_run_inv (W0 := fun i => c (so i)) hs0 hpos (q_cp c N - 1) (by omega)
      have he := h_end hS2 hinv
      have i7 := hinv.2.2.2.2.1
      rw [he.1, he.2] at i7
      rw [h_D_lt (fun x hx => (i7 x (by omega)).2.2) (by omega)]
      omega
  · rw [if_neg (fun q => w ((hleaf lim).mp q)), if_neg w]
    have hdeep : h_g lim 1 2 ≤ q_sum c N := by
      apply Classical.byContradiction
      intro q
      refine w ((t4 lim).mpr (fun k hk => ?_))
      by_cases z : c k = 0
      · rw [t6 k hk z]; omega
      · obtain ⟨i, i1, i2⟩ := h.2.2.1 k hk (by omega)
        rw [← i2, t8 hS2 i i1]
        apply Classical.byContradiction
        intro q2
        have := h_deep (e := lim) hS2 hs0 hpos i1 (by omega)
        rw [h.2.2.2] at this
        omega
    obtain ⟨cv1, y1, y2⟩ := sf_halveL (c := c) hN (fun k hk => by have := hcb k hk; omega) N fb_F 0 cv (by omega) (by unfold fb_F; omega) (fun k hk => absurd hk (Nat.not_lt_zero k)) (fun k _ hk => hcv k hk)
    obtain ⟨cvM1, y3, y4⟩ := sf_halveM (c := c) hN (fun k hk => by have := hcb k hk; omega) (al := al2) (pa := pa2) (to := to2) (pX11_findLengths_b29 576 576 576 A (nI N) (nI lim) m') N fb_F 0 cvM2 (by omega) (by unfold fb_F; omega) (fun k hk => absurd hk (Nat.not_lt_zero k)) (fun k _ hk => t2 k hk)
    obtain ⟨so1, sv1, y5, y6, y7⟩ := sf_sort (c := q_hv c) (cv := cv1) (sv := sv) hN (fun k hk => ⟨y2 k hk, by unfold q_hv; have := hcb k hk; omega⟩)
    rw [nI_0] at y1 y3
    unfold pX3_halve
    rw [qi_of, y1, Option.bind_some, y5, Option.bind_some, y3]
    dsimp only
    rw [nI_1]
    exact Or.inr ⟨cv1, sv1, wv1, av1, dv1, cvM1, al2, pa2, to2, so1, rfl, rfl, y6, y7, y2, y4, hdeep⟩
theorem sf_roundL {lim : Nat} (hN : N ≤ 286) (hA : N ≤ A) (hA2 : A ≤ 80000) (hlim : N < h_g lim 1 2) (hlim2 : lim ≤ 15) :
    ∀ (e m m' r : Nat) (c so : Nat → Nat) (cv sv wv av dv a3 cvM al pa to : Nat → Int32), r + e = 17 → e < m → e < m' → (∀ k, k < N → c k ≤ 2 ^ e) → q_sum c N ≤ 100000 → q_cp c N ≠ 1 → h_srt c N (q_cp c N) so → (∀ i, i < q_cp c N → sv i = nI (so i)) → (∀ k, k < N → cv k = nI (c k)) → (∀ k, k < N → cvM k = nI (c k)) → (∀ k, k < N → a3 k = 0) →
    ∃ (s' : Int32) (cv' sv' wv' av' dv' a3' cvM' al' pa' to' : Nat → Int32) (f : Nat → Nat), pX3_measure_b44 286 286 572 572 572 N N (nI lim) m (nI (q_cp c N)) cv sv wv av dv a3 (nI r) = some (s', cv', sv', wv', av', dv', a3') ∧
      pX11_findLengths_b29 576 576 576 A (nI N) (nI lim) m' cvM al pa to = some (cvM', al', pa', to') ∧ q_lens N lim c f a3' to' := by
  intro e
  induction e with
  | zero =>
    intro m m' r c so cv sv wv av dv a3 cvM al pa to hr hm hm' hce hsum hS1 h hsv hcv hcvM ha3
    obtain ⟨m, rfl⟩ : ∃ z, m = z + 1 := ⟨m - 1, by omega⟩
    obtain ⟨m', rfl⟩ : ∃ z, m' = z + 1 := ⟨m' - 1, by omega⟩
    rcases sf_round1 (lim := lim) (r := r) (m := m) (m' := m') (wv := wv) (av := av) (dv := dv) (al := al) (pa := pa) (to := to) hN hA hA2 hlim2 (by omega) hsum hS1 h hsv hcv hcvM ha3 with w | ⟨_, _, _, _, _, _, _, _, _, _, _, _, _, _, _, _, w⟩
    · exact w
    · have := q_sum_one N (fun k hk => hce k hk)
      omega
  | succ e ih =>
    intro m m' r c so cv sv wv av dv a3 cvM al pa to hr hm hm' hce hsum hS1 h hsv hcv hcvM ha3
    obtain ⟨m, rfl⟩ : ∃ z, m = z + 1 := ⟨m - 1, by omega⟩
    obtain ⟨m', rfl⟩ : ∃ z, m' = z + 1 := ⟨m' - 1, by omega⟩
    rcases sf_round1 (lim := lim) (r := r) (m := m) (m' := m') (wv := wv) (av := av) (dv := dv) (al := al) (pa := pa) (to := to) hN hA hA2 hlim2 (by omega) hsum hS1 h hsv hcv hcvM ha3 with w | ⟨cv1, sv1, wv1, av1, dv1, cvM1, al1, pa1, to1, so1, w1, w2, w3, w4, w5, w6, -⟩
    · exact w
    · rw [w1, w2]
      have hle : q_sum (q_hv c) N ≤ q_sum c N := q_sum_mono N (fun i _ => by unfold q_hv; omega)
      obtain ⟨s', cv', sv', wv', av', dv', a3', cvM', al', pa', to', f, z1, z2, z3⟩ := ih m m' (r + 1) (q_hv c) so1 cv1 sv1 wv1 av1 dv1 a3 cvM1 al1 pa1 to1 (by omega) (by omega) (by omega) (fun k hk => by
        have := hce k hk
        rw [Nat.pow_succ] at this
        unfold q_hv
        omega) (by omega) (by rw [q_cp_hv]; exact hS1) w3 w4 w5 w6 ha3
      refine ⟨s', cv', sv', wv', av', dv', a3', cvM', al', pa', to', f, z1, z2, fun k hk => ?_⟩
      obtain ⟨b1, b2, b3, b4, b5⟩ := z3 k hk
      exact ⟨b1, b2, b3, fun q => b4 (by unfold q_hv; omega), fun q => b5 (by unfold q_hv; omega)⟩
end QY
