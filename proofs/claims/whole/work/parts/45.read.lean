/-! ### a symbol is read -/
section QR
variable {n k N A B Z : Nat} {v mv ov cdv of fcv fpv cv bc : Nat → Int32} {f : Nat → Nat} {L : Int32}
theorem sf_can0 {w g : Int32} : pX11_cannot 0 w g = some g := by
  unfold pX11_cannot pX11_cannot_b16 pX11_cannot_b20
  by_cases h : g = 0
  · rw [if_pos h, if_pos rfl]
  · rw [if_neg h]
theorem sf_can1 {w : Int32} : pX11_cannot 1 w 0 = some w := by
  unfold pX11_cannot pX11_cannot_b16 pX11_cannot_b20
  rw [if_pos rfl, if_neg (by decide)]
theorem sf_canF {x w g : Int32} (h : ¬ g = 0) : pX11_cannot x w g = some g := by
  unfold pX11_cannot pX11_cannot_b16 pX11_cannot_b20
  rw [if_neg h]
theorem sf_119 {p : Int32} : pX11_symbol_b119 p 0 = some (-1, p, 5) := by
  unfold pX11_symbol_b119
  rw [sf_can1, Option.bind_some]
theorem sf_119F {p g : Int32} (h : ¬ g = 0) : pX11_symbol_b119 p g = some (-1, p, g) := by
  unfold pX11_symbol_b119
  rw [sf_canF h, Option.bind_some]
/-- the longest of the lengths -/
theorem sf_symL (hn : n ≤ 288) (hA : n ≤ A) (h : ∀ j, j < n → ov j = nI (f j) ∧ f j ≤ 15) {p g : Int32} : ∀ (d m i : Nat), n = i + d → d < m →
    pX11_symbol_b6 Z A B L mv ov cdv (nI n) m p g (nI (q_mx f i)) (nI i) = pX11_symbol_b44 Z A B L mv ov cdv (nI n) fb_F p g (nI (q_mx f n)) 0 1 := by
  intro d
  induction d with
  | zero =>
    intro m i hi hm
    obtain ⟨m, rfl⟩ : ∃ z, m = z + 1 := ⟨m - 1, by omega⟩
    have e : i = n := by omega
    subst e
    rw [pX11_symbol_b6]
    dsimp only
    simp (disch := omega) only [qi_le, if_pos]
  | succ d ih =>
    intro m i hi hm
    obtain ⟨m, rfl⟩ : ∃ z, m = z + 1 := ⟨m - 1, by omega⟩
    obtain ⟨e1, e2⟩ := h i (by omega)
    have hmx : q_mx f i ≤ 15 := q_mx_le (fun j hj => (h j (by omega)).2)
    have hs : q_mx f (i + 1) = if q_mx f i < f i then f i else q_mx f i := rfl
    rw [pX11_symbol_b6]
    simp (disch := omega) only [qi_le, qi_lt0, nI_clamp, false_or, if_neg, e1, nI_1]
    by_cases c : f i ≤ q_mx f i
    · rw [if_pos c]
      rw [if_neg (by omega)] at hs
      rw [← hs]
      exact ih m (i + 1) (by omega) (by omega)
    · rw [if_neg c]
      rw [if_pos (by omega)] at hs
      rw [← hs]
      exact ih m (i + 1) (by omega) (by omega)
/-- the search among the codes of one length -/
theorem sf_sym73 (hn : n ≤ 288) (hA : n ≤ A) (hB : n ≤ B) (h : ∀ j, j < n → ov j = nI (f j) ∧ f j ≤ 15) (hc : ∀ j, j < n → f j ≠ 0 → cdv j = nI (q_fc f n (f j) + q_cnt f (f j) j)) {l c : Nat} (hl : 1 ≤ l) (hl2 : l ≤ 15) (hcc : c < 65536)
    (K : Int32 → Int32 → Int32 → Int32 → Int32 → Option (Int32 × Int32 × Int32)) {p x4 : Int32} : ∀ (d m i : Nat), n = i + d → d < m → (∀ j, j < i → f j = l → ¬ q_fc f n l + q_cnt f l j = c) →
    (∀ j, j < n → f j = l → q_fc f n l + q_cnt f l j = c → pX11_symbol_b73 A B ov cdv (nI n) K m p 0 x4 (nI c) (nI l) (nI i) = some (nI j, p, 0)) ∧
    ((∀ j, j < n → f j = l → ¬ q_fc f n l + q_cnt f l j = c) → pX11_symbol_b73 A B ov cdv (nI n) K m p 0 x4 (nI c) (nI l) (nI i) = K p 0 x4 (nI c) (nI (l + 1))) := by
  intro d
  induction d with
  | zero =>
    intro m i hi hm hno
    obtain ⟨m, rfl⟩ : ∃ z, m = z + 1 := ⟨m - 1, by omega⟩
    have e : i = n := by omega
    subst e
    refine ⟨fun j hj h1 h2 => absurd h2 (hno j hj h1), fun _ => ?_⟩
    rw [pX11_symbol_b73]
    dsimp only
    simp (disch := omega) only [qi_le, if_pos, nI_1]
  | succ d ih =>
    intro m i hi hm hno
    obtain ⟨m, rfl⟩ : ∃ z, m = z + 1 := ⟨m - 1, by omega⟩
    obtain ⟨e1, e2⟩ := h i (by omega)
    have hfb := q_fc_b (f := f) (n := n) (l := f i) hn e2
    have hcl := q_cnt_le f (f i) i
    rw [pX11_symbol_b73]
    simp only [eq_self, if_true]
    simp (disch := omega) only [qi_le, qi_lt0, nI_clamp, false_or, if_neg, e1, nI_1, qi_eq]
    by_cases c1 : f i = l
    · rw [if_pos c1, hc i (by omega) (by omega)]
      simp (disch := omega) only [qi_eq]
      by_cases c2 : q_fc f n (f i) + q_cnt f (f i) i = c
      · rw [if_pos c2]
        rw [c1] at c2
        refine ⟨fun j hj h1 h2 => ?_, fun q => absurd c2 (q i (by omega) c1)⟩
        have : j = i := q_cnt_inj h1 c1 (by omega)
        rw [this]
      · rw [if_neg c2]
        refine ih m (i + 1) (by omega) (by omega) (fun j hj h1 => ?_)
        by_cases e : j = i
        · subst e
          rw [h1] at c2
          exact c2
        · exact hno j (by omega) h1
    · rw [if_neg c1]
      refine ih m (i + 1) (by omega) (by omega) (fun j hj h1 => ?_)
      by_cases e : j = i
      · subst e
        exact absurd h1 c1
      · exact hno j (by omega) h1
theorem sf_73F {m : Nat} {s x4 x5 x6 x7 p g : Int32} (K : Int32 → Int32 → Int32 → Int32 → Int32 → Option (Int32 × Int32 × Int32)) (hg : ¬ g = 0) : pX11_symbol_b73 A B ov cdv s K (m + 1) p g x4 x5 x6 x7 = K p g x4 x5 (x6 + 1) := by
  rw [pX11_symbol_b73]
  dsimp only
  by_cases q : s ≤ x7
  · rw [if_pos q]
  · rw [if_neg q, if_neg hg]
theorem sf_44F {m : Nat} {s S x4 x5 x6 p g : Int32} (hg : ¬ g = 0) : pX11_symbol_b44 Z A B S mv ov cdv s (m + 1) p g x4 x5 x6 = some (-1, p, g) := by
  rw [pX11_symbol_b44]
  dsimp only
  by_cases q : x4 < x6
  · rw [if_pos q, sf_119F hg]
  · rw [if_neg q, if_neg hg, sf_119F hg]
/-- what a symbol's reading comes to: the symbol; or the bytes end; or no code -/
def q_rd (n k : Nat) (f : Nat → Nat) (i : Nat) (r : Int32) (s g : Int32) (i' : Nat) : Prop :=
  i ≤ i' ∧ i' ≤ 8 * k ∧ ((∃ j, j < n ∧ f j ≠ 0 ∧ i < i' ∧ r = nI j ∧ s = nI j ∧ g = 0) ∨ (r = -1 ∧ s = -1 ∧ g = 1 ∧ i' = 8 * k) ∨ (r = -5 ∧ s = -1 ∧ g = 5))
theorem sf_rdL (hN : N ≤ 80000) (hk : k ≤ N) (hZ : k ≤ Z) (hr : ∀ j, j < k → ∃ t : Nat, t < 256 ∧ v j = yb t ∧ mv j = nI t) (hn0 : 0 < n) (hn : n ≤ 288) (hA : n ≤ A) (hB : n ≤ B) (h : ∀ j, j < n → ov j = nI (f j) ∧ f j ≤ 15)
    (hc : ∀ j, j < n → f j ≠ 0 → cdv j = nI (q_fc f n (f j) + q_cnt f (f j) j)) (hq : q_codes n f L of fcv fpv cv bc) : ∀ (d m m' l i c : Nat), q_mx f n + 1 ≤ l + d → d < m → d + 1 < m' → 1 ≤ l → l ≤ q_mx f n + 1 → i ≤ 8 * k → c < 2 ^ (l - 1) →
    ∃ r s g i', pX2_read_b4 16 16 16 n N L fcv of fpv bc (nI (8 * k)) v m (nI i) (nI c) (nI l) = some (r, nI i') ∧
      pX11_symbol_b44 Z A B (nI k) mv ov cdv (nI n) m' (nI i) 0 (nI (q_mx f n)) (nI c) (nI l) = some (s, nI i', g) ∧ q_rd n k f i r s g i' := by
  have hmx : q_mx f n ≤ 15 := q_mx_le (fun j hj => (h j hj).2)
  obtain ⟨hL, hq1, hq2⟩ := hq
  subst hL
  intro d
  induction d with
  | zero =>
    intro m m' l i c hd hm hm' hl hl2 hi hcb
    obtain ⟨m, rfl⟩ : ∃ z, m = z + 1 := ⟨m - 1, by omega⟩
    obtain ⟨m', rfl⟩ : ∃ z, m' = z + 1 := ⟨m' - 1, by omega⟩
    rw [pX2_read_b4, pX11_symbol_b44]
    dsimp only
    simp (disch := omega) only [qi_lt, if_pos]
    rw [sf_119]
    exact ⟨-5, -1, 5, i, rfl, rfl, Nat.le_refl i, hi, Or.inr (Or.inr ⟨rfl, rfl, rfl⟩)⟩
  | succ d ih =>
    intro m m' l i c hd hm hm' hl hl2 hi hcb
    obtain ⟨m, rfl⟩ : ∃ z, m = z + 1 := ⟨m - 1, by omega⟩
    obtain ⟨m', rfl⟩ : ∃ z, m' = z + 1 := ⟨m' - 1, by omega⟩
    rw [pX2_read_b4, pX11_symbol_b44]
    dsimp only
    rw [qf_lt (by omega) (by omega), qf_lt (by omega) (by omega), if_pos (show (0 : Int32) = 0 from rfl)]
    by_cases c0 : q_mx f n < l
    · rw [if_pos c0, if_pos c0, sf_119]
      exact ⟨-5, -1, 5, i, rfl, rfl, Nat.le_refl i, hi, Or.inr (Or.inr ⟨rfl, rfl, rfl⟩)⟩
    rw [if_neg c0, if_neg c0, sf_next hN hk hr hi, show (1 : Int32) = nI 1 from rfl, sf_tk (mv := mv) hZ (by omega) (fun j hj => (hr j hj).elim (fun t q => ⟨t, q.1, q.2.2⟩)) (b := 1) (by omega) hi]
    by_cases c1 : i < 8 * k
    · rw [if_pos c1, if_pos (by omega), Option.bind_some, Option.bind_some]
      dsimp only
      have hB2 := q_B2 mv i
      have hnum : q_num mv i 1 = q_B mv i := by
        show 0 + q_B mv (i + 0) * 2 ^ 0 = _
        simp
      have hpw : 2 ^ l = 2 * 2 ^ (l - 1) := by
        obtain ⟨y, rfl⟩ : ∃ y, l = y + 1 := ⟨l - 1, by omega⟩
        rw [Nat.add_sub_cancel, Nat.pow_succ]
        omega
      have hp15 : 2 ^ l ≤ 2 ^ 15 := Nat.pow_le_pow_right (by decide) (by omega)
      obtain ⟨a1, a2, a3⟩ := hq1 l (by omega)
      have hfb := q_fc_b (f := f) (n := n) (l := l) hn (by omega)
      have hcn := q_c_le f n l
      have hce : q_c f n l = q_cnt f l n := by unfold q_c; rw [if_neg (by omega)]
      have hcode : (2 : Int32) * nI c + nI (q_B mv i) = nI (2 * c + q_B mv i) := by
        rw [show (2 : Int32) = nI 2 from rfl, pk_mul, nI_add]
      rw [hnum, hcode]
      obtain ⟨s1, s2⟩ := sf_sym73 (A := A) (B := B) (ov := ov) (cdv := cdv) (f := f) (n := n) (l := l) (c := 2 * c + q_B mv i) (p := nI (i + 1)) (x4 := nI (q_mx f n)) hn hA hB h hc hl (by omega) (by omega) (pX11_symbol_b44 Z A B (nI k) mv ov cdv (nI n) m') n fb_F 0 (by omega) (by unfold fb_F; omega) (fun j hj => absurd hj (Nat.not_lt_zero j))
      rw [nI_0] at s1 s2
      rw [if_pos (nI_pos' (by omega))]
      simp (disch := omega) only [qi_lt0, nI_clamp, false_or, if_neg, a1, a2, a3, nI_1, nI_add]
      by_cases c2 : 2 * c + q_B mv i < q_fc f n l
      · rw [if_pos (pk_sneg (by omega) c2), s2 (fun j hj h1 h2 => by omega)]
        obtain ⟨r, s, g, i', t1, t2, t3, t4, t5⟩ := ih m m' (l + 1) (i + 1) (2 * c + q_B mv i) (by omega) (by omega) (by omega) (by omega) (by omega) (by omega) (by rw [Nat.add_sub_cancel]; omega)
        refine ⟨r, s, g, i', t1, t2, by omega, t4, ?_⟩
        rcases t5 with ⟨j, z1, z2, z3, z4⟩ | t5
        · exact Or.inl ⟨j, z1, z2, by omega, z4⟩
        · exact Or.inr t5
      · rw [pk_sub (by omega), if_neg (nI_pos (by omega))]
        simp (disch := omega) only [qi_le]
        by_cases c3 : q_c f n l ≤ 2 * c + q_B mv i - q_fc f n l
        · rw [if_pos c3, s2 (fun j hj h1 h2 => by have := q_cnt_lt (f := f) hj h1; omega)]
          obtain ⟨r, s, g, i', t1, t2, t3, t4, t5⟩ := ih m m' (l + 1) (i + 1) (2 * c + q_B mv i) (by omega) (by omega) (by omega) (by omega) (by omega) (by omega) (by rw [Nat.add_sub_cancel]; omega)
          refine ⟨r, s, g, i', t1, t2, by omega, t4, ?_⟩
          rcases t5 with ⟨j, z1, z2, z3, z4⟩ | t5
          · exact Or.inl ⟨j, z1, z2, by omega, z4⟩
          · exact Or.inr t5
        · obtain ⟨j, j1, j2, j3⟩ := q_cnt_sel (f := f) (l := l) (n := n) (r := 2 * c + q_B mv i - q_fc f n l) (by omega)
          have hfp := q_fp_le f n (l + 1)
          have hfs : q_fp f n (l + 1) = q_fp f n l + q_c f n l := rfl
          have hbc := (hq2 j j1 (by omega)).2
          rw [j2, j3] at hbc
          rw [if_neg c3, nI_add]
          simp (disch := omega) only [qi_lt0, nI_clamp, false_or, if_neg]
          rw [hbc, s1 j j1 j2 (by omega)]
          exact ⟨nI j, nI j, 0, i + 1, rfl, rfl, by omega, by omega, Or.inl ⟨j, j1, by omega, by omega, rfl, rfl, rfl⟩⟩
    · have hi8 : i = 8 * k := by omega
      obtain ⟨m', rfl⟩ : ∃ z, m' = z + 1 := ⟨m' - 1, by omega⟩
      rw [if_neg c1, if_neg (by omega), Option.bind_some, Option.bind_some]
      dsimp only
      rw [if_neg (by decide), show fb_F = 4294967295 + 1 from rfl, sf_73F _ (by decide), sf_44F (by decide)]
      exact ⟨-1, -1, 1, 8 * k, by rw [hi8]; rfl, rfl, by omega, by omega, Or.inr (Or.inl ⟨rfl, rfl, rfl, rfl⟩)⟩
theorem sf_rd (hN : N ≤ 80000) (hk : k ≤ N) (hZ : k ≤ Z) (hr : ∀ j, j < k → ∃ t : Nat, t < 256 ∧ v j = yb t ∧ mv j = nI t) (hn0 : 0 < n) (hn : n ≤ 288) (hA : n ≤ A) (hB : n ≤ B) (h : ∀ j, j < n → ov j = nI (f j) ∧ f j ≤ 15)
    (hc : ∀ j, j < n → f j ≠ 0 → cdv j = nI (q_fc f n (f j) + q_cnt f (f j) j)) (hq : q_codes n f L of fcv fpv cv bc) {i : Nat} (hi : i ≤ 8 * k) :
    ∃ r s g i', pX2_read 16 16 16 n N L fcv of fpv bc (nI (8 * k)) v (nI i) = some (r, nI i') ∧ pX11_symbol Z A B (nI k) mv ov cdv (nI n) (nI i) 0 = some (s, nI i', g) ∧ q_rd n k f i r s g i' := by
  have hmx : q_mx f n ≤ 15 := q_mx_le (fun j hj => (h j hj).2)
  have e1 := sf_symL (Z := Z) (B := B) (L := nI k) (mv := mv) (cdv := cdv) (p := nI i) (g := 0) hn hA h n fb_F 0 (by omega) (by unfold fb_F; omega)
  obtain ⟨r, s, g, i', t1, t2, t3⟩ := sf_rdL (Z := Z) (A := A) (B := B) (ov := ov) (cdv := cdv) hN hk hZ hr hn0 hn hA hB h hc hq (q_mx f n) fb_F fb_F 1 i 0 (by omega) (by unfold fb_F; omega) (by unfold fb_F; omega) (by omega) (by omega) hi (by decide)
  refine ⟨r, s, g, i', t1, ?_, t3⟩
  unfold pX11_symbol
  rw [show nI (q_mx f 0) = 0 from nI_0, nI_0] at e1
  rw [e1]
  exact t2
end QR
