/-! ### writing bits: class and reference -/
section RA
variable {R Pn : Nat}
/-- n bits are written -/
def q_bo (n : Nat) (held filled sz : Int32) (bv : Nat → Int32) (place : Int32) (pv : Nat → Int32) : Prop :=
  ∃ hd, hd < 2 ^ (n % 8) ∧ held = nI hd ∧ filled = nI (n % 8) ∧ sz = nI (n / 8) ∧ place = nI n ∧ (∀ j, j < n / 8 → ∃ t : Nat, t < 256 ∧ bv j = yb t ∧ pv j = nI t) ∧ (n % 8 ≠ 0 → pv (n / 8) = nI hd)
theorem q_bo0 (bv pv : Nat → Int32) : q_bo 0 0 0 0 bv 0 pv := ⟨0, by decide, rfl, rfl, rfl, rfl, fun j hj => absurd hj (Nat.not_lt_zero j), fun h => absurd rfl h⟩
theorem q_p2 : ∀ k, k < 8 → 2 ^ k ≤ 128 ∧ 2 ^ (k + 1) = 2 ^ k + 2 ^ k := by decide
set_option maxRecDepth 100000 in
theorem sf_bit {n b : Nat} {held filled sz place : Int32} {bv pv : Nat → Int32} (hR : R ≤ 80000) (hn : n < 8 * R) (hP : R ≤ Pn) (hb : b < 2) (h : q_bo n held filled sz bv place pv) :
    ∃ h' f' s' bv' pl' pv', pX1_put R (nI b) held filled sz bv = some (h', f', s', bv') ∧ q_bo (n + 1) h' f' s' bv' pl' pv' ∧
      ∀ (x1 x3 : Int32) (K : Int32 → (Nat → Int32) → Int32 → Option (Int32 × (Nat → Int32))), ((x1 >>> (x3 &&& 31)) &&& (1 : Int32)) = nI b →
        (if (place - place / (8 : Int32) * (8 : Int32)) = 0 then (if (place / (8 : Int32)) < 0 ∨ Pn ≤ ((place / (8 : Int32))).toNatClampNeg then none else pX11_put_b30 Pn x1 K place (upd pv ((place / (8 : Int32))).toNatClampNeg (0 : Int32)) x3) else pX11_put_b30 Pn x1 K place pv x3) = K pl' pv' (x3 + 1) := by
  obtain ⟨hd, h1, rfl, rfl, rfl, rfl, h6, h7⟩ := h
  have hk : n % 8 < 8 := Nat.mod_lt _ (by omega)
  have hp := q_p2 (n % 8) hk
  have hbk : b * 2 ^ (n % 8) ≤ 2 ^ (n % 8) := by
    have : b = 0 ∨ b = 1 := by omega
    rcases this with rfl | rfl <;> omega
  have hval : hd + b * 2 ^ (n % 8) < 2 ^ (n % 8 + 1) := by omega
  have hor : nI hd ||| (nI b <<< (nI (n % 8) &&& 31)) = nI (hd + b * 2 ^ (n % 8)) := by
    rw [pk_shlN _ (n % 8) (q_sh _ (by omega)) (by omega), q_orN h1]
  have hdiv : nI n / 8 = nI (n / 8) := pk_div (d := 8) (by omega) (by omega) (by omega)
  have hrem : nI n - nI n / 8 * 8 = nI (n % 8) := pk_rem (d := 8) (by omega) (by omega) (by omega)
  have hrem' : nI n - nI (n / 8) * 8 = nI (n % 8) := by rw [← hdiv]; exact hrem
  have hM : ∀ (x1 x3 : Int32) (K : Int32 → (Nat → Int32) → Int32 → Option (Int32 × (Nat → Int32))), ((x1 >>> (x3 &&& 31)) &&& (1 : Int32)) = nI b →
      ∃ pv1, (if (nI n - nI n / (8 : Int32) * (8 : Int32)) = 0 then (if (nI n / (8 : Int32)) < 0 ∨ Pn ≤ ((nI n / (8 : Int32))).toNatClampNeg then none else pX11_put_b30 Pn x1 K (nI n) (upd pv ((nI n / (8 : Int32))).toNatClampNeg (0 : Int32)) x3) else pX11_put_b30 Pn x1 K (nI n) pv x3) = K (nI (n + 1)) pv1 (x3 + 1) ∧ pv1 = (if n % 8 = 0 then upd (upd pv (n / 8) 0) (n / 8) (nI (hd + b * 2 ^ (n % 8))) else upd pv (n / 8) (nI (hd + b * 2 ^ (n % 8)))) := by
    intro x1 x3 K hx
    unfold pX11_put_b30
    rw [hx, hdiv, hrem', nI_clamp (by omega), nI_1, qf_o2 (by omega) (by omega), qf_o2 (by omega) (by omega), qf_o2 (by omega) (by omega), qf_o2 (by omega) (by omega), qf_o2 (by omega) (by omega)]
    by_cases c : n % 8 = 0
    · have hd0 : hd = 0 := by rw [c] at h1; omega
      rw [if_pos (by rw [c]; rfl), pk_us, if_pos c]
      refine ⟨_, ?_, rfl⟩
      rw [← hor, hd0, nI_0]
    · rw [if_neg (nI_ne0 (by omega) (by omega)), if_neg c, h7 c, hor]
      exact ⟨_, rfl, rfl⟩
  have hpv : ∀ j, j < n / 8 → (if n % 8 = 0 then upd (upd pv (n / 8) 0) (n / 8) (nI (hd + b * 2 ^ (n % 8))) else upd pv (n / 8) (nI (hd + b * 2 ^ (n % 8)))) j = pv j := by
    intro j hj
    split
    · rw [pk_un (by omega), pk_un (by omega)]
    · rw [pk_un (by omega)]
  have hpe : (if n % 8 = 0 then upd (upd pv (n / 8) 0) (n / 8) (nI (hd + b * 2 ^ (n % 8))) else upd pv (n / 8) (nI (hd + b * 2 ^ (n % 8)))) (n / 8) = nI (hd + b * 2 ^ (n % 8)) := by
    split
    · rw [pk_us]
    · rw [pk_us]
  generalize (if n % 8 = 0 then upd (upd pv (n / 8) 0) (n / 8) (nI (hd + b * 2 ^ (n % 8))) else upd pv (n / 8) (nI (hd + b * 2 ^ (n % 8)))) = pv2 at hM hpv hpe
  unfold pX1_put
  rw [hor, nI_1, show (8 : Int32) = nI 8 from rfl, qf_eq (by omega) (by omega)]
  by_cases c : n % 8 + 1 = 8
  · rw [if_pos c, sf_add _ _ hR (by omega), if_pos (by omega), Option.bind_some]
    dsimp only
    refine ⟨_, _, _, _, nI (n + 1), pv2, rfl, ⟨0, Nat.two_pow_pos _, rfl, by rw [show (n + 1) % 8 = 0 by omega]; rfl, by rw [show (n + 1) / 8 = n / 8 + 1 by omega], rfl, fun j hj => ?_, fun w => absurd (show (n + 1) % 8 = 0 by omega) w⟩, fun x1 x3 K hx => ?_⟩
    · by_cases w : j = n / 8
      · subst w
        exact ⟨hd + b * 2 ^ (n % 8), by rw [show n % 8 = 7 by omega] at hval ⊢; omega, pk_us, hpe⟩
      · rw [pk_un w, hpv j (by omega)]
        exact h6 j (by omega)
    · obtain ⟨pv1, e1, e2⟩ := hM x1 x3 K hx
      rw [e2] at e1
      exact e1
  · rw [if_neg c]
    refine ⟨_, _, _, _, nI (n + 1), pv2, rfl, ⟨hd + b * 2 ^ (n % 8), by rw [show (n + 1) % 8 = n % 8 + 1 by omega]; exact hval, rfl, by rw [show (n + 1) % 8 = n % 8 + 1 by omega], by rw [show (n + 1) / 8 = n / 8 by omega], rfl, fun j hj => ?_, fun _ => by rw [show (n + 1) / 8 = n / 8 by omega]; exact hpe⟩, fun x1 x3 K hx => ?_⟩
    · rw [hpv j (by omega)]
      exact h6 j (by omega)
    · obtain ⟨pv1, e1, e2⟩ := hM x1 x3 K hx
      rw [e2] at e1
      exact e1
theorem sf_numW {x1 y1 : Int32} {cnt : Nat} (hR : R ≤ 80000) (hP : R ≤ Pn) (hc : cnt ≤ 31) (hx : ∀ i, i < cnt → ∃ b, b < 2 ∧ ((x1 >>> (nI i &&& 31)) &&& (1 : Int32)) = nI b ∧ ((y1 >>> (nI i &&& 31)) &&& (1 : Int32)) = nI b) :
    ∀ (d m m' i n : Nat) (held filled sz place : Int32) (bv pv : Nat → Int32), cnt = i + d → d < m → d < m' → n + d ≤ 8 * R → q_bo n held filled sz bv place pv →
    ∃ h' f' s' bv' pl' pv', pX1_number_b2 R x1 (nI cnt) m held filled sz bv (nI i) = some (h', f', s', bv') ∧ pX11_put_b2 Pn y1 (nI cnt) m' place pv (nI i) = some (pl', pv') ∧ q_bo (n + d) h' f' s' bv' pl' pv' := by
  intro d
  induction d with
  | zero =>
    intro m m' i n held filled sz place bv pv hi hm hm' hn h
    obtain ⟨m, rfl⟩ : ∃ z, m = z + 1 := ⟨m - 1, by omega⟩
    obtain ⟨m', rfl⟩ : ∃ z, m' = z + 1 := ⟨m' - 1, by omega⟩
    rw [pX1_number_b2, pX11_put_b2]
    dsimp only
    rw [qf_le (by omega) (by omega), if_pos (by omega), qf_le (by omega) (by omega), if_pos (by omega)]
    exact ⟨_, _, _, _, _, _, rfl, rfl, h⟩
  | succ d ih =>
    intro m m' i n held filled sz place bv pv hi hm hm' hn h
    obtain ⟨m, rfl⟩ : ∃ z, m = z + 1 := ⟨m - 1, by omega⟩
    obtain ⟨m', rfl⟩ : ∃ z, m' = z + 1 := ⟨m' - 1, by omega⟩
    obtain ⟨b, b1, b2, b3⟩ := hx i (by omega)
    obtain ⟨h1, f1, s1, bv1, pl1, pv1, e1, e2, e3⟩ := sf_bit hR (show n < 8 * R by omega) hP b1 h
    rw [pX1_number_b2, pX11_put_b2]
    dsimp only
    rw [qf_le (by omega) (by omega), if_neg (by omega), qf_le (by omega) (by omega), if_neg (by omega), b2, e1, Option.bind_some, e3 y1 (nI i) _ b3, nI_1]
    dsimp only
    rw [show n + (d + 1) = n + 1 + d by omega]
    exact ih m m' (i + 1) (n + 1) h1 f1 s1 pl1 bv1 pv1 (by omega) (by omega) (by omega) (by omega) e2
theorem sf_numP {x1 y1 held filled sz place : Int32} {cnt n : Nat} {bv pv : Nat → Int32} (hR : R ≤ 80000) (hP : R ≤ Pn) (hc : cnt ≤ 31) (hx : ∀ i, i < cnt → ∃ b, b < 2 ∧ ((x1 >>> (nI i &&& 31)) &&& (1 : Int32)) = nI b ∧ ((y1 >>> (nI i &&& 31)) &&& (1 : Int32)) = nI b) (hn : n + cnt ≤ 8 * R) (h : q_bo n held filled sz bv place pv) :
    ∃ h' f' s' bv' pl' pv', pX1_number R x1 (nI cnt) held filled sz bv = some (h', f', s', bv') ∧ pX11_put Pn y1 (nI cnt) place pv = some (pl', pv') ∧ q_bo (n + cnt) h' f' s' bv' pl' pv' := by
  unfold pX1_number pX11_put
  have := sf_numW hR hP hc hx cnt fb_F fb_F 0 n held filled sz place bv pv (by omega) (by unfold fb_F; omega) (by unfold fb_F; omega) hn h
  rw [nI_0] at this
  exact this
theorem q_bits (x : Int32) (i : Nat) : ∃ b, b < 2 ∧ ((x >>> (nI i &&& 31)) &&& (1 : Int32)) = nI b ∧ ((x >>> (nI i &&& 31)) &&& (1 : Int32)) = nI b := by
  obtain ⟨j, j1, j2⟩ := pk_andE (x >>> (nI i &&& 31)) (m := 1) 1 (by decide)
  exact ⟨j, j1, j2, j2⟩
theorem q_bit0 : ∀ b, b < 2 → ((nI b >>> (nI 0 &&& 31)) &&& (1 : Int32)) = nI b := by decide +kernel
theorem sf_codeW {x : Int32} (hR : R ≤ 80000) (hP : R ≤ Pn) : ∀ (d m m' n : Nat) (held filled sz place : Int32) (bv pv : Nat → Int32), d ≤ 31 → d < m → d < m' → n + d ≤ 8 * R → q_bo n held filled sz bv place pv →
    ∃ h' f' s' bv' pl' pv', pX1_symbol_b17 R m held filled sz bv x (nI d - 1) = some (h', f', s', bv') ∧ pX11_putCode_b4 Pn x m' place pv (nI d - 1) = some (pl', pv') ∧ q_bo (n + d) h' f' s' bv' pl' pv' := by
  intro d
  induction d with
  | zero =>
    intro m m' n held filled sz place bv pv hd hm hm' hn h
    obtain ⟨m, rfl⟩ : ∃ z, m = z + 1 := ⟨m - 1, by omega⟩
    obtain ⟨m', rfl⟩ : ∃ z, m' = z + 1 := ⟨m' - 1, by omega⟩
    rw [pX1_symbol_b17, pX11_putCode_b4]
    dsimp only
    rw [if_pos (show nI 0 - 1 < 0 by decide), if_pos (show nI 0 - 1 < 0 by decide)]
    exact ⟨_, _, _, _, _, _, rfl, rfl, h⟩
  | succ d ih =>
    intro m m' n held filled sz place bv pv hd hm hm' hn h
    obtain ⟨m, rfl⟩ : ∃ z, m = z + 1 := ⟨m - 1, by omega⟩
    obtain ⟨m', rfl⟩ : ∃ z, m' = z + 1 := ⟨m' - 1, by omega⟩
    obtain ⟨b, b1, b2, -⟩ := q_bits x d
    obtain ⟨h1, f1, s1, bv1, pl1, pv1, e1, e2, e3⟩ := sf_numP (Pn := Pn) (x1 := nI b) (y1 := nI b) (cnt := 1) hR hP (by omega) (fun i hi => ⟨b, b1, by rw [show i = 0 by omega]; exact q_bit0 b b1, by rw [show i = 0 by omega]; exact q_bit0 b b1⟩) (show n + 1 ≤ 8 * R by omega) h
    obtain ⟨g1, g2, g3, g4, g5, g6, k1, k2, k3⟩ := sf_bit hR (show n < 8 * R by omega) hP b1 h
    have hm1 : nI d + (-1) = nI d - 1 := by
      rw [show (-1 : Int32) = 0 - 1 from rfl]
      grind
    have e4 : pX11_put Pn (nI b) 1 place pv = some (g5, g6) := by
      unfold pX11_put
      rw [show pX11_put_b2 Pn (nI b) 1 fb_F = pX11_put_b2 Pn (nI b) 1 (4294967294 + 1 + 1) from rfl, pX11_put_b2]
      dsimp only
      rw [if_neg (by decide), k3 (nI b) 0 _ (q_bit0 b b1), pX11_put_b2]
      dsimp only
      rw [if_pos (by decide)]
    rw [pX1_symbol_b17, pX11_putCode_b4]
    dsimp only
    rw [nI_pred, if_neg (nI_pos (by omega)), if_neg (nI_pos (by omega)), b2, k1, Option.bind_some, e4, Option.bind_some]
    dsimp only
    rw [hm1, show n + (d + 1) = n + 1 + d by omega]
    exact ih m m' (n + 1) g1 g2 g3 g5 g4 g6 (by omega) (by omega) (by omega) (by omega) k2
/-- a code's bits, the highest first -/
theorem sf_codeP {cn ln l n s : Nat} {cv lv : Nat → Int32} {x held filled sz place : Int32} {bv pv : Nat → Int32} (hR : R ≤ 80000) (hP : R ≤ Pn) (hs : s < cn) (hs2 : s < ln) (hs3 : s < 80000) (hcv : cv s = x) (hlv : lv s = nI l) (hl : l ≤ 31) (hn : n + l ≤ 8 * R) (h : q_bo n held filled sz bv place pv) :
    ∃ h' f' s' bv' pl' pv', pX1_symbol R cn ln cv lv (nI s) held filled sz bv = some (h', f', s', bv') ∧ pX11_putCode Pn x (nI l) place pv = some (pl', pv') ∧ q_bo (n + l) h' f' s' bv' pl' pv' := by
  unfold pX1_symbol pX11_putCode
  rw [qf_out (by omega), if_neg (by omega), qf_out (by omega), if_neg (by omega), nI_clamp (by omega), hcv, hlv]
  exact sf_codeW hR hP l fb_F fb_F n held filled sz place bv pv hl (by unfold fb_F; omega) (by unfold fb_F; omega) hn h
end RA
