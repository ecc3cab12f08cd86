/-! ### matches: the class's matcher, the reference's longest -/
section QM
def q_by (n : Nat) (v tv : Nat → Int32) (t : Nat → Nat) : Prop := ∀ j, j < n → t j < 256 ∧ v j = yb (t j) ∧ tv j = nI (t j)
theorem q_by_of {n : Nat} {v tv : Nat → Int32} (h : ∀ j, j < n → ∃ t : Nat, t < 256 ∧ v j = yb t ∧ tv j = nI t) : q_by n v tv (fun j => (tv j).toNatClampNeg) := by
  intro j hj
  obtain ⟨t, h1, h2, h3⟩ := h j hj
  have : (tv j).toNatClampNeg = t := by rw [h3, nI_clamp (by omega)]
  dsimp only
  rw [this]
  exact ⟨h1, h2, h3⟩
/-- how far the bytes at f and at p are alike, from a on, d at most -/
def q_al (t : Nat → Nat) (f p : Nat) : Nat → Nat → Nat
  | 0, a => a
  | d + 1, a => if t (f + a) = t (p + a) then q_al t f p d (a + 1) else a
theorem q_al_ge (t : Nat → Nat) (f p : Nat) : ∀ d a, a ≤ q_al t f p d a ∧ q_al t f p d a ≤ a + d := by
  intro d
  induction d with
  | zero => intro a; exact ⟨Nat.le_refl a, Nat.le_refl a⟩
  | succ d ih =>
    intro a
    rw [q_al]
    split
    · have := ih (a + 1); omega
    · omega
abbrev q_like (t : Nat → Nat) (p f : Nat) : Prop := t f = t p ∧ t (f + 1) = t (p + 1) ∧ t (f + 2) = t (p + 2)
theorem q_al_like {t : Nat → Nat} {f p d : Nat} (h : q_like t p f) : q_al t f p (d + 3) 0 = q_al t f p d 3 := by
  obtain ⟨h1, h2, h3⟩ := h
  rw [q_al, if_pos (show t (f + 0) = t (p + 0) from h1), q_al, if_pos (show t (f + (0 + 1)) = t (p + (0 + 1)) from h2), q_al, if_pos (show t (f + (0 + 1 + 1)) = t (p + (0 + 1 + 1)) from h3)]
theorem q_al_not {t : Nat → Nat} {f p d : Nat} (h : ¬ q_like t p f) : q_al t f p (d + 3) 0 < 3 := by
  rw [q_al]
  split
  · rename_i h1
    rw [q_al]
    split
    · rename_i h2
      rw [q_al]
      split
      · rename_i h3
        exact absurd ⟨h1, h2, h3⟩ h
      · omega
    · omega
  · omega
theorem sf_alike {R n : Nat} {v tv : Nat → Int32} {t : Nat → Nat} (hR : R ≤ 80000) (hn : n ≤ R) (h : q_by n v tv t) {f p most : Nat} (hf : f < p) (hp : p + most ≤ n) :
    ∀ (d m a : Nat), most = a + d → d < m → pX4_alike_b3 R v (nI f) (nI p) (nI most) m (nI a) = some (nI (q_al t f p d a)) := by
  intro d
  induction d with
  | zero =>
    intro m a ha hm
    obtain ⟨m, rfl⟩ : ∃ z, m = z + 1 := ⟨m - 1, by omega⟩
    rw [pX4_alike_b3]
    dsimp only
    rw [qf_le (by omega) (by omega), if_pos (by omega)]
    rfl
  | succ d ih =>
    intro m a ha hm
    obtain ⟨m, rfl⟩ : ∃ z, m = z + 1 := ⟨m - 1, by omega⟩
    rw [pX4_alike_b3]
    dsimp only
    rw [qf_le (by omega) (by omega), if_neg (by omega), nI_add, nI_add, qf_out (by omega), if_neg (by omega), qf_out (by omega), if_neg (by omega), nI_clamp (by omega), nI_clamp (by omega), q_al]
    obtain ⟨a1, a2, a3⟩ := h (f + a) (by omega)
    obtain ⟨b1, b2, b3⟩ := h (p + a) (by omega)
    by_cases c : t (f + a) = t (p + a)
    · rw [if_pos c, if_pos (by rw [a2, b2, c]), nI_1]
      exact ih m (a + 1) (by omega) (by omega)
    · rw [if_neg c, if_neg (fun w => c (yb_inj a1 b1 (by rw [← a2, ← b2]; exact w)))]
theorem sf_matchOf {R n : Nat} {v tv : Nat → Int32} {t : Nat → Nat} (hR : R ≤ 80000) (hn : n ≤ R) (h : q_by n v tv t) {f p most : Nat} (hf : f < p) (hp : p + most ≤ n) :
    ∀ (d m a : Nat), most = a + d → d < m → pX11_matchOf_b16 R tv (nI f) (nI p) m (nI most) (nI a) = some (nI (q_al t f p d a)) := by
  intro d
  induction d with
  | zero =>
    intro m a ha hm
    obtain ⟨m, rfl⟩ : ∃ z, m = z + 1 := ⟨m - 1, by omega⟩
    rw [pX11_matchOf_b16]
    dsimp only
    rw [qf_le (by omega) (by omega), if_pos (by omega)]
    rfl
  | succ d ih =>
    intro m a ha hm
    obtain ⟨m, rfl⟩ : ∃ z, m = z + 1 := ⟨m - 1, by omega⟩
    rw [pX11_matchOf_b16]
    dsimp only
    rw [qf_le (by omega) (by omega), if_neg (by omega), nI_add, nI_add, qf_out (by omega), if_neg (by omega), qf_out (by omega), if_neg (by omega), nI_clamp (by omega), nI_clamp (by omega), q_al]
    obtain ⟨a1, a2, a3⟩ := h (f + a) (by omega)
    obtain ⟨b1, b2, b3⟩ := h (p + a) (by omega)
    by_cases c : t (f + a) = t (p + a)
    · rw [if_pos c, if_pos (by rw [a3, b3, c]), nI_1]
      exact ih m (a + 1) (by omega) (by omega)
    · rw [if_neg c, if_neg (fun w => c ((nI_eq (by omega) (by omega)).mp (by rw [← a3, ← b3]; exact w)))]
/-- the search back: positions below f, one by one -/
def q_scan (t : Nat → Nat) (p most ch : Nat) : Nat → Nat → Nat × Nat → Nat × Nat
  | 0, _, r => r
  | f + 1, seen, r => if 32768 < p - f then r else if ch ≤ seen then r else if q_like t p f then q_scan t p most ch f (seen + 1) (if q_al t f p most 0 ≤ r.1 then r else (q_al t f p most 0, p - f)) else q_scan t p most ch f seen r
theorem q_scan_full (t : Nat → Nat) (p most ch : Nat) (f : Nat) {seen : Nat} (r : Nat × Nat) (h : ch ≤ seen) : q_scan t p most ch f seen r = r := by
  cases f with
  | zero => rfl
  | succ f => rw [q_scan, if_pos h, ite_self]
theorem q_scan_most (t : Nat → Nat) (p most ch : Nat) : ∀ (f seen : Nat) (r : Nat × Nat), most ≤ r.1 → q_scan t p most ch f seen r = r := by
  intro f
  induction f with
  | zero => intro seen r h; rfl
  | succ f ih =>
    intro seen r h
    rw [q_scan]
    have := (q_al_ge t f p most 0).2
    split
    · rfl
    · split
      · rfl
      · split
        · rw [if_pos (by omega)]; exact ih _ r h
        · exact ih _ r h
theorem q_scan_far (t : Nat → Nat) (p most ch : Nat) (f seen : Nat) (r : Nat × Nat) (h : 32768 < p - (f - 1)) : q_scan t p most ch f seen r = r := by
  cases f with
  | zero => rfl
  | succ f => rw [q_scan, if_pos (by omega)]
theorem q_scan_skip (t : Nat → Nat) (p most ch : Nat) (g : Nat) : ∀ (f seen : Nat) (r : Nat × Nat), g ≤ f → (∀ j, g ≤ j → j < f → ¬ q_like t p j) → q_scan t p most ch f seen r = q_scan t p most ch g seen r := by
  intro f
  induction f with
  | zero =>
    intro seen r h _
    have : g = 0 := by omega
    rw [this]
  | succ f ih =>
    intro seen r h hl
    by_cases c : g = f + 1
    · rw [c]
    · rw [q_scan]
      by_cases c1 : 32768 < p - f
      · rw [if_pos c1, q_scan_far]; omega
      · rw [if_neg c1]
        by_cases c2 : ch ≤ seen
        · rw [if_pos c2, q_scan_full _ _ _ _ _ _ c2]
        · rw [if_neg c2, if_neg (hl f (by omega) (by omega))]
          exact ih seen r (by omega) (fun j h1 h2 => hl j h1 (by omega))
/-- what is known of an answer of the search -/
def q_fit (p most : Nat) (r : Nat × Nat) : Prop := r.1 = 0 ∨ (3 ≤ r.1 ∧ r.1 ≤ most ∧ 1 ≤ r.2 ∧ r.2 ≤ p ∧ r.2 ≤ 32768)
theorem q_scan_fit (t : Nat → Nat) (p most ch : Nat) (hm : 3 ≤ most) : ∀ (f seen : Nat) (r : Nat × Nat), f ≤ p → q_fit p most r → q_fit p most (q_scan t p most ch f seen r) := by
  intro f
  induction f with
  | zero => intro seen r _ h; exact h
  | succ f ih =>
    intro seen r hf h
    rw [q_scan]
    split
    · exact h
    · split
      · exact h
      · split
        · rename_i c1 c2 c3
          refine ih _ _ (by omega) ?_
          split
          · exact h
          · obtain ⟨d, rfl⟩ : ∃ d, most = d + 3 := ⟨most - 3, by omega⟩
            have h1 := q_al_like (d := d) c3
            have h2 := q_al_ge t f p d 3
            exact Or.inr ⟨by dsimp only; omega, by dsimp only; omega, by dsimp only; omega, by dsimp only; omega, by dsimp only; omega⟩
        · exact ih _ r (by omega) h
/-- r - 1 is the last place before q in the slot x; 0: there is none -/
def q_prev (s : Nat → Nat) (q x r : Nat) : Prop := r ≤ q ∧ (∀ j, r ≤ j → j < q → s j ≠ x) ∧ (0 < r → s (r - 1) = x)
/-- the class's rows of places -/
def q_chC (s : Nat → Nat) (lim : Nat) (ev : Nat → Int32) : Prop := ∀ q, q < lim → ∃ r, ev q = nI r ∧ q_prev s q (s q) r
/-- the reference's -/
def q_chM (s : Nat → Nat) (lim : Nat) (ev : Nat → Int32) : Prop := ∀ q, q < lim → ∃ r, ev q = nI r - 1 ∧ q_prev s q (s q) r
theorem q_m1 : nI 0 - 1 < 0 := by decide
end QM
