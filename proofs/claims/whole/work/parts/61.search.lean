/-! ### the search back, class and reference -/
section QN
variable {R TN n p most ch En : Nat} {v tv ev : Nat → Int32} {t s : Nat → Nat}
set_option maxRecDepth 100000 in
theorem sf_findL (hR : R ≤ 80000) (hn : n ≤ R) (h : q_by n v tv t) (hm3 : 3 ≤ most) (hp : p + most ≤ n) (hc64 : ch ≤ 64) (hs : ∀ j, q_like t p j → s j = s p) (hev : q_chC s p ev) (hEn : p < En) (hEn2 : En ≤ 80000) :
    ∀ (d m f seen x5 : Nat) (r : Nat × Nat) (dd : Int32), f ≤ d → d < m → f ≤ p → (0 < f → s (f - 1) = s p) → f + x5 ≤ p → seen < ch → r.1 < most → (r.1 ≠ 0 → dd = nI r.2) →
    ∃ dd', pX4_find_b42 En R (nI ch) ev v (nI p) m (nI r.1) dd (nI most) (nI seen) (nI f - 1) (nI x5) = some (nI (q_scan t p most ch f seen r).1, dd') ∧ ((q_scan t p most ch f seen r).1 ≠ 0 → dd' = nI (q_scan t p most ch f seen r).2) := by
  intro d
  induction d with
  | zero =>
    intro m f seen x5 r dd hf hm hfp hsf hx hsn hr hd
    obtain ⟨m, rfl⟩ : ∃ z, m = z + 1 := ⟨m - 1, by omega⟩
    have hf0 : f = 0 := by omega
    subst hf0
    rw [pX4_find_b42]
    dsimp only
    rw [if_pos (show nI 0 - 1 < 0 by decide), ite_self]
    exact ⟨dd, rfl, hd⟩
  | succ d ih =>
    intro m f seen x5 r dd hf hm hfp hsf hx hsn hr hd
    obtain ⟨m, rfl⟩ : ∃ z, m = z + 1 := ⟨m - 1, by omega⟩
    rw [pX4_find_b42]
    dsimp only
    rcases Nat.eq_zero_or_pos f with hf0 | hf0
    · subst hf0
      rw [if_pos (show nI 0 - 1 < 0 by decide), ite_self]
      exact ⟨dd, rfl, hd⟩
    obtain ⟨g, rfl⟩ : ∃ g, f = g + 1 := ⟨f - 1, by omega⟩
    rw [nI_pred, show (32768 : Int32) = nI 32768 from rfl, qf_le (by omega) (by omega)]
    by_cases c1 : 32768 ≤ x5
    · rw [if_pos c1, q_scan_far _ _ _ _ _ _ _ (by omega)]
      exact ⟨dd, rfl, hd⟩
    rw [if_neg c1, if_neg (nI_pos (by omega)), pk_sub (by omega), qf_lt (by omega) (by omega)]
    by_cases c2 : 32768 < p - g
    · rw [if_pos c2, q_scan_far _ _ _ _ _ _ _ (by omega)]
      exact ⟨dd, rfl, hd⟩
    rw [if_neg c2]
    have step : ∀ (seen' : Nat) (r' : Nat × Nat) (dd' : Int32), seen' ≤ ch → r'.1 ≤ most → (r'.1 ≠ 0 → dd' = nI r'.2) →
        ∃ dd'', pX4_find_b105 En (nI ch) ev (pX4_find_b42 En R (nI ch) ev v (nI p) m) (nI r'.1) dd' (nI most) (nI seen') (nI g) (nI x5) = some (nI (q_scan t p most ch g seen' r').1, dd'') ∧ ((q_scan t p most ch g seen' r').1 ≠ 0 → dd'' = nI (q_scan t p most ch g seen' r').2) := by
      intro seen' r' dd' h1 h2 h3
      unfold pX4_find_b105
      rw [qf_eq (by omega) (by omega)]
      by_cases e1 : seen' = ch
      · rw [if_pos e1, q_scan_full _ _ _ _ _ _ (by omega)]
        exact ⟨dd', rfl, h3⟩
      rw [if_neg e1, qf_eq (by omega) (by omega)]
      by_cases e2 : r'.1 = most
      · rw [if_pos e2, q_scan_most _ _ _ _ _ _ _ (by omega)]
        exact ⟨dd', rfl, h3⟩
      rw [if_neg e2, qf_out (by omega), if_neg (by omega), nI_clamp (by omega)]
      obtain ⟨r1, y1, y2, y3, y4⟩ := hev g (by omega)
      have hg : s g = s p := hsf (by omega)
      rw [y1, nI_1, q_scan_skip t p most ch r1 g seen' r' y2 (fun j j1 j2 w => y3 j j1 j2 ((hs j w).trans hg.symm))]
      exact ih m r1 seen' (x5 + 1) r' dd' (by omega) (by omega) (by omega) (fun z => (y4 z).trans hg) (by omega) (by omega) (by omega) h3
    have hal : pX4_alike R v (nI g) (nI p) (nI most) = some (nI (q_al t g p most 0)) := by
      unfold pX4_alike
      exact sf_alike hR hn h (by omega) hp most fb_F 0 (by omega) (by unfold fb_F; omega)
    have hle := (q_al_ge t g p most 0).2
    rw [hal, Option.bind_some, q_scan, if_neg c2, if_neg (show ¬ ch ≤ seen by omega), show (3 : Int32) = nI 3 from rfl, qf_lt (by omega) (by omega)]
    obtain ⟨e, rfl⟩ : ∃ e, most = e + 3 := ⟨most - 3, by omega⟩
    by_cases c3 : q_like t p g
    · have h1 := q_al_like (d := e) c3
      have h2 := q_al_ge t g p e 3
      rw [if_pos c3, if_neg (show ¬ q_al t g p (e + 3) 0 < 3 by omega), qf_le (by omega) (by omega), nI_1]
      by_cases c4 : q_al t g p (e + 3) 0 ≤ r.1
      · rw [if_pos c4, if_pos c4]
        exact step (seen + 1) r dd (by omega) (by omega) hd
      · rw [if_neg c4, if_neg c4]
        exact step (seen + 1) (q_al t g p (e + 3) 0, p - g) (nI (p - g)) (by omega) (by dsimp only; omega) (fun _ => rfl)
    · rw [if_neg c3, if_pos (q_al_not c3)]
      exact step seen r dd (by omega) (by omega) hd
theorem sf_isLike (hT : n ≤ TN) (hn : n ≤ 80000) (h : q_by n v tv t) {f : Nat} (hf : f < p) (hp : p + 2 < n) : pX11_isLike TN tv (nI f) (nI p) = some (if q_like t p f then 1 else 0) := by
  have hx : ∀ a b, a < n → b < n → (tv a = tv b ↔ t a = t b) := by
    intro a b ha hb
    obtain ⟨a1, _, a3⟩ := h a ha
    obtain ⟨b1, _, b3⟩ := h b hb
    rw [a3, b3]
    exact nI_eq (by omega) (by omega)
  unfold pX11_isLike
  rw [nI_1, nI_1, show (2 : Int32) = nI 2 from rfl, nI_add, nI_add, qf_out (by omega), if_neg (by omega), qf_out (by omega), if_neg (by omega), nI_clamp (by omega), nI_clamp (by omega)]
  by_cases c1 : t f = t p
  · rw [if_pos ((hx f p (by omega) (by omega)).mpr c1), qf_out (by omega), if_neg (by omega), qf_out (by omega), if_neg (by omega), nI_clamp (by omega), nI_clamp (by omega)]
    by_cases c2 : t (f + 1) = t (p + 1)
    · rw [if_pos ((hx (f + 1) (p + 1) (by omega) (by omega)).mpr c2), qf_out (by omega), if_neg (by omega), qf_out (by omega), if_neg (by omega), nI_clamp (by omega), nI_clamp (by omega)]
      by_cases c3 : t (f + 2) = t (p + 2)
      · rw [if_pos ((hx (f + 2) (p + 2) (by omega) (by omega)).mpr c3), if_pos ⟨c1, c2, c3⟩]
      · rw [if_neg (fun w => c3 ((hx (f + 2) (p + 2) (by omega) (by omega)).mp w)), if_neg (fun w => c3 w.2.2)]
    · rw [if_neg (fun w => c2 ((hx (f + 1) (p + 1) (by omega) (by omega)).mp w)), if_neg (fun w => c2 w.2.1)]
  · rw [if_neg (fun w => c1 ((hx f p (by omega) (by omega)).mp w)), if_neg (fun w => c1 w.1)]
/-- the reference's place of the best one -/
def q_best (p : Nat) (r : Nat × Nat) : Int32 := if r.1 = 0 then -1 else nI (p - r.2)
set_option maxRecDepth 100000 in
theorem sf_longL (hT : n ≤ TN) (hTN : TN ≤ 80000) (h : q_by n v tv t) (hm3 : 3 ≤ most) (hmost : most = min 258 (n - p)) (hp : p + most ≤ n) (hc64 : ch ≤ 64) (hs : ∀ j, q_like t p j → s j = s p) (hev : q_chM s p ev) (hEn : p < En) (hEn2 : En ≤ 80000) :
    ∀ (d m f seen : Nat) (r : Nat × Nat), f ≤ d → d < m → f ≤ p → (0 < f → s (f - 1) = s p) → seen ≤ ch → r.1 ≤ most →
    pX11_longest_b35 TN En (nI ch) (nI n) tv ev (nI p) m (nI r.1) (q_best p r) (nI seen) (nI f - 1) = some (q_best p (q_scan t p most ch f seen r), nI (q_scan t p most ch f seen r).1) := by
  intro d
  induction d with
  | zero =>
    intro m f seen r hf hm hfp hsf hsn hr
    obtain ⟨m, rfl⟩ : ∃ z, m = z + 1 := ⟨m - 1, by omega⟩
    have hf0 : f = 0 := by omega
    subst hf0
    rw [pX11_longest_b35]
    dsimp only
    rw [if_pos (show nI 0 - 1 < 0 by decide)]
    rfl
  | succ d ih =>
    intro m f seen r hf hm hfp hsf hsn hr
    obtain ⟨m, rfl⟩ : ∃ z, m = z + 1 := ⟨m - 1, by omega⟩
    rw [pX11_longest_b35]
    dsimp only
    rcases Nat.eq_zero_or_pos f with hf0 | hf0
    · subst hf0
      rw [if_pos (show nI 0 - 1 < 0 by decide)]
      rfl
    obtain ⟨g, rfl⟩ : ∃ g, f = g + 1 := ⟨f - 1, by omega⟩
    rw [nI_pred, if_neg (nI_pos (by omega)), show (32768 : Int32) = nI 32768 from rfl, pk_sub (by omega), qf_lt (by omega) (by omega)]
    by_cases c2 : 32768 < p - g
    · rw [if_pos c2, q_scan_far _ _ _ _ _ _ _ (by omega)]
    rw [if_neg c2, qf_le (by omega) (by omega)]
    by_cases c5 : ch ≤ seen
    · rw [if_pos c5, q_scan_full _ _ _ _ _ _ c5]
    rw [if_neg c5, q_scan, if_neg c2, if_neg c5]
    have step : ∀ (seen' : Nat) (r' : Nat × Nat), seen' ≤ ch → r'.1 ≤ most →
        pX11_longest_b97 En ev (pX11_longest_b35 TN En (nI ch) (nI n) tv ev (nI p) m) (nI r'.1) (q_best p r') (nI seen') (nI g) = some (q_best p (q_scan t p most ch g seen' r'), nI (q_scan t p most ch g seen' r').1) := by
      intro seen' r' h1 h2
      unfold pX11_longest_b97
      rw [qf_out (by omega), if_neg (by omega), nI_clamp (by omega)]
      obtain ⟨r1, y1, y2, y3, y4⟩ := hev g (by omega)
      have hg : s g = s p := hsf (by omega)
      rw [y1, q_scan_skip t p most ch r1 g seen' r' y2 (fun j j1 j2 w => y3 j j1 j2 ((hs j w).trans hg.symm))]
      exact ih m r1 seen' r' (by omega) (by omega) (by omega) (fun z => (y4 z).trans hg) h1 h2
    rw [sf_isLike hT (by omega) h (by omega) (by omega), Option.bind_some]
    by_cases c3 : q_like t p g
    · rw [if_pos c3, if_pos c3, if_neg (by decide)]
      have hmo : pX11_matchOf TN (nI n) tv (nI g) (nI p) = some (nI (q_al t g p most 0)) := by
        unfold pX11_matchOf pX11_min
        rw [pk_sub (by omega), show (258 : Int32) = nI 258 from rfl, qf_le (by omega) (by omega)]
        have e1 : (if n - p ≤ 258 then some (nI (n - p)) else some (nI 258)) = some (nI most) := by
          by_cases w : n - p ≤ 258
          · rw [if_pos w, hmost]; congr 2; omega
          · rw [if_neg w, hmost]; congr 2; omega
        rw [e1, Option.bind_some, show (3 : Int32) = nI 3 from rfl]
        obtain ⟨e, he⟩ : ∃ e, most = e + 3 := ⟨most - 3, by omega⟩
        rw [show q_al t g p most 0 = q_al t g p e 3 from by rw [he, q_al_like c3]]
        exact sf_matchOf hTN hT h (by omega) hp e fb_F 3 (by omega) (by unfold fb_F; omega)
      have hle := (q_al_ge t g p most 0).2
      rw [hmo, Option.bind_some, qf_le (by omega) (by omega), nI_1]
      by_cases c4 : q_al t g p most 0 ≤ r.1
      · rw [if_pos c4, if_pos c4]
        exact step (seen + 1) r (by omega) hr
      · rw [if_neg c4, if_neg c4]
        have e2 : nI g = q_best p (q_al t g p most 0, p - g) := by
          unfold q_best
          rw [if_neg (by dsimp only; omega)]
          congr 1
          dsimp only
          omega
        have := step (seen + 1) (q_al t g p most 0, p - g) (by omega) (by dsimp only; omega)
        rw [← e2] at this
        exact this
    · rw [if_neg c3, if_neg c3, if_pos rfl]
      exact step seen r hsn hr
end QN
