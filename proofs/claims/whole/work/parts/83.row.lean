/-! ### the telling row -/
section RJ
theorem q_min6 {e c : Nat} (he : e < 2 ^ 31) (hc : c < 2 ^ 31) : (if nI c < nI e then nI c else nI e) = nI (min c e) := by
  rw [qf_lt hc he]
  by_cases w : c < e
  · rw [if_pos w, show min c e = c by omega]
  · rw [if_neg w, show min c e = e by omega]
theorem sf_min {a b : Nat} (ha : a < 2 ^ 31) (hb : b < 2 ^ 31) : pX11_min (nI a) (nI b) = some (nI (min b a)) := by
  unfold pX11_min
  rw [qf_le hb ha]
  by_cases w : b ≤ a
  · rw [if_pos w, show min b a = b by omega]
  · rw [if_neg w, show min b a = a by omega]
theorem sf_lenL {Cn Tn a x2 : Nat} (ha : 0 < a) (ha2 : a ≤ 15) (hx : x2 ≤ 80000) (hC : Cn ≤ 80000) (hT : Tn ≤ 80000) (K : Int32 → (Nat → Int32) → (Nat → Int32) → Int32 → Option (Int32 × (Nat → Int32) × (Nat → Int32))) :
    ∀ (e m m' k q : Nat) (cl ct ts tn : Nat → Int32) (cs cn : Nat → Nat), e < m → e < m' → k + e ≤ Cn → k + e ≤ Tn → e ≤ x2 → q_ce k cl ct ts tn cs cn →
    ∃ (e' k' : Nat) (cl' ct' ts' tn' : Nat → Int32) (cs' cn' : Nat → Nat), e' ≤ e ∧ k' ≤ k + (e - e') ∧ q_ce k' cl' ct' ts' tn' cs' cn' ∧
      pX7_addLengths_b10 Cn 19 (nI x2) m (nI k) cl ct (nI e) = some (nI (x2 - e'), nI k', cl', ct') ∧
      pX11_tellRow_b142 Tn Tn K m' (nI k) ts tn (nI q) (nI e) (nI a) = K (nI k') ts' tn' (nI (q + (e - e'))) := by
  intro e
  induction e using Nat.strongRecOn with
  | ind e ih =>
  intro m m' k q cl ct ts tn cs cn hm hm' hk hk' he h
  obtain ⟨m, rfl⟩ : ∃ z, m = z + 1 := ⟨m - 1, by omega⟩
  obtain ⟨m', rfl⟩ : ∃ z, m' = z + 1 := ⟨m' - 1, by omega⟩
  rw [pX7_addLengths_b10, pX11_tellRow_b142]
  dsimp only
  rw [if_neg (nI_nle (by omega) (by omega)), show (3 : Int32) = nI 3 from rfl, qf_lt (by omega) (by omega), qf_lt (by omega) (by omega)]
  by_cases w : e < 3
  · rw [if_pos w, if_pos w, pk_sub (by omega)]
    exact ⟨e, k, cl, ct, ts, tn, cs, cn, Nat.le_refl e, by omega, h, rfl, by rw [Nat.sub_self, Nat.add_zero]⟩
  · rw [if_neg w, if_neg w, show (6 : Int32) = nI 6 from rfl, q_min6 (by omega) (by omega), sf_min (by omega) (by omega), Option.bind_some, pk_sub (by omega), show (16 : Int32) = nI 16 from rfl]
    obtain ⟨cl1, ct1, ts1, tn1, e1, e2, h1⟩ := sf_cell (k := k) (a := 16) (b := min 6 e - 3) (Cn := Cn) (Tn := Tn) (by omega) (by omega) (by omega) (by omega) (by omega) h
    rw [e1, Option.bind_some, e2, Option.bind_some]
    dsimp only
    rw [nI_add, pk_sub (by omega)]
    obtain ⟨e', k', cl', ct', ts', tn', cs', cn', a1, a2, a3, a4, a5⟩ := ih (e - min 6 e) (by omega) m m' (k + 1) (q + min 6 e) cl1 ct1 ts1 tn1 _ _ (by omega) (by omega) (by omega) (by omega) (by omega) h1
    refine ⟨e', k', cl', ct', ts', tn', cs', cn', by omega, by omega, a3, a4, ?_⟩
    rw [a5, show q + min 6 e + (e - min 6 e - e') = q + (e - e') by omega]
theorem sf_rowL {Rc Rm Cn Tn n : Nat} {rc rm : Nat → Int32} {w : Nat → Nat} (hRc : n ≤ Rc) (hRc2 : Rc ≤ 80000) (hRm : n ≤ Rm) (hRm2 : Rm ≤ 80000) (hCn : n ≤ Cn) (hC2 : Cn ≤ 80000) (hTn : n ≤ Tn) (hT2 : Tn ≤ 80000) (hc : ∀ k, k < n → rc k = nI (w k) ∧ w k ≤ 15) (hm : ∀ k, k < n → rm k = nI (w k) ∧ w k ≤ 15) :
    ∀ (d m m' p j k : Nat) (cl ct ts tn : Nat → Int32) (cs cn : Nat → Nat), n = p + d → d < m → d < m' → j ≤ p → k ≤ p → q_ce k cl ct ts tn cs cn →
    ∃ (k' : Nat) (cl' ct' ts' tn' : Nat → Int32) (cs' cn' : Nat → Nat), k' ≤ n ∧ q_ce k' cl' ct' ts' tn' cs' cn' ∧
      pX7_gatherCells_b17 19 Rc Cn (nI n) rc m (nI k) ct cl (nI p) (nI j) = some (nI k', ct', cl') ∧
      pX11_tellRow_b7 Rm Tn Tn rm (nI n) m' (nI k) ts tn (nI p) = some (nI k', ts', tn') := by
  intro d
  induction d using Nat.strongRecOn with
  | ind d ih =>
  intro m m' p j k cl ct ts tn cs cn hd hm1 hm2 hj hk h
  obtain ⟨m, rfl⟩ : ∃ z, m = z + 1 := ⟨m - 1, by omega⟩
  obtain ⟨m', rfl⟩ : ∃ z, m' = z + 1 := ⟨m' - 1, by omega⟩
  rw [pX7_gatherCells_b17, pX11_tellRow_b7]
  dsimp only
  rw [qf_le (by omega) (by omega), qf_le (by omega) (by omega), qf_le (by omega) (by omega)]
  by_cases hp : n ≤ p
  · rw [if_pos hp, if_pos hp]
    refine ⟨k, cl, ct, ts, tn, cs, cn, by omega, h, ?_, rfl⟩
    split <;> rfl
  · rw [if_neg hp, if_neg hp, if_neg (by omega)]
    have hr := q_rn_b w p (n - p - 1) 1
    unfold pX7_runFrom
    rw [nI_1, sf_runC hRc hRc2 hc (n - p - 1) fb_F 1 (by omega) (Nat.le_refl 1) (by unfold fb_F; omega), Option.bind_some, show (1 : Int32) = nI 1 from rfl,
      sf_runM hRm hRm2 hm _ (n - p - 1) fb_F 1 (by omega) (Nat.le_refl 1) (by unfold fb_F; omega), qf_out (by omega), if_neg (by omega), nI_clamp (by omega)]
    generalize q_rn w p (n - p - 1) 1 = e at hr ⊢
    obtain ⟨hc1, hc2⟩ := hc p (by omega)
    obtain ⟨hm1', _⟩ := hm p (by omega)
    rw [hc1]
    unfold pX11_tellRow_b44
    rw [qf_out (by omega), if_neg (show ¬ Rm ≤ p by omega), nI_clamp (show p < 2 ^ 31 by omega), hm1']
    by_cases hz : w p = 0
    · rw [hz, if_pos (show nI 0 = (0 : Int32) from rfl), if_pos (show nI 0 = (0 : Int32) from rfl)]
      unfold pX7_addZeros pX11_tellRow_b87
      rw [show (11 : Int32) = nI 11 from rfl, qf_lt (by omega) (by omega), qf_lt (by omega) (by omega), qf_out (by omega), if_neg (show ¬ Rm ≤ p by omega), nI_clamp (show p < 2 ^ 31 by omega), hm1', hz, if_pos (show nI 0 = (0 : Int32) from rfl), show (3 : Int32) = nI 3 from rfl, qf_lt (by omega) (by omega), qf_lt (by omega) (by omega)]
      by_cases w1 : e < 11
      · rw [if_pos w1, if_pos w1]
        by_cases w2 : e < 3
        · rw [if_pos w2, if_pos w2]
          obtain ⟨cl1, ct1, ts1, tn1, e1, e2, h1⟩ := sf_cell (k := k) (a := 0) (b := 0) (Cn := Cn) (Tn := Tn) (by omega) (by omega) (by omega) (by omega) (by omega) h
          unfold pX11_tellRow_b117
          rw [show (0 : Int32) = nI 0 from rfl, e1, Option.bind_some, Option.bind_some]
          dsimp only
          rw [← qi_0, qf_out (by omega), if_neg (by omega), nI_clamp (by omega), hm1', hz, qi_0, e2, Option.bind_some]
          dsimp only
          rw [← qi_0, if_neg (show ¬ (nI p < 0 ∨ Rm ≤ p) from fun z => by rcases z with z | z; exact nI_pos (show p < 2 ^ 31 by omega) z; omega), show fb_F = 4294967295 + 1 from rfl, pX11_tellRow_b142]
          dsimp only
          rw [if_pos (show (0 : Int32) ≤ 0 by decide), ← qi_1, nI_1, nI_1]
          exact ih (d - 1) (by omega) m m' (p + 1) (j + 1) (k + 1) cl1 ct1 ts1 tn1 _ _ (by omega) (by omega) (by omega) (by omega) (by omega) h1
        · rw [if_neg w2, if_neg w2, pk_sub (by omega)]
          obtain ⟨cl1, ct1, ts1, tn1, e1, e2, h1⟩ := sf_cell (k := k) (a := 17) (b := e - 3) (Cn := Cn) (Tn := Tn) (by omega) (by omega) (by omega) (by omega) (by omega) h
          rw [show (17 : Int32) = nI 17 from rfl, e1, e2, Option.bind_some, Option.bind_some, Option.bind_some]
          dsimp only
          rw [nI_add, ← qi_1, nI_1]
          exact ih (d - e) (by omega) m m' (p + e) (j + 1) (k + 1) cl1 ct1 ts1 tn1 _ _ (by omega) (by omega) (by omega) (by omega) (by omega) h1
      · rw [if_neg w1, if_neg w1, show (138 : Int32) = nI 138 from rfl, q_min6 (by omega) (by omega), sf_min (by omega) (by omega), Option.bind_some, pk_sub (by omega)]
        obtain ⟨cl1, ct1, ts1, tn1, e1, e2, h1⟩ := sf_cell (k := k) (a := 18) (b := min 138 e - 11) (Cn := Cn) (Tn := Tn) (by omega) (by omega) (by omega) (by omega) (by omega) h
        rw [show (18 : Int32) = nI 18 from rfl, e1, e2, Option.bind_some, Option.bind_some, Option.bind_some]
        dsimp only
        rw [nI_add, ← qi_1, nI_1]
        exact ih (d - min 138 e) (by omega) m m' (p + min 138 e) (j + 1) (k + 1) cl1 ct1 ts1 tn1 _ _ (by omega) (by omega) (by omega) (by omega) (by omega) h1
    · rw [if_neg (nI_ne0 (by omega) (by omega)), if_neg (nI_ne0 (by omega) (by omega))]
      unfold pX7_addLengths pX11_tellRow_b87
      rw [if_neg (show ¬ (nI p < 0 ∨ Rc ≤ p) from fun z => by rcases z with z | z; exact nI_pos (show p < 2 ^ 31 by omega) z; omega), qf_out (by omega), if_neg (show ¬ Rm ≤ p by omega), nI_clamp (show p < 2 ^ 31 by omega), hm1', if_neg (nI_ne0 (by omega) (by omega))]
      obtain ⟨cl1, ct1, ts1, tn1, e1, e2, h1⟩ := sf_cell (k := k) (a := w p) (b := 0) (Cn := Cn) (Tn := Tn) (by omega) (by omega) (by omega) (by omega) (by omega) h
      unfold pX11_tellRow_b117
      rw [show (0 : Int32) = nI 0 from rfl, e1, Option.bind_some]
      dsimp only
      rw [← qi_0, qf_out (by omega), if_neg (by omega), nI_clamp (by omega), hm1', qi_0, e2, Option.bind_some]
      dsimp only
      obtain ⟨e', k', cl', ct', ts', tn', cs', cn', a1, a2, a3, a4, a5⟩ := sf_lenL (Cn := Cn) (Tn := Tn) (a := w p) (x2 := e) (by omega) hc2 (by omega) hC2 hT2 (pX11_tellRow_b7 Rm Tn Tn rm (nI n) m') (e - 1) fb_F fb_F (k + 1) (p + 1) cl1 ct1 ts1 tn1 _ _ (by unfold fb_F; omega) (by unfold fb_F; omega) (by omega) (by omega) (by omega) h1
      rw [← qi_0, if_neg (show ¬ (nI p < 0 ∨ Rm ≤ p) from fun z => by rcases z with z | z; exact nI_pos (show p < 2 ^ 31 by omega) z; omega), ← qi_1, nI_1, nI_1, show nI e + (-1) = nI (e - 1) by (obtain ⟨z, rfl⟩ : ∃ z, e = z + 1 := ⟨e - 1, by omega⟩; exact pk_m1 z), show nI e - (1 : Int32) = nI (e - 1) by (obtain ⟨z, rfl⟩ : ∃ z, e = z + 1 := ⟨e - 1, by omega⟩; exact nI_pred z), a4, a5, Option.bind_some]
      dsimp only
      rw [nI_add]
      obtain ⟨k2, cl2, ct2, ts2, tn2, cs2, cn2, b1, b2, b3, b4⟩ := ih (d - (e - e')) (by omega) m m' (p + (e - e')) (j + 1) k' cl' ct' ts' tn' cs' cn' (by omega) (by omega) (by omega) (by omega) (by omega) a3
      refine ⟨k2, cl2, ct2, ts2, tn2, cs2, cn2, b1, b2, b3, ?_⟩
      rw [show p + 1 + (e - 1 - e') = p + (e - e') by omega]
      exact b4
end RJ
