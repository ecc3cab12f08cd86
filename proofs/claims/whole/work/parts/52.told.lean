/-! ### codes that are told: the reference's end of it -/
section QT
variable {A B C D E Z : Nat} {mv LL LC RW SL DL : Nat → Int32} {fs fd fl : Nat → Nat} {p g : Int32}
/-- whether lengths may be used for distances, for symbols -/
def q_gd (fd : Nat → Nat) : Prop := q_U fd 30 15 = 32768 ∨ q_one fd 30 ∨ q_mx fd 30 = 0
def q_gs (fs : Nat → Nat) : Prop := fs 256 ≠ 0 ∧ (q_U fs 288 15 = 32768 ∨ q_one fs 288)
def q_fin (g g' : Int32) (P : Prop) : Prop := (¬ g = 0 → g' = g) ∧ (g = 0 → (P → g' = 0) ∧ (¬ P → g' = 4))
theorem sf_t521 (t : Int32) (P : Prop) (ht : t = 0 ↔ ¬ P) : ∃ g', pX11_toldCodes_b521 p g LL LC RW SL DL t = some (p, g', LL, LC, RW, SL, DL) ∧ q_fin g g' P := by
  unfold pX11_toldCodes_b521 pX11_toldCodes_b534
  by_cases c : t = 0
  · rw [if_pos c]
    by_cases c2 : g = 0
    · subst c2
      rw [sf_can1, Option.bind_some]
      exact ⟨4, rfl, fun z => absurd rfl z, fun _ => ⟨fun z => absurd z (ht.mp c), fun _ => rfl⟩⟩
    · rw [sf_canF c2, Option.bind_some]
      exact ⟨g, rfl, fun _ => rfl, fun z => absurd z c2⟩
  · rw [if_neg c, sf_can0, Option.bind_some]
    refine ⟨g, rfl, fun _ => rfl, fun z => ⟨fun _ => z, fun q => absurd (ht.mpr q) c⟩⟩
theorem sf_t470 (hB : 30 ≤ B) (hd : ∀ j, j < 30 → DL j = nI (fd j) ∧ fd j ≤ 15) (t : Int32) (P : Prop) (ht : t = 0 ↔ ¬ P) : ∃ g', pX11_toldCodes_b470 B p g LL LC RW SL DL t = some (p, g', LL, LC, RW, SL, DL) ∧ q_fin g g' (P ∧ q_gd fd) := by
  unfold pX11_toldCodes_b470
  by_cases c : t = 0
  · rw [if_pos c]
    exact sf_t521 0 _ ⟨fun _ z => ht.mp c z.1, fun _ => rfl⟩
  have hP : P := Classical.byContradiction (fun z => c (ht.mpr z))
  rw [if_neg c, show (30 : Int32) = nI 30 from rfl, sf_isC (by omega) hB hd, Option.bind_some]
  by_cases c1 : q_U fd 30 15 = 32768
  · rw [if_pos c1, if_neg (by decide)]
    exact sf_t521 1 _ ⟨fun z => absurd z (by decide), fun z => absurd ⟨hP, Or.inl c1⟩ z⟩
  rw [if_neg c1, if_pos rfl]
  obtain ⟨r, r1, r2, r3⟩ := sf_isOne (n := 30) (A := B) (ov := DL) (f := fd) (by omega) (by omega) hB hd
  rw [r1, Option.bind_some]
  by_cases c2 : r = 0
  · have hcl := q_cnt_le fd 0 30
    rw [if_pos c2, show (0 : Int32) = nI 0 from rfl, sf_many (by omega) hB hd (by omega), Option.bind_some, qf_eq (by omega) (by omega)]
    by_cases c3 : q_cnt fd 0 30 = 30
    · rw [if_pos c3]
      exact sf_t521 1 _ ⟨fun z => absurd z (by decide), fun z => absurd ⟨hP, Or.inr (Or.inr ((q_mx0 fd 30).mpr c3))⟩ z⟩
    · rw [if_neg c3]
      refine sf_t521 (nI 0) _ ⟨fun _ z => ?_, fun _ => rfl⟩
      rcases z.2 with z1 | z1 | z1
      · exact c1 z1
      · exact r3.mp c2 z1
      · exact c3 ((q_mx0 fd 30).mp z1)
  · rw [if_neg c2]
    exact sf_t521 1 _ ⟨fun z => absurd z (by decide), fun z => absurd ⟨hP, Or.inr (Or.inl (Classical.byContradiction (fun q => c2 (r3.mpr q))))⟩ z⟩
theorem sf_t350e {m : Nat} {x1 x2 : Int32} (hA : 288 ≤ A) (hB : 30 ≤ B) (hs : ∀ j, j < 288 → SL j = nI (fs j) ∧ fs j ≤ 15) (hd : ∀ j, j < 30 → DL j = nI (fd j) ∧ fd j ≤ 15) :
    ∃ g', pX11_toldCodes_b350 E A B (m + 1) p g LL LC RW SL DL x1 x2 (nI 288) = some (p, g', LL, LC, RW, SL, DL) ∧ q_fin g g' (q_gs fs ∧ q_gd fd) := by
  have h256 := hs 256 (by omega)
  rw [pX11_toldCodes_b350]
  dsimp only
  rw [if_pos (by decide), show (256 : Int32) = nI 256 from rfl, qf_out (by omega), if_neg (by omega), nI_clamp (by omega), h256.1]
  by_cases c : fs 256 = 0
  · rw [c, if_pos (by decide)]
    exact sf_t470 hB hd 0 _ ⟨fun _ z => z.1 c, fun _ => rfl⟩
  rw [if_neg (nI_nle (by omega) (by omega)), show (288 : Int32) = nI 288 from rfl, sf_isC (by omega) hA hs, Option.bind_some]
  by_cases c1 : q_U fs 288 15 = 32768
  · rw [if_pos c1, if_neg (by decide)]
    exact sf_t470 hB hd 1 _ ⟨fun z => absurd z (by decide), fun z => absurd ⟨c, Or.inl c1⟩ z⟩
  rw [if_neg c1, if_pos rfl]
  obtain ⟨r, r1, r2, r3⟩ := sf_isOne (n := 288) (A := A) (ov := SL) (f := fs) (by omega) (by omega) hA hs
  rw [r1, Option.bind_some]
  by_cases c2 : r = 0
  · rw [if_pos c2]
    refine sf_t470 hB hd 0 _ ⟨fun _ z => ?_, fun _ => rfl⟩
    rcases z.2 with z1 | z1
    · exact c1 z1
    · exact r3.mp c2 z1
  · rw [if_neg c2]
    exact sf_t470 hB hd 1 _ ⟨fun z => absurd z (by decide), fun z => absurd ⟨c, Or.inr (Classical.byContradiction (fun q => c2 (r3.mpr q)))⟩ z⟩
/-- the row becomes the lengths of both (or none, after a fault) -/
def q_ls (S : Nat) (r : Nat → Nat) (j : Nat) : Nat := if j < S then r j else 0
theorem sf_t350L {S T : Nat} {r : Nat → Nat} (hA : 288 ≤ A) (hB : 288 ≤ B) (hE : S + T ≤ E) (hE2 : E ≤ 80000) (hr : ∀ j, j < S + T → RW j = nI (r j) ∧ r j ≤ 15) : ∀ (d m i : Nat) (SL DL : Nat → Int32), 288 = i + d → d < m →
    (∀ j, j < i → SL j = nI (q_ls S r j) ∧ DL j = nI (q_ls T (fun z => r (S + z)) j)) →
    ∃ g' SL' DL', pX11_toldCodes_b350 E A B m p 0 LL LC RW SL DL (nI S) (nI T) (nI i) = some (p, g', LL, LC, RW, SL', DL') ∧ (∀ j, j < 288 → SL' j = nI (q_ls S r j) ∧ DL' j = nI (q_ls T (fun z => r (S + z)) j)) ∧ q_fin 0 g' (q_gs (q_ls S r) ∧ q_gd (q_ls T (fun z => r (S + z)))) := by
  have hl1 : ∀ j, q_ls S r j ≤ 15 := by
    intro j
    unfold q_ls
    by_cases c : j < S
    · rw [if_pos c]; exact (hr j (by omega)).2
    · rw [if_neg c]; omega
  have hl2 : ∀ j, q_ls T (fun z => r (S + z)) j ≤ 15 := by
    intro j
    unfold q_ls
    by_cases c : j < T
    · rw [if_pos c]; exact (hr (S + j) (by omega)).2
    · rw [if_neg c]; omega
  intro d
  induction d with
  | zero =>
    intro m i SL DL hi hm h
    obtain ⟨m, rfl⟩ : ∃ z, m = z + 1 := ⟨m - 1, by omega⟩
    have e : i = 288 := by omega
    subst e
    obtain ⟨g', e1, e2⟩ := sf_t350e (E := E) (m := m) (p := p) (g := 0) (LL := LL) (LC := LC) (RW := RW) (x1 := nI S) (x2 := nI T) hA (by omega : 30 ≤ B) (fun j hj => ⟨(h j hj).1, hl1 j⟩) (fun j hj => ⟨(h j (by omega)).2, hl2 j⟩)
    exact ⟨g', SL, DL, e1, h, e2⟩
  | succ d ih =>
    intro m i SL DL hi hm h
    obtain ⟨m, rfl⟩ : ∃ z, m = z + 1 := ⟨m - 1, by omega⟩
    have key2 : ∀ (s y : Int32), s = nI (q_ls S r i) → y = nI (q_ls T (fun z => r (S + z)) i) → ∃ g' SL' DL', pX11_toldCodes_b421 B (pX11_toldCodes_b350 E A B m) p 0 LL LC RW (upd SL i s) DL (nI S) (nI T) (nI i) y (nI i) = some (p, g', LL, LC, RW, SL', DL') ∧ (∀ j, j < 288 → SL' j = nI (q_ls S r j) ∧ DL' j = nI (q_ls T (fun z => r (S + z)) j)) ∧ q_fin 0 g' (q_gs (q_ls S r) ∧ q_gd (q_ls T (fun z => r (S + z)))) := by
      intro s y hs hy
      unfold pX11_toldCodes_b421
      rw [qf_out (by omega), if_neg (by omega), nI_clamp (by omega), nI_1]
      refine ih m (i + 1) _ _ (by omega) (by omega) (fun j hj => ?_)
      by_cases e : j = i
      · subst e
        exact ⟨by rw [pk_us]; exact hs, by rw [pk_us]; exact hy⟩
      · rw [pk_un e, pk_un e]
        exact h j (by omega)
    have key : ∀ s : Int32, s = nI (q_ls S r i) → ∃ g' SL' DL', pX11_toldCodes_b388 E A B (pX11_toldCodes_b350 E A B m) p 0 LL LC RW SL DL (nI S) (nI T) (nI i) s (nI i) = some (p, g', LL, LC, RW, SL', DL') ∧ (∀ j, j < 288 → SL' j = nI (q_ls S r j) ∧ DL' j = nI (q_ls T (fun z => r (S + z)) j)) ∧ q_fin 0 g' (q_gs (q_ls S r) ∧ q_gd (q_ls T (fun z => r (S + z)))) := by
      intro s hs
      unfold pX11_toldCodes_b388
      rw [qf_out (by omega), if_neg (by omega), if_pos rfl, qf_le (by omega) (by omega), nI_add, nI_clamp (by omega)]
      by_cases c : T ≤ i
      · rw [if_pos c]
        exact key2 s 0 hs (by unfold q_ls; rw [if_neg (by omega), nI_0])
      · rw [if_neg c, qf_out (by omega), if_neg (by omega), nI_clamp (by omega)]
        exact key2 s _ hs (by unfold q_ls; rw [if_pos (by omega)]; exact (hr (S + i) (by omega)).1)
    rw [pX11_toldCodes_b350]
    dsimp only
    rw [show (288 : Int32) = nI 288 from rfl, qf_le (by omega) (by omega), if_neg (by omega), if_pos (show (0 : Int32) = 0 from rfl), qf_le (by omega) (by omega)]
    by_cases c : S ≤ i
    · rw [if_pos c]
      exact key 0 (by unfold q_ls; rw [if_neg (by omega), nI_0])
    · rw [if_neg c, qf_out (by omega), if_neg (by omega), nI_clamp (by omega)]
      exact key _ (by unfold q_ls; rw [if_pos (by omega)]; exact (hr i (by omega)).1)
theorem sf_t350F (hg : ¬ g = 0) {x1 x2 : Int32} (hA : 288 ≤ A) (hB : 288 ≤ B) : ∀ (d m i : Nat) (SL DL : Nat → Int32), 288 = i + d → d < m → (∀ j, j < i → SL j = nI 0 ∧ DL j = nI 0) →
    ∃ SL' DL', pX11_toldCodes_b350 E A B m p g LL LC RW SL DL x1 x2 (nI i) = some (p, g, LL, LC, RW, SL', DL') ∧ ∀ j, j < 288 → SL' j = nI 0 ∧ DL' j = nI 0 := by
  intro d
  induction d with
  | zero =>
    intro m i SL DL hi hm h
    obtain ⟨m, rfl⟩ : ∃ z, m = z + 1 := ⟨m - 1, by omega⟩
    have e : i = 288 := by omega
    subst e
    obtain ⟨g', e1, e2, -⟩ := sf_t350e (E := E) (m := m) (p := p) (g := g) (LL := LL) (LC := LC) (RW := RW) (x1 := x1) (x2 := x2) (fs := fun _ => 0) (fd := fun _ => 0) hA (by omega : 30 ≤ B) (fun j hj => ⟨(h j hj).1, by omega⟩) (fun j hj => ⟨(h j (by omega)).2, by omega⟩)
    rw [e2 hg] at e1
    exact ⟨SL, DL, e1, h⟩
  | succ d ih =>
    intro m i SL DL hi hm h
    obtain ⟨m, rfl⟩ : ∃ z, m = z + 1 := ⟨m - 1, by omega⟩
    rw [pX11_toldCodes_b350]
    dsimp only
    rw [show (288 : Int32) = nI 288 from rfl, qf_le (by omega) (by omega), if_neg (by omega), if_neg hg]
    unfold pX11_toldCodes_b388 pX11_toldCodes_b421
    rw [qf_out (by omega), if_neg (by omega), if_neg hg, qf_out (by omega), if_neg (by omega), nI_clamp (by omega), nI_1]
    refine ih m (i + 1) _ _ (by omega) (by omega) (fun j hj => ?_)
    by_cases e : j = i
    · subst e
      exact ⟨by rw [pk_us]; exact nI_0.symm, by rw [pk_us]; exact nI_0.symm⟩
    · rw [pk_un e, pk_un e]
      exact h j (by omega)
/-- after a fault: nothing more, all lengths 0 -/
theorem sf_t154F (hg : ¬ g = 0) {m : Nat} {S x1 x2 x4 x5 : Int32} (hA : 288 ≤ A) (hB : 288 ≤ B) : ∃ SL' DL', pX11_toldCodes_b154 Z C D E A B S mv (m + 1) p g LL LC RW SL DL x1 x2 x4 x5 = some (p, g, LL, LC, RW, SL', DL') ∧ ∀ j, j < 288 → SL' j = nI 0 ∧ DL' j = nI 0 := by
  have hF : 288 < fb_F := by unfold fb_F; omega
  have key : ∃ SL' DL', pX11_toldCodes_b350 E A B fb_F p g LL LC RW SL DL x1 x2 0 = some (p, g, LL, LC, RW, SL', DL') ∧ ∀ j, j < 288 → SL' j = nI 0 ∧ DL' j = nI 0 := by
    generalize fb_F = F at hF ⊢
    have e := sf_t350F (E := E) (p := p) (LL := LL) (LC := LC) (RW := RW) hg (x1 := x1) (x2 := x2) hA hB 288 F 0 SL DL (by omega) hF (fun j hj => absurd hj (Nat.not_lt_zero j))
    rw [nI_0] at e
    exact e
  rw [pX11_toldCodes_b154]
  dsimp only
  by_cases c : x4 ≤ x5
  · rw [if_pos c]; exact key
  · rw [if_neg c, if_neg hg]; exact key
theorem sf_t110F (hg : ¬ g = 0) {S x1 x2 : Int32} (hA : 288 ≤ A) (hB : 288 ≤ B) (hC : 19 ≤ C) (hD : 19 ≤ D) (hl : ∀ j, j < 19 → LL j = nI (fl j) ∧ fl j ≤ 15) :
    ∃ LC' SL' DL', pX11_toldCodes_b110 Z C D E A B S mv p g LL LC RW SL DL x1 x2 = some (p, g, LL, LC', RW, SL', DL') ∧ ∀ j, j < 288 → SL' j = nI 0 ∧ DL' j = nI 0 := by
  have key : ∀ t : Int32, ∃ LC' SL' DL', pX11_toldCodes_b128 Z C D E A B S mv p g LL LC RW SL DL x1 x2 t = some (p, g, LL, LC', RW, SL', DL') ∧ ∀ j, j < 288 → SL' j = nI 0 ∧ DL' j = nI 0 := by
    intro t
    obtain ⟨LC', a1, -⟩ := sf_find (n := 19) (A := C) (B := D) (ov := LL) (to := LC) (f := fl) (by omega) hC hD hl
    unfold pX11_toldCodes_b128
    rw [sf_canF hg, Option.bind_some, show (19 : Int32) = nI 19 from rfl, a1, Option.bind_some, show fb_F = 4294967295 + 1 from rfl]
    obtain ⟨SL', DL', e1, e2⟩ := sf_t154F (Z := Z) (C := C) (D := D) (E := E) (mv := mv) (S := S) (LL := LL) (LC := LC') (RW := RW) (SL := SL) (DL := DL) (p := p) (m := 4294967295) (x1 := x1) (x2 := x2) (x4 := x1 + x2) (x5 := 0) hg hA hB
    exact ⟨LC', SL', DL', e1, e2⟩
  unfold pX11_toldCodes_b110
  rw [show (19 : Int32) = nI 19 from rfl, sf_isC (by omega) hC hl, Option.bind_some]
  by_cases c : (if q_U fl 19 15 = 32768 then (1 : Int32) else 0) = 0
  · rw [if_pos c]; exact key 1
  · rw [if_neg c]; exact key 0
end QT
