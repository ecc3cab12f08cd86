/-! ### the fixed codes -/
def q_fs (j : Nat) : Nat := if j < 144 then 8 else if j < 256 then 9 else if j < 280 then 7 else 8
def q_fd (j : Nat) : Nat := if j < 32 then 5 else 0
theorem sf_fill4L {n a b : Nat} {x : Int32} {v0 : Nat → Int32} (hn : n ≤ 80000) (hb : b ≤ n) : ∀ (d m i : Nat) (v : Nat → Int32), b = i + d → d < m → a ≤ i → (∀ j, v j = if a ≤ j ∧ j < i then x else v0 j) →
    ∃ v', pJ7_fill_fda19_b10 n (nI b) x m v (nI i) = some v' ∧ ∀ j, v' j = if a ≤ j ∧ j < b then x else v0 j := by
  intro d
  induction d with
  | zero =>
    intro m i v hi hm ha h
    obtain ⟨m, rfl⟩ : ∃ z, m = z + 1 := ⟨m - 1, by omega⟩
    have e : i = b := by omega
    subst e
    rw [pJ7_fill_fda19_b10]
    dsimp only
    rw [if_pos (nI_le (Nat.le_refl i) (by omega))]
    exact ⟨v, rfl, h⟩
  | succ d ih =>
    intro m i v hi hm ha h
    obtain ⟨m, rfl⟩ : ∃ z, m = z + 1 := ⟨m - 1, by omega⟩
    rw [pJ7_fill_fda19_b10]
    dsimp only
    rw [qf_le (by omega) (by omega), if_neg (by omega), qf_out (by omega), if_neg (by omega), nI_clamp (by omega), nI_1]
    refine ih m (i + 1) _ (by omega) (by omega) (by omega) (fun j => ?_)
    by_cases e : j = i
    · subst e
      rw [pk_us, if_pos (by omega)]
    · rw [pk_un e, h j]
      by_cases c : a ≤ j ∧ j < i
      · rw [if_pos c, if_pos (by omega)]
      · rw [if_neg c, if_neg (by omega)]
theorem sf_fill4 {n a b : Nat} (x : Int32) (v : Nat → Int32) (hn : n ≤ 80000) (ha : a ≤ b) (hb : b ≤ n) : ∃ v', pJ7_fill_fda19 n (nI a) (nI b) x v = some v' ∧ ∀ j, v' j = if a ≤ j ∧ j < b then x else v j := by
  unfold pJ7_fill_fda19 pJ7_rangeCheck_23922
  rw [qf_le (by omega) (by omega), if_pos ha, if_pos (nI_pos' (by omega)), qi_of, qf_le (by omega) (by omega), if_pos hb, Option.bind_some]
  exact sf_fill4L hn hb (b - a) fb_F a v (by omega) (by unfold fb_F; omega) (Nat.le_refl a) (fun j => by rw [if_neg (by omega)])
theorem sf_fillC {n a b : Nat} (x : Int32) (v : Nat → Int32) (hn : n ≤ 80000) (ha : a ≤ b) (hb : b ≤ n) : ∃ v', pX2_fill n (nI a) (nI b) x v = some v' ∧ ∀ j, v' j = if a ≤ j ∧ j < b then x else v j := by
  obtain ⟨v', e1, e2⟩ := sf_fill4 x v hn ha hb
  unfold pX2_fill
  rw [e1, Option.bind_some]
  exact ⟨v', rfl, e2⟩
theorem sf_fixC {slv sofv sfcv sfpv sgv scv sbcv dlv dofv dfcv dfpv dgv dcv dbcv : Nat → Int32} (h1 : sfcv 0 = 0) (h2 : sfpv 0 = 0) (h3 : dfcv 0 = 0) (h4 : dfpv 0 = 0) :
    ∃ Ls sl sof sfc sfp sg sc sbc Ld dl dof dfc dfp dg dc dbc, pX9_fixCodes 288 16 16 16 16 288 288 32 16 16 16 16 32 32 slv sofv sfcv sfpv sgv scv sbcv dlv dofv dfcv dfpv dgv dcv dbcv = some (Ls, sl, sof, sfc, sfp, sg, sc, sbc, Ld, dl, dof, dfc, dfp, dg, dc, dbc) ∧
      q_codes 288 q_fs Ls sof sfc sfp sc sbc ∧ q_codes 32 q_fd Ld dof dfc dfp dc dbc := by
  obtain ⟨v1, a1, b1⟩ := sf_fillC (n := 288) (a := 0) (b := 144) 8 slv (by omega) (by omega) (by omega)
  obtain ⟨v2, a2, b2⟩ := sf_fillC (n := 288) (a := 144) (b := 256) 9 v1 (by omega) (by omega) (by omega)
  obtain ⟨v3, a3, b3⟩ := sf_fillC (n := 288) (a := 256) (b := 280) 7 v2 (by omega) (by omega) (by omega)
  obtain ⟨v4, a4, b4⟩ := sf_fillC (n := 288) (a := 280) (b := 288) 8 v3 (by omega) (by omega) (by omega)
  obtain ⟨v5, a5, b5⟩ := sf_fillC (n := 32) (a := 0) (b := 32) 5 dlv (by omega) (by omega) (by omega)
  have hs : ∀ j, j < 288 → v4 j = nI (q_fs j) ∧ q_fs j ≤ 15 := by
    intro j hj
    unfold q_fs
    rw [b4 j, b3 j, b2 j, b1 j]
    by_cases c1 : j < 144
    · rw [if_neg (by omega), if_neg (by omega), if_neg (by omega), if_pos (by omega), if_pos c1]
      exact ⟨rfl, by omega⟩
    · by_cases c2 : j < 256
      · rw [if_neg (by omega), if_neg (by omega), if_pos (by omega), if_neg c1, if_pos c2]
        exact ⟨rfl, by omega⟩
      · by_cases c3 : j < 280
        · rw [if_neg (by omega), if_pos (by omega), if_neg c1, if_neg c2, if_pos c3]
          exact ⟨rfl, by omega⟩
        · rw [if_pos (by omega), if_neg c1, if_neg c2, if_neg c3]
          exact ⟨rfl, by omega⟩
  have hd : ∀ j, j < 32 → v5 j = nI (q_fd j) ∧ q_fd j ≤ 15 := by
    intro j hj
    unfold q_fd
    rw [b5 j, if_pos (by omega), if_pos hj]
    exact ⟨rfl, by omega⟩
  obtain ⟨Ls, sof, sfc, sfp, sg, sc, sbc, e1, e2⟩ := sf_assign (N := 288) (lv := v4) (of := sofv) (fcv := sfcv) (fpv := sfpv) (gv := sgv) (cv := scv) (bc := sbcv) (f := q_fs) (by omega) hs h1 h2
  obtain ⟨Ld, dof, dfc, dfp, dg, dc, dbc, e3, e4⟩ := sf_assign (N := 32) (lv := v5) (of := dofv) (fcv := dfcv) (fpv := dfpv) (gv := dgv) (cv := dcv) (bc := dbcv) (f := q_fd) (by omega) hd h3 h4
  unfold pX9_fixCodes
  rw [show (0 : Int32) = nI 0 from rfl, show (144 : Int32) = nI 144 from rfl, a1, Option.bind_some, show (256 : Int32) = nI 256 from rfl, a2, Option.bind_some, show (280 : Int32) = nI 280 from rfl, a3, Option.bind_some, show (288 : Int32) = nI 288 from rfl, a4, Option.bind_some, e1, Option.bind_some, show (32 : Int32) = nI 32 from rfl, a5, Option.bind_some, e3, Option.bind_some]
  exact ⟨Ls, v4, sof, sfc, sfp, sg, sc, sbc, Ld, v5, dof, dfc, dfp, dg, dc, dbc, rfl, e2, e4⟩
/-! the reference's -/
theorem sf_fixM {A B : Nat} (hA : 288 ≤ A) (hB : 288 ≤ B) : ∀ (d m i : Nat) (sv dv : Nat → Int32), 288 = i + d → d < m → (∀ j, j < i → sv j = nI (q_fs j) ∧ dv j = nI (q_fd j)) →
    ∃ sv' dv', pX11_fixedCodes_b2 A B m sv dv (nI i) = some (sv', dv') ∧ ∀ j, j < 288 → sv' j = nI (q_fs j) ∧ dv' j = nI (q_fd j) := by
  intro d
  induction d with
  | zero =>
    intro m i sv dv hi hm h
    obtain ⟨m, rfl⟩ : ∃ z, m = z + 1 := ⟨m - 1, by omega⟩
    have e : i = 288 := by omega
    subst e
    rw [pX11_fixedCodes_b2]
    dsimp only
    rw [if_pos (by decide)]
    exact ⟨sv, dv, rfl, h⟩
  | succ d ih =>
    intro m i sv dv hi hm h
    obtain ⟨m, rfl⟩ : ∃ z, m = z + 1 := ⟨m - 1, by omega⟩
    have key : ∀ x : Int32, x = nI (q_fs i) → ∃ sv' dv', pX11_fixedCodes_b52 A B (pX11_fixedCodes_b2 A B m) sv dv (nI i) x (nI i) = some (sv', dv') ∧ ∀ j, j < 288 → sv' j = nI (q_fs j) ∧ dv' j = nI (q_fd j) := by
      intro x hx
      have key2 : ∀ y : Int32, y = nI (q_fd i) → ∃ sv' dv', pX11_fixedCodes_b69 B (pX11_fixedCodes_b2 A B m) (upd sv i x) dv (nI i) y (nI i) = some (sv', dv') ∧ ∀ j, j < 288 → sv' j = nI (q_fs j) ∧ dv' j = nI (q_fd j) := by
        intro y hy
        unfold pX11_fixedCodes_b69
        rw [qf_out (by omega), if_neg (by omega), nI_clamp (by omega), nI_1]
        refine ih m (i + 1) _ _ (by omega) (by omega) (fun j hj => ?_)
        by_cases e : j = i
        · subst e
          exact ⟨by rw [pk_us]; exact hx, by rw [pk_us]; exact hy⟩
        · rw [pk_un e, pk_un e]
          exact h j (by omega)
      unfold pX11_fixedCodes_b52
      rw [qf_out (by omega), if_neg (by omega), show (32 : Int32) = nI 32 from rfl, qf_le (by omega) (by omega), nI_clamp (by omega)]
      by_cases c : 32 ≤ i
      · rw [if_pos c]
        exact key2 0 (by unfold q_fd; rw [if_neg (by omega), nI_0])
      · rw [if_neg c]
        exact key2 5 (by unfold q_fd; rw [if_pos (by omega)]; rfl)
    rw [pX11_fixedCodes_b2]
    dsimp only
    rw [show (288 : Int32) = nI 288 from rfl, qf_le (by omega) (by omega), if_neg (by omega), show (144 : Int32) = nI 144 from rfl, qf_le (by omega) (by omega), show (256 : Int32) = nI 256 from rfl, qf_le (by omega) (by omega), show (280 : Int32) = nI 280 from rfl, qf_le (by omega) (by omega)]
    by_cases c1 : 144 ≤ i
    · rw [if_pos c1]
      by_cases c2 : 256 ≤ i
      · rw [if_pos c2]
        by_cases c3 : 280 ≤ i
        · rw [if_pos c3]
          exact key 8 (by unfold q_fs; rw [if_neg (by omega), if_neg (by omega), if_neg (by omega)]; rfl)
        · rw [if_neg c3]
          exact key 7 (by unfold q_fs; rw [if_neg (by omega), if_neg (by omega), if_pos (by omega)]; rfl)
      · rw [if_neg c2]
        exact key 9 (by unfold q_fs; rw [if_neg (by omega), if_pos (by omega)]; rfl)
    · rw [if_neg c1]
      exact key 8 (by unfold q_fs; rw [if_pos (by omega)]; rfl)
theorem sf_fixed {A B : Nat} (hA : 288 ≤ A) (hB : 288 ≤ B) (sv dv : Nat → Int32) : ∃ sv' dv', pX11_fixedCodes A B sv dv = some (sv', dv') ∧ ∀ j, j < 288 → sv' j = nI (q_fs j) ∧ dv' j = nI (q_fd j) := by
  unfold pX11_fixedCodes
  have hF : 288 < fb_F := by unfold fb_F; omega
  generalize fb_F = F at hF ⊢
  have e := sf_fixM hA hB 288 F 0 sv dv (by omega) hF (fun j hj => absurd hj (Nat.not_lt_zero j))
  rw [nI_0] at e
  exact e
