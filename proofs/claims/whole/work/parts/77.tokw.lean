/-! ### writing all tokens -/
section RD
variable {R Pn : Nat}
theorem sf_lenOf {Tn i L D : Nat} {tok : Nat → Int32} (hi : i < Tn) (hi2 : i < 80000) (hL : L < 32768) (hD : D < 65536) (h : tok i = nI (L * 65536 + D)) : pX8_lengthOf Tn tok (nI i) = some (nI L) ∧ pX8_lowPartOf Tn tok (nI i) = some (nI D) := by
  unfold pX8_lengthOf pX8_lowPartOf
  rw [qf_out (by omega), if_neg (by omega), nI_clamp (by omega), h, qf_o2 (by omega) hi, pk_ushrN (by omega) _ 16 (by decide), pk_andN (by omega) 16 (by decide)]
  exact ⟨by congr 2; omega, by congr 2; omega⟩
def q_tb (L D fs fd : Nat → Nat) (j : Nat) : Nat := if L j = 0 then fs (D j) else fs (257 + q_lS (L j)) + q_lb (q_lS (L j)) + fd (q_dS (D j)) + q_db (q_dS (D j))
set_option maxRecDepth 100000 in
theorem sf_wtokL {T Tn Ln A1 A2 B1 B2 : Nat} {L D fs fd : Nat → Nat} {tok ls ds scv slv dcv dlv SC SL DC DL : Nat → Int32} (hR : R ≤ 80000) (hP : R ≤ Pn) (hB1 : 286 ≤ B1) (hA1 : 286 ≤ A1) (hB2 : 30 ≤ B2) (hA2 : 30 ≤ A2) (hT : T ≤ Tn) (hT2 : T ≤ Ln) (hT3 : T ≤ 80000)
    (htok : ∀ j, j < T → tok j = nI (L j * 65536 + D j) ∧ ls j = nI (L j) ∧ ds j = nI (D j) ∧ ((L j = 0 ∧ D j < 256) ∨ (3 ≤ L j ∧ L j ≤ 258 ∧ 1 ≤ D j ∧ D j ≤ 32768)))
    (hs : ∀ s, s < 286 → slv s = nI (fs s) ∧ SL s = nI (fs s) ∧ fs s ≤ 15) (hd : ∀ s, s < 30 → dlv s = nI (fd s) ∧ DL s = nI (fd s) ∧ fd s ≤ 15)
    (hcs : ∀ j, j < T → L j = 0 → scv (D j) = SC (D j)) (hcm : ∀ j, j < T → L j ≠ 0 → scv (257 + q_lS (L j)) = SC (257 + q_lS (L j)) ∧ dcv (q_dS (D j)) = DC (q_dS (D j))) {E : Nat} :
    ∀ (d m m' i n : Nat) (held filled sz place : Int32) (bv pv : Nat → Int32), T = i + d → d < m → d < m' → n + q_sum (q_tb L D fs fd) T + E ≤ 8 * R + q_sum (q_tb L D fs fd) i → q_bo n held filled sz bv place pv →
    ∃ (m1 m1' n' : Nat) (held' filled' sz' place' : Int32) (bv' pv' : Nat → Int32), pX5_writeTold_b31 R Tn 286 286 30 30 (nI T) tok scv slv dcv dlv m held filled sz bv (nI i) = pX5_writeTold_b31 R Tn 286 286 30 30 (nI T) tok scv slv dcv dlv (m1 + 1) held' filled' sz' bv' (nI T) ∧
      pX11_writeCodes_b140 Pn Ln Ln B1 A1 B2 A2 (nI T) ls ds SC SL DC DL m' place pv (nI i) = pX11_writeCodes_b140 Pn Ln Ln B1 A1 B2 A2 (nI T) ls ds SC SL DC DL (m1' + 1) place' pv' (nI T) ∧ n' + q_sum (q_tb L D fs fd) i = n + q_sum (q_tb L D fs fd) T ∧ q_bo n' held' filled' sz' bv' place' pv' := by
  intro d
  induction d with
  | zero =>
    intro m m' i n held filled sz place bv pv hi hm hm' hn h
    obtain ⟨m, rfl⟩ : ∃ z, m = z + 1 := ⟨m - 1, by omega⟩
    obtain ⟨m', rfl⟩ : ∃ z, m' = z + 1 := ⟨m' - 1, by omega⟩
    have : i = T := by omega
    subst this
    exact ⟨m, m', n, held, filled, sz, place, bv, pv, rfl, rfl, rfl, h⟩
  | succ d ih =>
    intro m m' i n held filled sz place bv pv hi hm hm' hn h
    obtain ⟨m, rfl⟩ : ∃ z, m = z + 1 := ⟨m - 1, by omega⟩
    obtain ⟨m', rfl⟩ : ∃ z, m' = z + 1 := ⟨m' - 1, by omega⟩
    obtain ⟨k1, k2, k3, k4⟩ := htok i (by omega)
    have hsum : q_sum (q_tb L D fs fd) (i + 1) = q_sum (q_tb L D fs fd) i + q_tb L D fs fd i := rfl
    have hmono := q_sum_le (f := q_tb L D fs fd) (k := i + 1) T (by omega)
    obtain ⟨o1, o2⟩ := sf_lenOf (Tn := Tn) (show i < Tn by omega) (by omega) (by omega) (by omega) k1
    rw [pX5_writeTold_b31, pX11_writeCodes_b140]
    dsimp only
    rw [qf_le (by omega) (by omega), if_neg (by omega), qf_le (by omega) (by omega), if_neg (by omega), o1, o2, Option.bind_some, Option.bind_some, Option.bind_some, nI_1]
    by_cases c : L i = 0
    · have hD : D i < 256 := k4.elim (fun z => z.2) (fun z => by omega)
      have htb : q_tb L D fs fd i = fs (D i) := by unfold q_tb; rw [if_pos c]
      obtain ⟨s1, s2, s3⟩ := hs (D i) (by omega)
      obtain ⟨a1, a2, a3, a4, a5, a6, a7, a8, a9⟩ := sf_codeP (Pn := Pn) (cn := 286) (ln := 286) (cv := scv) (lv := slv) (x := SC (D i)) hR hP (show D i < 286 by omega) (by omega) (by omega) (hcs i (by omega) c) s1 (by omega) (by omega) h
      have hw : pX11_writeToken Ln Ln B1 A1 Pn B2 A2 ls ds SC SL DC DL (nI i) place pv = some (a5, a6) := by
        unfold pX11_writeToken
        rw [qf_out (by omega), if_neg (by omega), nI_clamp (by omega), k2, k3, c, if_pos (show nI 0 = (0 : Int32) from rfl), qf_o2 (by omega) (by omega), qf_out (by omega), if_neg (by omega), qf_o2 (by omega) (by omega), qf_out (by omega), if_neg (by omega), nI_clamp (by omega), s2, a8, Option.bind_some]
      rw [c, if_pos (show nI 0 = (0 : Int32) from rfl), a7, Option.bind_some, hw, Option.bind_some]
      dsimp only
      obtain ⟨m1, m1', n', x1, x2, x3, x4, x5, x6, y1, y2, y3, y4⟩ := ih m m' (i + 1) (n + fs (D i)) a1 a2 a3 a5 a4 a6 (by omega) (by omega) (by omega) (by omega) a9
      exact ⟨m1, m1', n', x1, x2, x3, x4, x5, x6, y1, y2, by omega, y4⟩
    · have hk : 3 ≤ L i ∧ L i ≤ 258 ∧ 1 ≤ D i ∧ D i ≤ 32768 := k4.elim (fun z => absurd z.1 c) id
      have htb : q_tb L D fs fd i = fs (257 + q_lS (L i)) + q_lb (q_lS (L i)) + fd (q_dS (D i)) + q_db (q_dS (D i)) := by unfold q_tb; rw [if_neg c]
      obtain ⟨a1, a2, a3, a4, a5, a6, a7, a8, a9⟩ := sf_wmatch (Pn := Pn) (ls := ls) (ds := ds) (Ln := Ln) (i := i) hR hP hB1 hA1 hB2 hA2 (by omega) (by omega) k2 k3 hk.1 hk.2.1 hk.2.2.1 hk.2.2.2 hs hd (hcm i (by omega) c).1 (hcm i (by omega) c).2 (by omega) h
      rw [if_neg (nI_ne0 (by omega) (by omega)), Option.bind_some, a7, Option.bind_some, a8, Option.bind_some]
      dsimp only
      obtain ⟨m1, m1', n', x1, x2, x3, x4, x5, x6, y1, y2, y3, y4⟩ := ih m m' (i + 1) _ a1 a2 a3 a5 a4 a6 (by omega) (by omega) (by omega) (by omega) a9
      exact ⟨m1, m1', n', x1, x2, x3, x4, x5, x6, y1, y2, by omega, y4⟩
end RD
