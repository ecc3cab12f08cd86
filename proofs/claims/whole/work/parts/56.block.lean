/-! ### a block, the blocks, unpack: class and reference -/
section QH
variable {k N Z rt No A1 A2 B1 B2 C D E : Nat} {v mv : Nat → Int32}
theorem q_fs_le (j : Nat) : q_fs j ≤ 15 := by unfold q_fs; (repeat' split) <;> omega
theorem q_fd_le (j : Nat) : q_fd j ≤ 15 := by unfold q_fd; split <;> omega
theorem sf_codedF {r S os p g : Int32} {SL DL scv dcv ov : Nat → Int32} {fs fd : Nat → Nat} (hA1 : 288 ≤ A1) (hA2 : 288 ≤ A2) (hB1 : 288 ≤ B1) (hB2 : 32 ≤ B2)
    (hs : ∀ j, j < 288 → SL j = nI (fs j) ∧ fs j ≤ 15) (hd : ∀ j, j < 32 → DL j = nI (fd j) ∧ fd j ≤ 15) (hg : ¬ g = 0) :
    ∃ scv' dcv', pX11_codedBlock A1 B1 A2 B2 Z No r S SL DL mv os p g scv dcv ov = some (os, p, g, scv', dcv', ov) := by
  obtain ⟨scv', a1, a2⟩ := sf_find (n := 288) (A := A1) (B := B1) (ov := SL) (to := scv) (f := fs) (by omega) hA1 hB1 hs
  obtain ⟨dcv', a3, a4⟩ := sf_find (n := 32) (A := A2) (B := B2) (ov := DL) (to := dcv) (f := fd) (by omega) (by omega) hB2 hd
  unfold pX11_codedBlock
  rw [show (288 : Int32) = nI 288 from rfl, show (32 : Int32) = nI 32 from rfl, a1, a3, Option.bind_some, Option.bind_some, show fb_F = 4294967295 + 1 from rfl, sf_b31F hg]
  exact ⟨_, _, rfl⟩
set_option maxRecDepth 100000 in
theorem sf_blk {i q t : Nat} {tL : Int32} {tl : Nat → Int32} {tof : Nat → Int32} {tfc : Nat → Int32} {tfp : Nat → Int32} {tg : Nat → Int32} {tc : Nat → Int32} {tbc : Nat → Int32} {row : Nat → Int32} {sL : Int32} {sl : Nat → Int32} {sof : Nat → Int32} {sfc : Nat → Int32} {sfp : Nat → Int32} {sg : Nat → Int32} {sc : Nat → Int32} {sbc : Nat → Int32} {dL : Int32} {dl : Nat → Int32} {dof : Nat → Int32} {dfc : Nat → Int32} {dfp : Nat → Int32} {dg : Nat → Int32} {dc : Nat → Int32} {dbc : Nat → Int32} {SL : Nat → Int32} {DL : Nat → Int32} {SC : Nat → Int32} {DC : Nat → Int32} {LL : Nat → Int32} {LC : Nat → Int32} {RW : Nat → Int32} {uv ov : Nat → Int32} {x : Int32} (K : Int32 → Int32 → Int32 → (Nat → Int32) → (Nat → Int32) → (Nat → Int32) → (Nat → Int32) → (Nat → Int32) → (Nat → Int32) → (Nat → Int32) → (Nat → Int32) → Int32 → Option (Int32 × Int32 × Int32 × Int32 × Int32 × (Nat → Int32) × (Nat → Int32) × (Nat → Int32) × (Nat → Int32) × (Nat → Int32) × (Nat → Int32) × (Nat → Int32) × (Nat → Int32)))
    (hN : N ≤ 80000) (hk : k ≤ N) (hZ : k ≤ Z) (hr : ∀ j, j < k → ∃ t : Nat, t < 256 ∧ v j = yb t ∧ mv j = nI t) (hrt : rt ≤ No) (hNo : No ≤ 80000) (hA1 : 288 ≤ A1) (hA2 : 288 ≤ A2) (hB1 : 288 ≤ B1) (hB2 : 32 ≤ B2) (hC : 19 ≤ C) (hC2 : C ≤ 80000) (hD : 19 ≤ D) (hE : 320 ≤ E) (hE2 : E ≤ 80000)
    (ht : q_z tfc tfp) (hs : q_z sfc sfp) (hd : q_z dfc dfp) (hi : i ≤ 8 * k) (hq : q ≤ rt) (h : ∀ j, j < q → ∃ t : Nat, t < 256 ∧ uv j = yb t ∧ ov j = nI t) (h4 : t < 4) :
    ∃ (why : Int32) (i' : Nat) (tL' : Int32) (tl' : Nat → Int32) (tof' : Nat → Int32) (tfc' : Nat → Int32) (tfp' : Nat → Int32) (tg' : Nat → Int32) (tc' : Nat → Int32) (tbc' : Nat → Int32) (row' : Nat → Int32) (sL' : Int32) (sl' : Nat → Int32) (sof' : Nat → Int32) (sfc' : Nat → Int32) (sfp' : Nat → Int32) (sg' : Nat → Int32) (sc' : Nat → Int32) (sbc' : Nat → Int32) (dL' : Int32) (dl' : Nat → Int32) (dof' : Nat → Int32) (dfc' : Nat → Int32) (dfp' : Nat → Int32) (dg' : Nat → Int32) (dc' : Nat → Int32) (dbc' : Nat → Int32) (us' : Int32) (uv' : Nat → Int32) (os' : Int32) (ov' : Nat → Int32) (SL' : Nat → Int32) (DL' : Nat → Int32) (SC' : Nat → Int32) (DC' : Nat → Int32) (LL' : Nat → Int32) (LC' : Nat → Int32) (RW' : Nat → Int32),
      pX9_readBlock N 19 16 16 16 16 19 19 316 288 16 16 16 16 288 288 32 16 16 16 16 32 32 rt (nI (8 * k)) v (nI t) (nI i) tL tl tof tfc tfp tg tc tbc row sL sl sof sfc sfp sg sc sbc dL dl dof dfc dfp dg dc dbc (nI q) uv = some (why, nI i', tL', tl', tof', tfc', tfp', tg', tc', tbc', row', sL', sl', sof', sfc', sfp', sg', sc', sbc', dL', dl', dof', dfc', dfp', dg', dc', dbc', us', uv') ∧
      (if nI t = (3 : Int32) then pX11_unpack_b60 Z No A1 A2 B1 B2 C D E (nI rt) (nI k) mv K (nI q) (nI i) 0 ov SL DL SC DC LL LC RW x (nI t) 1 else pX11_unpack_b60 Z No A1 A2 B1 B2 C D E (nI rt) (nI k) mv K (nI q) (nI i) 0 ov SL DL SC DC LL LC RW x (nI t) 0) =
        K os' (nI i') why ov' SL' DL' SC' DC' LL' LC' RW' x ∧ q_z tfc' tfp' ∧ q_z sfc' sfp' ∧ q_z dfc' dfp' ∧ q_end rt k i why i' us' uv' os' ov' := by
  obtain rfl | rfl | rfl | rfl : t = 0 ∨ t = 1 ∨ t = 2 ∨ t = 3 := by omega
  · obtain ⟨why, i', us', uv', os', ov', e1, e2, e3⟩ := sf_kept (Z := Z) (No := No) (rt := rt) hN hk hZ hr hrt hNo hi hq h
    rw [nI_0, if_neg (by decide)]
    unfold pX9_readBlock pX11_unpack_b60
    rw [if_pos rfl, e1, Option.bind_some, sf_can0, Option.bind_some, if_pos rfl, if_pos rfl, e2, Option.bind_some]
    exact ⟨why, i', tL, tl, tof, tfc, tfp, tg, tc, tbc, row, sL, sl, sof, sfc, sfp, sg, sc, sbc, dL, dl, dof, dfc, dfp, dg, dc, dbc, us', uv', os', ov', SL, DL, SC, DC, LL, LC, RW, rfl, rfl, ht, hs, hd, e3⟩
  · obtain ⟨Ls, sl1, sof1, sfc1, sfp1, sg1, sc1, sbc1, Ld, dl1, dof1, dfc1, dfp1, dg1, dc1, dbc1, a1, a2, a3⟩ := sf_fixC (slv := sl) (sofv := sof) (sfcv := sfc) (sfpv := sfp) (sgv := sg) (scv := sc) (sbcv := sbc) (dlv := dl) (dofv := dof) (dfcv := dfc) (dfpv := dfp) (dgv := dg) (dcv := dc) (dbcv := dbc) hs.1 hs.2 hd.1 hd.2
    obtain ⟨SL1, DL1, b1, b2⟩ := sf_fixed (A := A1) (B := A2) hA1 hA2 SL DL
    obtain ⟨why, i', us', uv', os', ov', SC1, DC1, e1, e2, e3⟩ := sf_block (Z := Z) (No := No) (rt := rt) (A1 := A1) (B1 := B1) (A2 := A2) (B2 := B2) (fs := q_fs) (fd := q_fd) (sov := SL1) (dov := DL1) (scv := SC) (dcv := DC) hN hk hZ hr hrt hNo hA1 hB1 (by omega) hB2 (fun j hj => ⟨(b2 j hj).1, q_fs_le j⟩) a2 (fun j hj => ⟨(b2 j (by omega)).2, q_fd_le j⟩) a3 hi hq h
    rw [show nI 1 = (1 : Int32) from rfl, if_neg (by decide)]
    unfold pX9_readBlock pX11_unpack_b60 pX11_unpack_b82 pX11_unpack_b105
    rw [if_neg (by decide), if_pos rfl, a1, Option.bind_some]
    dsimp only
    rw [e1, Option.bind_some, sf_can0, Option.bind_some, if_pos rfl, if_neg (by decide), if_pos rfl, if_pos rfl, b1, Option.bind_some]
    dsimp only
    rw [e2, Option.bind_some]
    exact ⟨why, i', tL, tl, tof, tfc, tfp, tg, tc, tbc, row, Ls, sl1, sof1, sfc1, sfp1, sg1, sc1, sbc1, Ld, dl1, dof1, dfc1, dfp1, dg1, dc1, dbc1, us', uv', os', ov', SL1, DL1, SC1, DC1, LL, LC, RW, rfl, rfl, ht, q_codes_z a2, q_codes_z a3, e3⟩
  · obtain ⟨w1, i1, tL1, tl1, tof1, tfc1, tfp1, tg1, tc1, tbc1, row1, sL1, sl1, sof1, sfc1, sfp1, sg1, sc1, sbc1, dL1, dl1, dof1, dfc1, dfp1, dg1, dc1, dbc1, LL1, LC1, RW1, SL1, DL1, fs, fd, a1, a2, a3, a4, a5, a6, a7, a8, a9, a10⟩ := sf_readCodes (A := A1) (B := A2) (C := C) (D := D) (E := E) (Z := Z) (LL := LL) (LC := LC) (RW := RW) (SL := SL) (DL := DL) (tL := tL) (tl := tl) (tof := tof) (tfc := tfc) (tfp := tfp) (tg := tg) (tc := tc) (tbc := tbc) (row := row) (sL := sL) (sl := sl) (sof := sof) (sfc := sfc) (sfp := sfp) (sg := sg) (sc := sc) (sbc := sbc) (dL := dL) (dl := dl) (dof := dof) (dfc := dfc) (dfp := dfp) (dg := dg) (dc := dc) (dbc := dbc) hN hk hZ hr hA1 hA2 hC hC2 hD hE hE2 ht hs hd hi
    rw [show nI 2 = (2 : Int32) from rfl, if_neg (by decide)]
    by_cases c : w1 = 0
    · subst c
      obtain ⟨why, i', us', uv', os', ov', SC1, DC1, e1, e2, e3⟩ := sf_block (Z := Z) (No := No) (rt := rt) (A1 := A1) (B1 := B1) (A2 := A2) (B2 := B2) (fs := fs) (fd := fd) (sov := SL1) (dov := DL1) (scv := SC) (dcv := DC) hN hk hZ hr hrt hNo hA1 hB1 (by omega) hB2 a8 (a10 rfl).1 (fun j hj => a9 j (by omega)) (a10 rfl).2 a7 hq h
      refine ⟨why, i', tL1, tl1, tof1, tfc1, tfp1, tg1, tc1, tbc1, row1, sL1, sl1, sof1, sfc1, sfp1, sg1, sc1, sbc1, dL1, dl1, dof1, dfc1, dfp1, dg1, dc1, dbc1, us', uv', os', ov', SL1, DL1, SC1, DC1, LL1, LC1, RW1, ?_, ?_, a3, a4, a5, by have := e3.1; omega, e3.2⟩
      · unfold pX9_readBlock
        rw [q_told_eq]
        unfold q_readTold
        rw [if_neg (by decide), if_neg (by decide), if_pos rfl, a1, Option.bind_some]
        unfold q_then
        dsimp only
        rw [if_pos rfl, e1, Option.bind_some, Option.bind_some]
      · unfold pX11_unpack_b60 pX11_unpack_b82 pX11_unpack_b105
        rw [sf_can0, Option.bind_some, if_pos rfl, if_neg (by decide), if_pos rfl, if_neg (by decide), a2, Option.bind_some]
        dsimp only
        rw [e2, Option.bind_some]
    · obtain ⟨SC1, DC1, e2⟩ := sf_codedF (Z := Z) (No := No) (A1 := A1) (B1 := B1) (A2 := A2) (B2 := B2) (mv := mv) (r := nI rt) (S := nI k) (os := nI q) (p := nI i1) (scv := SC) (dcv := DC) (ov := ov) hA1 hA2 hB1 hB2 a8 (fun j hj => a9 j (by omega)) c
      refine ⟨w1, i1, tL1, tl1, tof1, tfc1, tfp1, tg1, tc1, tbc1, row1, sL1, sl1, sof1, sfc1, sfp1, sg1, sc1, sbc1, dL1, dl1, dof1, dfc1, dfp1, dg1, dc1, dbc1, nI q, uv, nI q, ov, SL1, DL1, SC1, DC1, LL1, LC1, RW1, ?_, ?_, a3, a4, a5, a6, a7, fun z => absurd z c⟩
      · unfold pX9_readBlock
        rw [q_told_eq]
        unfold q_readTold
        rw [if_neg (by decide), if_neg (by decide), if_pos rfl, a1, Option.bind_some]
        unfold q_then
        dsimp only
        rw [if_neg c, Option.bind_some]
      · unfold pX11_unpack_b60 pX11_unpack_b82 pX11_unpack_b105
        rw [sf_can0, Option.bind_some, if_pos rfl, if_neg (by decide), if_pos rfl, if_neg (by decide), a2, Option.bind_some]
        dsimp only
        rw [e2, Option.bind_some]
  · rw [show nI 3 = (3 : Int32) from rfl, if_pos rfl]
    unfold pX9_readBlock pX11_unpack_b60 pX11_unpack_b82
    rw [if_neg (by decide), if_neg (by decide), if_neg (by decide), sf_can1, Option.bind_some, if_neg (by decide), if_neg (by decide)]
    exact ⟨2, i, tL, tl, tof, tfc, tfp, tg, tc, tbc, row, sL, sl, sof, sfc, sfp, sg, sc, sbc, dL, dl, dof, dfc, dfp, dg, dc, dbc, nI q, uv, nI q, ov, SL, DL, SC, DC, LL, LC, RW, rfl, rfl, ht, hs, hd, Nat.le_refl i, hi, fun z => absurd z (by decide)⟩


set_option maxRecDepth 100000 in
theorem sf_blocksL (hN : N ≤ 80000) (hk : k ≤ N) (hZ : k ≤ Z) (hr : ∀ j, j < k → ∃ t : Nat, t < 256 ∧ v j = yb t ∧ mv j = nI t) (hrt : rt ≤ No) (hNo : No ≤ 80000) (hA1 : 288 ≤ A1) (hA2 : 288 ≤ A2) (hB1 : 288 ≤ B1) (hB2 : 32 ≤ B2) (hC : 19 ≤ C) (hC2 : C ≤ 80000) (hD : 19 ≤ D) (hE : 320 ≤ E) (hE2 : E ≤ 80000) : ∀ (d m m' i c q : Nat) (tL : Int32) (tl : Nat → Int32) (tof : Nat → Int32) (tfc : Nat → Int32) (tfp : Nat → Int32) (tg : Nat → Int32) (tc : Nat → Int32) (tbc : Nat → Int32) (row : Nat → Int32) (sL : Int32) (sl : Nat → Int32) (sof : Nat → Int32) (sfc : Nat → Int32) (sfp : Nat → Int32) (sg : Nat → Int32) (sc : Nat → Int32) (sbc : Nat → Int32) (dL : Int32) (dl : Nat → Int32) (dof : Nat → Int32) (dfc : Nat → Int32) (dfp : Nat → Int32) (dg : Nat → Int32) (dc : Nat → Int32) (dbc : Nat → Int32) (SL : Nat → Int32) (DL : Nat → Int32) (SC : Nat → Int32) (DC : Nat → Int32) (LL : Nat → Int32) (LC : Nat → Int32) (RW : Nat → Int32) (uv ov : Nat → Int32), 8 * k - i < d → d ≤ m → d < m' → c ≤ i → i ≤ 8 * k → q ≤ rt → (∀ j, j < q → ∃ t : Nat, t < 256 ∧ uv j = yb t ∧ ov j = nI t) → q_z tfc tfp → q_z sfc sfp → q_z dfc dfp →
    ∃ (why : Int32) (i' : Nat) (tL' : Int32) (tl' : Nat → Int32) (tof' : Nat → Int32) (tfc' : Nat → Int32) (tfp' : Nat → Int32) (tg' : Nat → Int32) (tc' : Nat → Int32) (tbc' : Nat → Int32) (row' : Nat → Int32) (sL' : Int32) (sl' : Nat → Int32) (sof' : Nat → Int32) (sfc' : Nat → Int32) (sfp' : Nat → Int32) (sg' : Nat → Int32) (sc' : Nat → Int32) (sbc' : Nat → Int32) (dL' : Int32) (dl' : Nat → Int32) (dof' : Nat → Int32) (dfc' : Nat → Int32) (dfp' : Nat → Int32) (dg' : Nat → Int32) (dc' : Nat → Int32) (dbc' : Nat → Int32) (us' : Int32) (uv' : Nat → Int32) (os' : Int32) (ov' : Nat → Int32) (SL' : Nat → Int32) (DL' : Nat → Int32) (SC' : Nat → Int32) (DC' : Nat → Int32) (LL' : Nat → Int32) (LC' : Nat → Int32) (RW' : Nat → Int32),
      pX9_readBlocks_b9 N 19 16 16 16 16 19 19 316 288 16 16 16 16 288 288 32 16 16 16 16 32 32 rt v m (nI (8 * k)) (nI i) tL tl tof tfc tfp tg tc tbc row sL sl sof sfc sfp sg sc sbc dL dl dof dfc dfp dg dc dbc (nI q) uv (nI c) = some (why, nI (8 * k), nI i', tL', tl', tof', tfc', tfp', tg', tc', tbc', row', sL', sl', sof', sfc', sfp', sg', sc', sbc', dL', dl', dof', dfc', dfp', dg', dc', dbc', us', uv') ∧
      pX11_unpack_b17 Z No A1 A2 B1 B2 C D E (nI rt) (nI k) mv m' (nI q) (nI i) 0 ov SL DL SC DC LL LC RW 0 = some (why, if why = 0 then os' else 0, nI i', nI i', why, ov', SL', DL', SC', DC', LL', LC', RW') ∧
      q_z tfc' tfp' ∧ q_z sfc' sfp' ∧ q_z dfc' dfp' ∧ i' ≤ 8 * k ∧ (why = 0 → q_row rt uv' us' ov' os') := by
  have hm : ∀ j, j < k → ∃ t : Nat, t < 256 ∧ mv j = nI t := fun j hj => (hr j hj).elim (fun t q => ⟨t, q.1, q.2.2⟩)
  have hstop : ∀ (m' : Nat) (os p g : Int32) (ov SL DL SC DC LL LC RW : Nat → Int32) (x : Int32), (x = 0 → ¬ g = 0) → pX11_unpack_b17 Z No A1 A2 B1 B2 C D E (nI rt) (nI k) mv (m' + 1) os p g ov SL DL SC DC LL LC RW x = some (g, if g = 0 then os else 0, p, p, g, ov, SL, DL, SC, DC, LL, LC, RW) := by
    intro m' os p g ov SL DL SC DC LL LC RW x hx
    have h112 : pX11_unpack_b112 os p g ov SL DL SC DC LL LC RW = some (g, if g = 0 then os else 0, p, p, g, ov, SL, DL, SC, DC, LL, LC, RW) := by
      unfold pX11_unpack_b112 pX11_unpack_b136
      by_cases z : g = 0
      · rw [if_pos z, if_pos z]
      · rw [if_neg z, if_neg z]
    rw [pX11_unpack_b17]
    dsimp only
    by_cases z : x = 0
    · rw [if_pos z, if_neg (hx z), h112]
    · rw [if_neg z, h112]
  intro d
  induction d with
  | zero => intro m m' i c q tL tl tof tfc tfp tg tc tbc row sL sl sof sfc sfp sg sc sbc dL dl dof dfc dfp dg dc dbc SL DL SC DC LL LC RW uv ov hd1; omega
  | succ d ih =>
    intro m m' i c q tL tl tof tfc tfp tg tc tbc row sL sl sof sfc sfp sg sc sbc dL dl dof dfc dfp dg dc dbc SL DL SC DC LL LC RW uv ov hd1 hm1 hm2 hc hi hq h ht hs hd
    obtain ⟨m, rfl⟩ : ∃ z, m = z + 1 := ⟨m - 1, by omega⟩
    obtain ⟨m', rfl⟩ : ∃ z, m' = z + 1 := ⟨m' - 1, by omega⟩
    obtain ⟨m'', hm''⟩ : ∃ z, m' = z + 1 := ⟨m' - 1, by omega⟩
    rw [pX9_readBlocks_b9, pX11_unpack_b17]
    dsimp only
    rw [qf_lt (by omega) (by omega), if_neg (by omega), if_pos rfl, if_pos rfl]
    rw [show (1 : Int32) = nI 1 from rfl, sf_number hN hk hr (b := 1) (by omega) hi, sf_tk (mv := mv) hZ (by omega) hm (b := 1) (by omega) hi]
    by_cases c1 : i + 1 ≤ 8 * k
    · rw [if_pos c1, if_pos c1, Option.bind_some, Option.bind_some]
      dsimp only
      rw [show (2 : Int32) = nI 2 from rfl, sf_number hN hk hr (b := 2) (by omega) c1]
      have htake : ∀ x : Int32, pX11_unpack_b42 Z No A1 A2 B1 B2 C D E (nI rt) (nI k) mv (pX11_unpack_b17 Z No A1 A2 B1 B2 C D E (nI rt) (nI k) mv m') (nI q) (nI (i + 1)) 0 ov SL DL SC DC LL LC RW x = pX11_unpack_b42 Z No A1 A2 B1 B2 C D E (nI rt) (nI k) mv (pX11_unpack_b17 Z No A1 A2 B1 B2 C D E (nI rt) (nI k) mv m') (nI q) (nI (i + 1)) 0 ov SL DL SC DC LL LC RW x := fun _ => rfl
      have hn1 : q_num mv i 1 < 2 := q_num_lt mv i 1
      by_cases c2 : i + 1 + 2 ≤ 8 * k
      · rw [if_pos c2, Option.bind_some]
        dsimp only
        have hn2 : q_num mv (i + 1) 2 < 4 := q_num_lt mv (i + 1) 2
        rw [if_pos (nI_pos' (by omega))]
        have hkey : ∀ x : Int32, (x = 0 ∨ x = 1) → (x = 1 ↔ q_num mv i 1 = 1) →
            ∃ (why : Int32) (i' : Nat) (tL' : Int32) (tl' : Nat → Int32) (tof' : Nat → Int32) (tfc' : Nat → Int32) (tfp' : Nat → Int32) (tg' : Nat → Int32) (tc' : Nat → Int32) (tbc' : Nat → Int32) (row' : Nat → Int32) (sL' : Int32) (sl' : Nat → Int32) (sof' : Nat → Int32) (sfc' : Nat → Int32) (sfp' : Nat → Int32) (sg' : Nat → Int32) (sc' : Nat → Int32) (sbc' : Nat → Int32) (dL' : Int32) (dl' : Nat → Int32) (dof' : Nat → Int32) (dfc' : Nat → Int32) (dfp' : Nat → Int32) (dg' : Nat → Int32) (dc' : Nat → Int32) (dbc' : Nat → Int32) (us' : Int32) (uv' : Nat → Int32) (os' : Int32) (ov' : Nat → Int32) (SL' : Nat → Int32) (DL' : Nat → Int32) (SC' : Nat → Int32) (DC' : Nat → Int32) (LL' : Nat → Int32) (LC' : Nat → Int32) (RW' : Nat → Int32),
      ((pX9_readBlock N 19 16 16 16 16 19 19 316 288 16 16 16 16 288 288 32 16 16 16 16 32 32 rt (nI (8 * k)) v (nI (q_num mv (i + 1) 2)) (nI (i + 1 + 2)) tL tl tof tfc tfp tg tc tbc row sL sl sof sfc sfp sg sc sbc dL dl dof dfc dfp dg dc dbc (nI q) uv).bind fun u5 => if u5.1 = 0 then (if nI (q_num mv i 1) = nI 1 then some (u5.1, nI (8 * k), u5.2) else pX9_readBlocks_b9 N 19 16 16 16 16 19 19 316 288 16 16 16 16 288 288 32 16 16 16 16 32 32 rt v m (nI (8 * k)) u5.2.1 u5.2.2.1 u5.2.2.2.1 u5.2.2.2.2.1 u5.2.2.2.2.2.1 u5.2.2.2.2.2.2.1 u5.2.2.2.2.2.2.2.1 u5.2.2.2.2.2.2.2.2.1 u5.2.2.2.2.2.2.2.2.2.1 u5.2.2.2.2.2.2.2.2.2.2.1 u5.2.2.2.2.2.2.2.2.2.2.2.1 u5.2.2.2.2.2.2.2.2.2.2.2.2.1 u5.2.2.2.2.2.2.2.2.2.2.2.2.2.1 u5.2.2.2.2.2.2.2.2.2.2.2.2.2.2.1 u5.2.2.2.2.2.2.2.2.2.2.2.2.2.2.2.1 u5.2.2.2.2.2.2.2.2.2.2.2.2.2.2.2.2.1 u5.2.2.2.2.2.2.2.2.2.2.2.2.2.2.2.2.2.1 u5.2.2.2.2.2.2.2.2.2.2.2.2.2.2.2.2.2.2.1 u5.2.2.2.2.2.2.2.2.2.2.2.2.2.2.2.2.2.2.2.1 u5.2.2.2.2.2.2.2.2.2.2.2.2.2.2.2.2.2.2.2.2.1 u5.2.2.2.2.2.2.2.2.2.2.2.2.2.2.2.2.2.2.2.2.2.1 u5.2.2.2.2.2.2.2.2.2.2.2.2.2.2.2.2.2.2.2.2.2.2.1 u5.2.2.2.2.2.2.2.2.2.2.2.2.2.2.2.2.2.2.2.2.2.2.2.1 u5.2.2.2.2.2.2.2.2.2.2.2.2.2.2.2.2.2.2.2.2.2.2.2.2.1 u5.2.2.2.2.2.2.2.2.2.2.2.2.2.2.2.2.2.2.2.2.2.2.2.2.2.1 u5.2.2.2.2.2.2.2.2.2.2.2.2.2.2.2.2.2.2.2.2.2.2.2.2.2.2.1 u5.2.2.2.2.2.2.2.2.2.2.2.2.2.2.2.2.2.2.2.2.2.2.2.2.2.2.2.1 u5.2.2.2.2.2.2.2.2.2.2.2.2.2.2.2.2.2.2.2.2.2.2.2.2.2.2.2.2 (nI c + nI 1)) else some (u5.1, nI (8 * k), u5.2)) = some (why, nI (8 * k), nI i', tL', tl', tof', tfc', tfp', tg', tc', tbc', row', sL', sl', sof', sfc', sfp', sg', sc', sbc', dL', dl', dof', dfc', dfp', dg', dc', dbc', us', uv') ∧
      pX11_unpack_b42 Z No A1 A2 B1 B2 C D E (nI rt) (nI k) mv (pX11_unpack_b17 Z No A1 A2 B1 B2 C D E (nI rt) (nI k) mv m') (nI q) (nI (i + 1)) 0 ov SL DL SC DC LL LC RW x = some (why, if why = 0 then os' else 0, nI i', nI i', why, ov', SL', DL', SC', DC', LL', LC', RW') ∧
      q_z tfc' tfp' ∧ q_z sfc' sfp' ∧ q_z dfc' dfp' ∧ i' ≤ 8 * k ∧ (why = 0 → q_row rt uv' us' ov' os') := by
          intro x hx1 hx2
          unfold pX11_unpack_b42
          rw [show (2 : Int32) = nI 2 from rfl, sf_tk (mv := mv) hZ (by omega) hm (b := 2) (i := i + 1) (by omega) c1, if_pos c2, Option.bind_some]
          dsimp only
          obtain ⟨why, i', tL1, tl1, tof1, tfc1, tfp1, tg1, tc1, tbc1, row1, sL1, sl1, sof1, sfc1, sfp1, sg1, sc1, sbc1, dL1, dl1, dof1, dfc1, dfp1, dg1, dc1, dbc1, us', uv', os', ov', SL1, DL1, SC1, DC1, LL1, LC1, RW1, e1, e2, e3, e4, e5, e6⟩ := sf_blk (i := i + 1 + 2) (q := q) (x := x) (tL := tL) (tl := tl) (tof := tof) (tfc := tfc) (tfp := tfp) (tg := tg) (tc := tc) (tbc := tbc) (row := row) (sL := sL) (sl := sl) (sof := sof) (sfc := sfc) (sfp := sfp) (sg := sg) (sc := sc) (sbc := sbc) (dL := dL) (dl := dl) (dof := dof) (dfc := dfc) (dfp := dfp) (dg := dg) (dc := dc) (dbc := dbc) (SL := SL) (DL := DL) (SC := SC) (DC := DC) (LL := LL) (LC := LC) (RW := RW) (pX11_unpack_b17 Z No A1 A2 B1 B2 C D E (nI rt) (nI k) mv m') hN hk hZ hr hrt hNo hA1 hA2 hB1 hB2 hC hC2 hD hE hE2 ht hs hd c2 hq h hn2
          rw [e1, Option.bind_some, e2]
          dsimp only
          have e7 := e6.1
          have e8 := e6.2.1
          by_cases w : why = 0
          · obtain ⟨q', z1, rfl, rfl, z4⟩ := e6.2.2 w
            subst w
            rw [if_pos rfl]
            by_cases y : q_num mv i 1 = 1
            · rw [if_pos (congrArg nI y), hm'', hstop m'' _ _ _ _ _ _ _ _ _ _ _ _ (fun z => absurd (z.symm.trans (hx2.mpr y)) (by decide))]
              exact ⟨0, i', tL1, tl1, tof1, tfc1, tfp1, tg1, tc1, tbc1, row1, sL1, sl1, sof1, sfc1, sfp1, sg1, sc1, sbc1, dL1, dl1, dof1, dfc1, dfp1, dg1, dc1, dbc1, nI q', uv', nI q', ov', SL1, DL1, SC1, DC1, LL1, LC1, RW1, rfl, rfl, e3, e4, e5, e8, fun _ => ⟨q', z1, rfl, rfl, z4⟩⟩
            · have y0 : q_num mv i 1 = 0 := by omega
              have x0 : x = 0 := hx1.elim id (fun z => absurd (hx2.mp z) y)
              rw [y0, if_neg (by decide), nI_add, x0]
              exact ih m m' i' (c + 1) q' tL1 tl1 tof1 tfc1 tfp1 tg1 tc1 tbc1 row1 sL1 sl1 sof1 sfc1 sfp1 sg1 sc1 sbc1 dL1 dl1 dof1 dfc1 dfp1 dg1 dc1 dbc1 SL1 DL1 SC1 DC1 LL1 LC1 RW1 uv' ov' (by omega) (by omega) (by omega) (by omega) e8 z1 z4 e3 e4 e5
          · rw [if_neg w, hm'', hstop m'' _ _ _ _ _ _ _ _ _ _ _ _ (fun _ => w)]
            exact ⟨why, i', tL1, tl1, tof1, tfc1, tfp1, tg1, tc1, tbc1, row1, sL1, sl1, sof1, sfc1, sfp1, sg1, sc1, sbc1, dL1, dl1, dof1, dfc1, dfp1, dg1, dc1, dbc1, us', uv', os', ov', SL1, DL1, SC1, DC1, LL1, LC1, RW1, rfl, rfl, e3, e4, e5, e8, fun z => absurd z w⟩
        by_cases y : q_num mv i 1 = 1
        · rw [if_pos (congrArg nI y)]
          exact hkey 1 (Or.inr rfl) ⟨fun _ => y, fun _ => rfl⟩
        · have y0 : q_num mv i 1 = 0 := by omega
          have := hkey 0 (Or.inl rfl) ⟨fun z => absurd z (by decide), fun z => absurd z y⟩
          rw [y0] at this ⊢
          rw [if_neg (by decide)]
          exact this
      · rw [if_neg c2, Option.bind_some]
        dsimp only
        rw [if_neg (by decide)]
        have hkey : ∀ x : Int32, pX11_unpack_b42 Z No A1 A2 B1 B2 C D E (nI rt) (nI k) mv (pX11_unpack_b17 Z No A1 A2 B1 B2 C D E (nI rt) (nI k) mv m') (nI q) (nI (i + 1)) 0 ov SL DL SC DC LL LC RW x = some (1, if (1 : Int32) = 0 then nI q else 0, nI (8 * k), nI (8 * k), 1, ov, SL, DL, SC, DC, LL, LC, RW) := by
          intro x
          have h60 : ∀ (x2 t0 : Int32), pX11_unpack_b60 Z No A1 A2 B1 B2 C D E (nI rt) (nI k) mv (pX11_unpack_b17 Z No A1 A2 B1 B2 C D E (nI rt) (nI k) mv m') (nI q) (nI (8 * k)) 1 ov SL DL SC DC LL LC RW x x2 t0 = some (1, if (1 : Int32) = 0 then nI q else 0, nI (8 * k), nI (8 * k), 1, ov, SL, DL, SC, DC, LL, LC, RW) := by
            intro x2 t0
            unfold pX11_unpack_b60 pX11_unpack_b82
            rw [sf_canF (by decide), Option.bind_some, if_neg (by decide), if_neg (by decide), hm'', hstop m'' _ _ _ _ _ _ _ _ _ _ _ _ (fun _ => by decide)]
          unfold pX11_unpack_b42
          rw [show (2 : Int32) = nI 2 from rfl, sf_tk (mv := mv) hZ (by omega) hm (b := 2) (i := i + 1) (by omega) c1, if_neg c2, Option.bind_some]
          dsimp only
          rw [h60, h60, ite_self]
        rw [hkey, hkey, ite_self]
        exact ⟨1, 8 * k, tL, tl, tof, tfc, tfp, tg, tc, tbc, row, sL, sl, sof, sfc, sfp, sg, sc, sbc, dL, dl, dof, dfc, dfp, dg, dc, dbc, nI q, uv, nI q, ov, SL, DL, SC, DC, LL, LC, RW, rfl, rfl, ht, hs, hd, Nat.le_refl _, fun z => absurd z (by decide)⟩
    · rw [if_neg c1, if_neg c1, Option.bind_some, Option.bind_some]
      dsimp only
      rw [show (2 : Int32) = nI 2 from rfl, sf_number hN hk hr (b := 2) (by omega) (Nat.le_refl _), if_neg (by omega), Option.bind_some]
      dsimp only
      rw [if_neg (by decide)]
      have hkey : ∀ x : Int32, pX11_unpack_b42 Z No A1 A2 B1 B2 C D E (nI rt) (nI k) mv (pX11_unpack_b17 Z No A1 A2 B1 B2 C D E (nI rt) (nI k) mv m') (nI q) (nI (8 * k)) 1 ov SL DL SC DC LL LC RW x = some (1, if (1 : Int32) = 0 then nI q else 0, nI (8 * k), nI (8 * k), 1, ov, SL, DL, SC, DC, LL, LC, RW) := by
        intro x
        unfold pX11_unpack_b42
        rw [show (2 : Int32) = nI 2 from rfl, sf_tkF (by decide), Option.bind_some]
        dsimp only
        rw [if_neg (by decide)]
        unfold pX11_unpack_b60 pX11_unpack_b82
        rw [sf_can0, Option.bind_some, if_neg (by decide), if_neg (by decide), hm'', hstop m'' _ _ _ _ _ _ _ _ _ _ _ _ (fun _ => by decide)]
      rw [hkey, hkey, ite_self]
      exact ⟨1, 8 * k, tL, tl, tof, tfc, tfp, tg, tc, tbc, row, sL, sl, sof, sfc, sfp, sg, sc, sbc, dL, dl, dof, dfc, dfp, dg, dc, dbc, nI q, uv, nI q, ov, SL, DL, SC, DC, LL, LC, RW, rfl, rfl, ht, hs, hd, Nat.le_refl _, fun z => absurd z (by decide)⟩


set_option maxRecDepth 100000 in
theorem sf_unpack {tL : Int32} {tl : Nat → Int32} {tof : Nat → Int32} {tfc : Nat → Int32} {tfp : Nat → Int32} {tg : Nat → Int32} {tc : Nat → Int32} {tbc : Nat → Int32} {row : Nat → Int32} {sL : Int32} {sl : Nat → Int32} {sof : Nat → Int32} {sfc : Nat → Int32} {sfp : Nat → Int32} {sg : Nat → Int32} {sc : Nat → Int32} {sbc : Nat → Int32} {dL : Int32} {dl : Nat → Int32} {dof : Nat → Int32} {dfc : Nat → Int32} {dfp : Nat → Int32} {dg : Nat → Int32} {dc : Nat → Int32} {dbc : Nat → Int32} {SL : Nat → Int32} {DL : Nat → Int32} {SC : Nat → Int32} {DC : Nat → Int32} {LL : Nat → Int32} {LC : Nat → Int32} {RW : Nat → Int32} {uv ov : Nat → Int32} {sz msz : Int32} (hN : N ≤ 80000) (hNZ : N ≤ Z) (hr : q_row N v sz mv msz) (hrt : rt ≤ No) (hNo : No ≤ 80000) (hA1 : 288 ≤ A1) (hA2 : 288 ≤ A2) (hB1 : 288 ≤ B1) (hB2 : 32 ≤ B2) (hC : 19 ≤ C) (hC2 : C ≤ 80000) (hD : 19 ≤ D) (hE : 320 ≤ E) (hE2 : E ≤ 80000) (ht : q_z tfc tfp) (hs : q_z sfc sfp) (hd : q_z dfc dfp) :
    ∃ (why al i' : Int32) (tL' : Int32) (tl' : Nat → Int32) (tof' : Nat → Int32) (tfc' : Nat → Int32) (tfp' : Nat → Int32) (tg' : Nat → Int32) (tc' : Nat → Int32) (tbc' : Nat → Int32) (row' : Nat → Int32) (sL' : Int32) (sl' : Nat → Int32) (sof' : Nat → Int32) (sfc' : Nat → Int32) (sfp' : Nat → Int32) (sg' : Nat → Int32) (sc' : Nat → Int32) (sbc' : Nat → Int32) (dL' : Int32) (dl' : Nat → Int32) (dof' : Nat → Int32) (dfc' : Nat → Int32) (dfp' : Nat → Int32) (dg' : Nat → Int32) (dc' : Nat → Int32) (dbc' : Nat → Int32) (us' : Int32) (uv' : Nat → Int32) (os' : Int32) (ov' : Nat → Int32) (SL' : Nat → Int32) (DL' : Nat → Int32) (SC' : Nat → Int32) (DC' : Nat → Int32) (LL' : Nat → Int32) (LC' : Nat → Int32) (RW' : Nat → Int32),
      pX10_unpack N 19 16 16 16 16 19 19 316 288 16 16 16 16 288 288 32 16 16 16 16 32 32 rt sz v tL tl tof tfc tfp tg tc tbc row sL sl sof sfc sfp sg sc sbc dL dl dof dfc dfp dg dc dbc uv = some (why, us', al, i', tL', tl', tof', tfc', tfp', tg', tc', tbc', row', sL', sl', sof', sfc', sfp', sg', sc', sbc', dL', dl', dof', dfc', dfp', dg', dc', dbc', uv') ∧
      pX11_unpack Z No A1 A2 B1 B2 C D E (nI rt) msz mv ov SL DL SC DC LL LC RW = some (why, os', i', i', why, ov', SL', DL', SC', DC', LL', LC', RW') ∧
      q_z tfc' tfp' ∧ q_z sfc' sfp' ∧ q_z dfc' dfp' ∧ q_row rt uv' us' ov' os' := by
  obtain ⟨k, hk, rfl, rfl, hr⟩ := hr
  unfold pX10_unpack pX11_unpack pX9_readBlocks pX6_clear pX0_start
  rw [Option.bind_some, Option.bind_some]
  dsimp only
  rw [show (8 : Int32) * nI k = nI (8 * k) from pk_mul 8 k]
  have hF : 8 * k + 2 < fb_F := by unfold fb_F; omega
  generalize fb_F = F at hF ⊢
  obtain ⟨why, i', tL1, tl1, tof1, tfc1, tfp1, tg1, tc1, tbc1, row1, sL1, sl1, sof1, sfc1, sfp1, sg1, sc1, sbc1, dL1, dl1, dof1, dfc1, dfp1, dg1, dc1, dbc1, us', uv', os', ov', SL1, DL1, SC1, DC1, LL1, LC1, RW1, e1, e2, e3, e4, e5, e6, e7⟩ := sf_blocksL (Z := Z) (No := No) (A1 := A1) (A2 := A2) (B1 := B1) (B2 := B2) (C := C) (D := D) (E := E) hN hk (by omega) hr hrt hNo hA1 hA2 hB1 hB2 hC hC2 hD hE hE2 (8 * k + 1) F F 0 0 0 tL tl tof tfc tfp tg tc tbc row sL sl sof sfc sfp sg sc sbc dL dl dof dfc dfp dg dc dbc SL DL SC DC LL LC RW uv ov (by omega) (by omega) (by omega) (Nat.le_refl 0) (by omega) (by omega) (fun j hj => absurd hj (Nat.not_lt_zero j)) ht hs hd
  rw [nI_0] at e1 e2
  rw [e1, e2, Option.bind_some]
  dsimp only
  by_cases c : why = 0
  · subst c
    rw [if_pos rfl]
    exact ⟨0, _, nI i', tL1, tl1, tof1, tfc1, tfp1, tg1, tc1, tbc1, row1, sL1, sl1, sof1, sfc1, sfp1, sg1, sc1, sbc1, dL1, dl1, dof1, dfc1, dfp1, dg1, dc1, dbc1, us', uv', os', ov', SL1, DL1, SC1, DC1, LL1, LC1, RW1, rfl, rfl, e3, e4, e5, e7 rfl⟩
  · rw [if_neg c, Option.bind_some, if_neg c]
    exact ⟨why, _, nI i', tL1, tl1, tof1, tfc1, tfp1, tg1, tc1, tbc1, row1, sL1, sl1, sof1, sfc1, sfp1, sg1, sc1, sbc1, dL1, dl1, dof1, dfc1, dfp1, dg1, dc1, dbc1, 0, uv', 0, ov', SL1, DL1, SC1, DC1, LL1, LC1, RW1, rfl, rfl, e3, e4, e5, q_row0 rt uv' ov'⟩
end QH
