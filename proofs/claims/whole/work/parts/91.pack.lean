/-! ### pack -/
section RQ
theorem q_sum_c {f : Nat → Nat} {c : Nat} : ∀ n, (∀ i, i < n → f i ≤ c) → q_sum f n ≤ c * n := by
  intro n
  induction n with
  | zero => intro _; exact Nat.zero_le _
  | succ n ih =>
    intro h
    have h1 := ih (fun i hi => h i (by omega))
    have h2 := h n (by omega)
    rw [q_sum, Nat.mul_succ]
    omega
theorem q_lb5 : ∀ k, k < 29 → q_lb k ≤ 5 := by decide +kernel
theorem q_db13 : ∀ k, k < 30 → q_db k ≤ 13 := by decide +kernel
theorem q_B3_b {t : Nat → Nat} {n ch T k H S Dn : Nat} {cs cn fl fs fd : Nat → Nat} {sc dc tok sl scv dl dcv cct cl tl tcv ls ds SL DL ts tn LL SC DC LC : Nat → Int32} (hn : n ≤ 70000)
    (hpf : q_pf t n ch T k H S Dn cs cn fl fs fd sc dc tok sl scv dl dcv cct cl tl tcv ls ds SL DL ts tn LL SC DC LC) : q_B3 T k H (q_L t n ch) (q_D t n ch) cs fl fs fd ≤ 4000000 := by
  obtain ⟨shape, htok, sym, dis, tel, e256, used, cell, csc, cdc, ccc, bT, bk, bH1, bH2, bS1, bS2, bD1, bD2⟩ := hpf
  have h1 := q_sum_c (f := fun j => fl (cs j) + q_nb (cs j)) (c := 14) k (fun j hj => by
    have a1 := (cell j hj).1
    have a2 := (tel _ a1).2.2.1
    have a3 := q_nbb _ a1
    omega)
  have h2 := q_sum_c (f := q_tb (q_L t n ch) (q_D t n ch) fs fd) (c := 48) T (fun j hj => by
    unfold q_tb
    have a0 := (q_shape_s shape hj).1
    unfold q_sy2 at a0
    rcases shape j hj with ⟨c1, c2⟩ | ⟨c1, c2, c3, c4⟩
    · rw [if_pos c1] at a0 ⊢
      have := (sym _ a0).2.2.1
      omega
    · have hl := (sf_lS c1 c2).2.2.1
      have hd := (sf_dS c3 c4).2.2.1
      rw [if_neg (by omega)] at a0 ⊢
      have b1 := (sym _ a0).2.2.1
      have b2 := (dis _ hd).2.2.1
      have b3 := q_lb5 _ hl
      have b4 := q_db13 _ hd
      omega)
  have h3 := (sym 256 (by omega)).2.2.1
  unfold q_B3
  omega
theorem sf_mtchL {T : Nat} {L : Nat → Nat} {hd em ls ds of ct al pa SL DL ro ts tn LL SC DC LC pv : Nat → Int32} {x yk pl fo yS yD yH : Int32} (hT : T ≤ 70000) (h : ∀ j, j < T → ls j = nI (L j) ∧ L j ≤ 258) : ∀ (d m i : Nat), T = i + d → d < m →
    pX11_pack_b92 70000 m (nI (q_sum (fun j => if L j = 0 then 0 else 1) i)) (nI T) yk pl fo yS yD yH hd em ls ds of ct al pa SL DL ro ts tn LL SC DC LC pv x (nI i) = some (x, x, nI (q_sum (fun j => if L j = 0 then 0 else 1) T), nI T, yk, pl, fo, yS, yD, yH, hd, em, ls, ds, of, ct, al, pa, SL, DL, ro, ts, tn, LL, SC, DC, LC, pv) := by
  intro d
  induction d with
  | zero =>
    intro m i hi hm
    obtain ⟨m, rfl⟩ : ∃ z, m = z + 1 := ⟨m - 1, by omega⟩
    have e : i = T := by omega
    subst e
    rw [pX11_pack_b92]
    dsimp only
    rw [qf_le (by omega) (by omega), if_pos (Nat.le_refl i)]
    rfl
  | succ d ih =>
    intro m i hi hm
    obtain ⟨m, rfl⟩ : ∃ z, m = z + 1 := ⟨m - 1, by omega⟩
    obtain ⟨h1, h2⟩ := h i (by omega)
    rw [pX11_pack_b92]
    dsimp only
    unfold pX11_pack_b121
    rw [qf_le (by omega) (by omega), if_neg (by omega), qf_out (by omega), if_neg (by omega), nI_clamp (by omega), h1, nI_1]
    have := ih m (i + 1) (by omega) (by omega)
    rw [q_sum] at this
    by_cases c : L i = 0
    · rw [c, if_pos (show nI 0 ≤ (0 : Int32) by decide), show (0 : Int32) = nI 0 from rfl, nI_add]
      rw [if_pos c] at this
      exact this
    · rw [if_neg (nI_nle (by omega) (by omega)), show (1 : Int32) = nI 1 from rfl, nI_add]
      rw [if_neg c] at this
      exact this
set_option maxRecDepth 100000 in
theorem sf_pack {Rt Rb n ch lk : Nat} {v tv : Nat → Int32} {t : Nat → Nat} (hRt : Rt ≤ 70000) (hRb : Rb ≤ 80000) (hn : n ≤ Rt) (h : q_by n v tv t) (hc1 : 1 ≤ ch) (hc64 : ch ≤ 64) (hlk : lk ≤ n - 2) (len dist fo mt ms hl fl0 ps pl : Int32) (sc dc lat ev tok dcn dso dwe dab dde sl sof sfc sfp sgv scv sbc dl dof dfc dfp dgv dcv dbc row cct cl tl tof tfc tfp tgv tcv tbc hd em ls ds of ct al pa SL DL ro ts tn LL SC DC LC mv pv : Nat → Int32)
    (hq : q_mt t lk lat ev) (hz1 : q_z sfc sfp) (hz2 : q_z dfc dfp) (hz3 : q_z tfc tfp) (hrow : q_row Rb mv ms pv ps) :
    ∃ (ans mt' xT xm xx len' dist' sL' sg' dL' xS xD xr xk xH tL' ms' hl' fl' ps' yT yk pl' fo' yS yD yH : Int32) (sc' dc' lat' ev' tok' dcn' dso' dwe' dab' dde' sl' sof' sfc' sfp' sgv' scv' sbc' dl' dof' dfc' dfp' dgv' dcv' dbc' row' cct' cl' tl' tof' tfc' tfp' tgv' tcv' tbc' hd' em' ls' ds' of' ct' al' pa' SL' DL' ro' ts' tn' LL' SC' DC' LC' mv' pv' : Nat → Int32),
      pX10_pack 286 30 Rt 4096 Rt Rt 286 286 572 572 572 286 16 16 16 16 286 286 30 16 16 16 16 30 30 316 19 316 19 16 16 16 16 19 19 Rb (nI ch) (nI n) v mt sc dc (nI lk) len dist lat ev tok dcn dso dwe dab dde sl sof sfc sfp sgv scv sbc dl dof dfc dfp dgv dcv dbc row cct cl tl tof tfc tfp tgv tcv tbc ms mv hl fl0 = some (ans, mt', xT, xm, xx, sc', dc', nI (n - 2), len', dist', lat', ev', tok', sL', sg', dcn', dso', dwe', dab', dde', sl', sof', sfc', sfp', sgv', scv', sbc', dL', dl', dof', dfc', dfp', dgv', dcv', dbc', xS, xD, xr, xk, xH, row', cct', cl', tL', tl', tof', tfc', tfp', tgv', tcv', tbc', ms', mv', hl', fl') ∧
      pX11_pack 4096 70000 70000 70000 70000 288 576 576 576 288 288 320 320 320 288 288 288 288 80000 (nI Rb) (nI ch) (nI n) tv ps mt pl fo hd em ls ds of ct al pa SL DL ro ts tn LL SC DC LC pv = some (ans, ps', mt', yT, yk, pl', fo', yS, yD, yH, hd', em', ls', ds', of', ct', al', pa', SL', DL', ro', ts', tn', LL', SC', DC', LC', pv') ∧
      q_row Rb mv' ms' pv' ps' ∧ q_z sfc' sfp' ∧ q_z dfc' dfp' ∧ q_z tfc' tfp' ∧ q_mt t (n - 2) lat' ev' := by
  obtain ⟨T, hT⟩ := q_T_ex t n ch
  obtain ⟨k, H, S, Dn, cs, cn, fl, fs, fd, sc1, dc1, lat1, ev1, tok1, dcn1, dso1, dwe1, dab1, dde1, sl1, sof1, sfc1, sfp1, sgv1, scv1, sbc1, dl1, dof1, dfc1, dfp1, dgv1, dcv1, dbc1, row1, cct1, cl1, tl1, tof1, tfc1, tfp1, tgv1, tcv1, tbc1, hd1, em1, ls1, ds1, of1, ct1, al1, pa1, SL1, DL1, ro1, ts1, tn1, LL1, SC1, DC1, LC1, len1, dist1, fo1, sL1, dL1, tL1, sg1, e1, e2, hpf, z1, z2, z3, hq'⟩ := sf_plan hRt hn h hc1 hc64 hlk hT len dist fo sc dc lat ev tok dcn dso dwe dab dde sl sof sfc sfp sgv scv sbc dl dof dfc dfp dgv dcv dbc row cct cl tl tof tfc tfp tgv tcv tbc hd em ls ds of ct al pa SL DL ro ts tn LL SC DC LC hq hz1 hz2 hz3
  have hBb := q_B3_b (by omega) hpf
  have hpf' := hpf
  obtain ⟨shape, htok, sym, dis, tel, e256, used, cell, csc, cdc, ccc, bT, bk, bH1, bH2, bS1, bS2, bD1, bD2⟩ := hpf'
  have hkb : 1 ≤ q_kb n ∧ q_kb n ≤ 2 := by unfold q_kb; omega
  have e3 := sf_tbits (T := T) (k := k) (H := H) (L := q_L t n ch) (D := q_D t n ch) (cs := cs) (fl := fl) (fs := fs) (fd := fd) (tl := tl1) (cct := cct1) (sl := sl1) (sc := sc1) (dl := dl1) (dc := dc1) shape (fun j hj => (cell j hj).1) (fun s hs => ⟨(sym s hs).1, csc s hs⟩) (fun s hs => ⟨(dis s hs).1, cdc s hs⟩) (fun s hs => ⟨(tel s hs).1, ccc s hs⟩)
  have e3' : pX5_toldBits 19 19 286 286 30 30 (nI H) tl1 cct1 (nI (q_nx t n ch T)) sl1 sc1 dl1 dc1 = some (nI (q_B3 T k H (q_L t n ch) (q_D t n ch) cs fl fs fd)) := e3
  have hwt := fun hB => sf_wtold (R := Rb) (Pn := 80000) (Rt := Rt) hRb hRb hn hRt hpf hB mv pv
  have hwk := fun hB => sf_wkept (R := Rb) (Pn := 80000) (Rt := Rt) hRb hRb hRt hn h hB mv pv
  generalize hB : q_B3 T k H (q_L t n ch) (q_D t n ch) cs fl fs fd = B at e2 e3' hBb hwt
  -- the reference: its number of kept blocks
  have eM : pX11_pack 4096 70000 70000 70000 70000 288 576 576 576 288 288 320 320 320 288 288 288 288 80000 (nI Rb) (nI ch) (nI n) tv ps mt pl fo hd em ls ds of ct al pa SL DL ro ts tn LL SC DC LC pv = pX11_pack_b34 70000 70000 70000 288 288 320 320 288 288 288 288 80000 (nI Rb) (nI n) tv ps mt (nI T) (nI k) pl fo1 (nI S) (nI Dn) (nI H) hd1 em1 ls1 ds1 of1 ct1 al1 pa1 SL1 DL1 ro1 ts1 tn1 LL1 SC1 DC1 LC1 pv (nI ((B + 7) / 8)) (nI (q_kb n)) := by
    unfold pX11_pack
    rw [e2, Option.bind_some]
    dsimp only
    rw [show (7 : Int32) = nI 7 from rfl, nI_add, q_div8 (by omega)]
    by_cases c : n = 0
    · rw [c, if_pos (show nI 0 = (0 : Int32) from rfl)]
      rfl
    · rw [if_neg (nI_ne0 (by omega) (by omega)), show (65535 : Int32) = nI 65535 from rfl, nI_add, show (1 : Int32) = nI 1 from rfl, pk_sub (by omega), show n + 65535 - 1 = n + 65534 by omega, show nI (n + 65534) / nI 65535 = nI ((n + 65534) / 65535) from pk_div (by omega) (by omega) (by omega), show (n + 65534) / 65535 = q_kb n by unfold q_kb; omega]
  have eC : pX5_packAll 286 30 Rt 4096 Rt Rt 286 286 572 572 572 286 16 16 16 16 286 286 30 16 16 16 16 30 30 316 19 316 19 16 16 16 16 19 19 Rb (nI ch) (nI n) v mt sc dc (nI lk) len dist lat ev tok dcn dso dwe dab dde sl sof sfc sfp sgv scv sbc dl dof dfc dfp dgv dcv dbc row cct cl tl tof tfc tfp tgv tcv tbc ms mv hl fl0 = (if min (n + 5 * q_kb n) ((B + 7) / 8) ≤ Rb then
      (if (B + 7) / 8 ≤ n + 5 * q_kb n then
        ((pX5_writeTold Rb 19 316 19 Rt 286 286 30 30 (nI S) (nI Dn) (nI k) (nI H) tl1 cl1 tcv1 (nI T) tok1 scv1 sl1 dcv1 dl1 0 0 0 mv).bind (fun u8 => some ((1 : Int32), nI (q_nm t n ch T), nI T, nI (q_nm t n ch T), nI (q_nx t n ch T), sc1, dc1, nI (n - 2), len1, dist1, lat1, ev1, tok1, sL1, sg1, dcn1, dso1, dwe1, dab1, dde1, sl1, sof1, sfc1, sfp1, sgv1, scv1, sbc1, dL1, dl1, dof1, dfc1, dfp1, dgv1, dcv1, dbc1, nI S, nI Dn, nI (S + Dn), nI k, nI H, row1, cct1, cl1, tL1, tl1, tof1, tfc1, tfp1, tgv1, tcv1, tbc1, u8.2.2.1, u8.2.2.2, u8.1, u8.2.1)))
      else
        ((pX5_writeKept Rb Rt (nI n) v 0 0 0 mv).bind (fun u9 => some ((1 : Int32), (0 : Int32), nI T, nI (q_nm t n ch T), nI (q_nx t n ch T), sc1, dc1, nI (n - 2), len1, dist1, lat1, ev1, tok1, sL1, sg1, dcn1, dso1, dwe1, dab1, dde1, sl1, sof1, sfc1, sfp1, sgv1, scv1, sbc1, dL1, dl1, dof1, dfc1, dfp1, dgv1, dcv1, dbc1, nI S, nI Dn, nI (S + Dn), nI k, nI H, row1, cct1, cl1, tL1, tl1, tof1, tfc1, tfp1, tgv1, tcv1, tbc1, u9.2.2.1, u9.2.2.2, u9.1, u9.2.1))))
      else some ((0 : Int32), mt, nI T, nI (q_nm t n ch T), nI (q_nx t n ch T), sc1, dc1, nI (n - 2), len1, dist1, lat1, ev1, tok1, sL1, sg1, dcn1, dso1, dwe1, dab1, dde1, sl1, sof1, sfc1, sfp1, sgv1, scv1, sbc1, dL1, dl1, dof1, dfc1, dfp1, dgv1, dcv1, dbc1, nI S, nI Dn, nI (S + Dn), nI k, nI H, row1, cct1, cl1, tL1, tl1, tof1, tfc1, tfp1, tgv1, tcv1, tbc1, ms, mv, hl, fl0)) := by
    unfold pX5_packAll
    rw [e1, Option.bind_some]
    dsimp only
    rw [e3', Option.bind_some, sf_kb (by omega), Option.bind_some]
    unfold pX6_room pX1_start pX6_clear
    rw [Option.bind_some, Option.bind_some, Option.bind_some]
    dsimp only
    rw [show (7 : Int32) = nI 7 from rfl, nI_add, q_div8 (by omega), show (5 : Int32) = nI 5 from rfl, pk_mul, nI_add, q_min6 (by omega) (by omega), qi_of, qf_le (by omega) (by omega), qf_le (by omega) (by omega)]
  rw [eM]
  unfold pX10_pack pX11_pack_b34
  rw [eC, show (5 : Int32) = nI 5 from rfl, pk_mul, nI_add, sf_min (by omega) (by omega), Option.bind_some, qf_le (by omega) (by omega), qf_le (by omega) (by omega)]
  by_cases c1 : min (n + 5 * q_kb n) ((B + 7) / 8) ≤ Rb
  · rw [if_pos c1, if_pos c1]
    by_cases c2 : (B + 7) / 8 ≤ n + 5 * q_kb n
    · rw [if_pos c2, if_pos c2]
      obtain ⟨s2, pl2, bv2, pv2, w1, w2, w3⟩ := hwt (by omega)
      have w4 := sf_mtchL (T := T) (L := q_L t n ch) (hd := hd1) (em := em1) (ls := ls1) (ds := ds1) (of := of1) (ct := ct1) (al := al1) (pa := pa1) (SL := SL1) (DL := DL1) (ro := ro1) (ts := ts1) (tn := tn1) (LL := LL1) (SC := SC1) (DC := DC1) (LC := LC1) (pv := pv2) (x := nI ((B + 7) / 8)) (yk := nI k) (pl := pl2) (fo := fo1) (yS := nI S) (yD := nI Dn) (yH := nI H) (by omega) (fun j hj => ⟨(htok j hj).2.1, by rcases shape j hj with z | z <;> omega⟩) T fb_F 0 (by omega) (by unfold fb_F; omega)
      rw [q_sum, nI_0] at w4
      rw [w1, w2, Option.bind_some, Option.bind_some, Option.bind_some, show min (n + 5 * q_kb n) ((B + 7) / 8) = (B + 7) / 8 by omega]
      dsimp only
      rw [if_neg (show ¬ (1 : Int32) = 0 by decide), w4]
      obtain ⟨kk, r1, r2, r3, r4⟩ := w3
      refine ⟨nI ((B + 7) / 8), nI (q_nm t n ch T), nI T, nI (q_nm t n ch T), nI (q_nx t n ch T), len1, dist1, sL1, sg1, dL1, nI S, nI Dn, nI (S + Dn), nI k, nI H, tL1, s2, 0, 0, nI ((B + 7) / 8), nI T, nI k, pl2, fo1, nI S, nI Dn, nI H, sc1, dc1, lat1, ev1, tok1, dcn1, dso1, dwe1, dab1, dde1, sl1, sof1, sfc1, sfp1, sgv1, scv1, sbc1, dl1, dof1, dfc1, dfp1, dgv1, dcv1, dbc1, row1, cct1, cl1, tl1, tof1, tfc1, tfp1, tgv1, tcv1, tbc1, hd1, em1, ls1, ds1, of1, ct1, al1, pa1, SL1, DL1, ro1, ts1, tn1, LL1, SC1, DC1, LC1, bv2, pv2, ?_, rfl, ⟨kk, r1, r2, r3, r4⟩, z1, z2, z3, hq'⟩
      rw [r3, ← r2]
    · rw [if_neg c2, if_neg c2]
      obtain ⟨s2, pl2, bv2, pv2, w1, w2, w3⟩ := hwk (by omega)
      rw [w1, w2, Option.bind_some, Option.bind_some, Option.bind_some, show min (n + 5 * q_kb n) ((B + 7) / 8) = n + 5 * q_kb n by omega]
      dsimp only
      rw [if_neg (show ¬ (1 : Int32) = 0 by decide)]
      unfold pX11_pack_b131
      obtain ⟨kk, r1, r2, r3, r4⟩ := w3
      refine ⟨nI (n + 5 * q_kb n), 0, nI T, nI (q_nm t n ch T), nI (q_nx t n ch T), len1, dist1, sL1, sg1, dL1, nI S, nI Dn, nI (S + Dn), nI k, nI H, tL1, s2, 0, 0, nI (n + 5 * q_kb n), nI T, nI k, pl2, fo1, nI S, nI Dn, nI H, sc1, dc1, lat1, ev1, tok1, dcn1, dso1, dwe1, dab1, dde1, sl1, sof1, sfc1, sfp1, sgv1, scv1, sbc1, dl1, dof1, dfc1, dfp1, dgv1, dcv1, dbc1, row1, cct1, cl1, tl1, tof1, tfc1, tfp1, tgv1, tcv1, tbc1, hd1, em1, ls1, ds1, of1, ct1, al1, pa1, SL1, DL1, ro1, ts1, tn1, LL1, SC1, DC1, LC1, bv2, pv2, ?_, rfl, ⟨kk, r1, r2, r3, r4⟩, z1, z2, z3, hq'⟩
      rw [r3, ← r2]
  · rw [if_neg c1, if_neg c1, Option.bind_some]
    dsimp only
    rw [if_pos rfl]
    exact ⟨-93, mt, nI T, nI (q_nm t n ch T), nI (q_nx t n ch T), len1, dist1, sL1, sg1, dL1, nI S, nI Dn, nI (S + Dn), nI k, nI H, tL1, ms, hl, fl0, ps, nI T, nI k, pl, fo1, nI S, nI Dn, nI H, sc1, dc1, lat1, ev1, tok1, dcn1, dso1, dwe1, dab1, dde1, sl1, sof1, sfc1, sfp1, sgv1, scv1, sbc1, dl1, dof1, dfc1, dfp1, dgv1, dcv1, dbc1, row1, cct1, cl1, tl1, tof1, tfc1, tfp1, tgv1, tcv1, tbc1, hd1, em1, ls1, ds1, of1, ct1, al1, pa1, SL1, DL1, ro1, ts1, tn1, LL1, SC1, DC1, LC1, mv, pv, rfl, rfl, hrow, z1, z2, z3, hq'⟩
end RQ
