/-! ### the packer's plan and the reference's prepare -/
section RN
/-- what the plan says, on both sides -/
def q_pf (t : Nat → Nat) (n ch T k H S Dn : Nat) (cs cn fl fs fd : Nat → Nat) (sc dc tok sl scv dl dcv cct cl tl tcv ls ds SL DL ts tn LL SC DC LC : Nat → Int32) : Prop :=
  (q_shape T (q_L t n ch) (q_D t n ch)) ∧
  (∀ j, j < T → tok j = nI (q_L t n ch j * 65536 + q_D t n ch j) ∧ ls j = nI (q_L t n ch j) ∧ ds j = nI (q_D t n ch j)) ∧
  (∀ s, s < 286 → sl s = nI (fs s) ∧ SL s = nI (fs s) ∧ fs s ≤ 15 ∧ (fs s ≠ 0 → scv s = SC s)) ∧
  (∀ s, s < 30 → dl s = nI (fd s) ∧ DL s = nI (fd s) ∧ fd s ≤ 15 ∧ (fd s ≠ 0 → dcv s = DC s)) ∧
  (∀ s, s < 19 → tl s = nI (fl s) ∧ LL s = nI (fl s) ∧ fl s ≤ 7 ∧ (fl s ≠ 0 → tcv s = LC s)) ∧
  (fs 256 ≠ 0) ∧
  (∀ j, j < T → fs (q_sy2 (q_L t n ch) (q_D t n ch) j) ≠ 0 ∧ (q_L t n ch j ≠ 0 → fd (q_dS (q_D t n ch j)) ≠ 0)) ∧
  (∀ j, j < k → cs j < 19 ∧ cn j < 128 ∧ cl j = nI (cn j * 256 + cs j) ∧ ts j = nI (cs j) ∧ tn j = nI (cn j) ∧ fl (cs j) ≠ 0) ∧
  (∀ s, s < 286 → sc s = nI ((if s = 256 then 1 else 0) + q_sum (fun j => if q_sy2 (q_L t n ch) (q_D t n ch) j = s then 1 else 0) T)) ∧
  (∀ s, s < 30 → dc s = nI (q_sum (fun j => if q_L t n ch j ≠ 0 ∧ q_dS (q_D t n ch j) = s then 1 else 0) T)) ∧
  (∀ s, s < 19 → cct s = nI (q_sum (fun j => if cs j = s then 1 else 0) k)) ∧
  (T ≤ n ∧ k ≤ 316 ∧ 4 ≤ H ∧ H ≤ 19 ∧ 257 ≤ S ∧ S ≤ 286 ∧ 1 ≤ Dn ∧ Dn ≤ 30)
theorem q_tpos {T j s : Nat} {p : Nat → Prop} [DecidablePred p] (hj : j < T) (hp : p j) : 0 < q_sum (fun i => if p i then 1 else 0) T := by
  have := q_sum_el (f := fun i => if p i then 1 else 0) (k := 0) (i := j) (n := T) (by omega) hj
  simp only [if_pos hp] at this
  omega
set_option maxRecDepth 100000 in
theorem sf_plan {R n ch T lk : Nat} {v tv : Nat → Int32} {t : Nat → Nat} (hR : R ≤ 70000) (hn : n ≤ R) (h : q_by n v tv t) (hc1 : 1 ≤ ch) (hc64 : ch ≤ 64) (hlk : lk ≤ n - 2) (hT : q_T t n ch T) (len dist fo : Int32) (sc dc lat ev tok dcn dso dwe dab dde sl sof sfc sfp sgv scv sbc dl dof dfc dfp dgv dcv dbc row cct cl tl tof tfc tfp tgv tcv tbc hd em ls ds of ct al pa SL DL ro ts tn LL SC DC LC : Nat → Int32)
    (hq : q_mt t lk lat ev) (hz1 : q_z sfc sfp) (hz2 : q_z dfc dfp) (hz3 : q_z tfc tfp) :
    ∃ (k H S Dn : Nat) (cs cn fl fs fd : Nat → Nat) (sc' dc' lat' ev' tok' dcn' dso' dwe' dab' dde' sl' sof' sfc' sfp' sgv' scv' sbc' dl' dof' dfc' dfp' dgv' dcv' dbc' row' cct' cl' tl' tof' tfc' tfp' tgv' tcv' tbc' hd' em' ls' ds' of' ct' al' pa' SL' DL' ro' ts' tn' LL' SC' DC' LC' : Nat → Int32) (len' dist' fo' sL' dL' tL' sg' : Int32),
      pX5_plan 286 30 R 4096 R R 286 286 572 572 572 286 16 16 16 16 286 286 30 16 16 16 16 30 30 316 19 316 19 16 16 16 16 19 19 (nI ch) (nI n) v sc dc (nI lk) len dist lat ev tok dcn dso dwe dab dde sl sof sfc sfp sgv scv sbc dl dof dfc dfp dgv dcv dbc row cct cl tl tof tfc tfp tgv tcv tbc = some (nI T, nI (q_nm t n ch T), nI (q_nx t n ch T), sc', dc', nI (n - 2), len', dist', lat', ev', tok', sL', sg', dcn', dso', dwe', dab', dde', sl', sof', sfc', sfp', sgv', scv', sbc', dL', dl', dof', dfc', dfp', dgv', dcv', dbc', nI S, nI Dn, nI (S + Dn), nI k, nI H, row', cct', cl', tL', tl', tof', tfc', tfp', tgv', tcv', tbc') ∧
      pX11_prepare 4096 70000 70000 70000 70000 288 576 576 576 288 288 320 320 320 288 288 288 288 (nI ch) (nI n) tv fo hd em ls ds of ct al pa SL DL ro ts tn LL SC DC LC = some (nI (q_B3 T k H (q_L t n ch) (q_D t n ch) cs fl fs fd), nI T, nI k, fo', nI S, nI Dn, nI H, hd', em', ls', ds', of', ct', al', pa', SL', DL', ro', ts', tn', LL', SC', DC', LC') ∧
      q_pf t n ch T k H S Dn cs cn fl fs fd sc' dc' tok' sl' scv' dl' dcv' cct' cl' tl' tcv' ls' ds' SL' DL' ts' tn' LL' SC' DC' LC' ∧ q_z sfc' sfp' ∧ q_z dfc' dfp' ∧ q_z tfc' tfp' ∧ q_mt t (n - 2) lat' ev'  := by
  have hTn := hT.1
  obtain ⟨len1, dist1, sc1, dc1, tok1, lat1, ev1, g1, ⟨g2, g3, g4⟩, g5⟩ := sf_gather (by omega) hn h hc1 hc64 hlk hq hT sc dc tok len dist
  obtain ⟨fo1, hd1, em1, ls1, ds1, t1, t2⟩ := sf_tokensM (TN := 70000) (En := 70000) (Ln := 70000) (by omega) (by omega) h (by omega) (by omega) (by omega) hc1 hc64 hT fo hd em ls ds
  have hsh : q_shape T (q_L t n ch) (q_D t n ch) := fun j hj => q_tok h (hT.2.2 j hj)
  have htk : q_tks T (q_L t n ch) (q_D t n ch) ls1 ds1 := fun j hj => ⟨t2 j hj, hsh j hj⟩
  have hns : ∀ s, s < 286 → sc1 s = nI ((if s = 256 then 1 else 0) + q_sum (fun j => if q_sy2 (q_L t n ch) (q_D t n ch) j = s then 1 else 0) T) := g2
  have hnd : ∀ s, s < 30 → dc1 s = nI (q_sum (fun j => if q_L t n ch j ≠ 0 ∧ q_dS (q_D t n ch j) = s then 1 else 0) T) := g3
  have hs1 := q_ssum hsh
  have hd1' := q_dsum hsh
  -- symbols
  obtain ⟨of1, o1, o2⟩ := sf_clear of
  obtain ⟨of2, z1, p1, p2⟩ := sf_oftS (T := T) (L := q_L t n ch) (D := q_D t n ch) (hd := hd1) (ev := em1) (ls := ls1) (ds := ds1) (ct := ct) (al := al) (pa := pa) (SL := SL) (DL := DL) (ts := ts) (tn := tn) (LL := LL) (SC := SC) (DC := DC) (LC := LC) (fo := fo1) (ro := ro) (by omega) htk T fb_F 0 (upd of1 256 1) (by omega) (by unfold fb_F; omega) (fun s hs => by
    by_cases w : s = 256
    · subst w; rw [pk_us, if_pos rfl]; rfl
    · rw [pk_un w, if_neg w, o2 s (by omega)]; rfl)
  obtain ⟨sg2, dcn2, dso2, dwe2, dab2, dde2, sl2, ct2, al2, pa2, SL2, fs, m1, m2, m3⟩ := sf_measure (N := 286) (A := 288) (lim := 15) (o := fun s => (if s = 256 then 1 else 0) + q_sum (fun j => if q_sy2 (q_L t n ch) (q_D t n ch) j = s then 1 else 0) T) (ov := sc1) (oft := of2) (cv := dcn) (sv := dso) (wv := dwe) (av := dab) (dv := dde) (a3 := sl) (cvM := ct) (al := al) (pa := pa) (to := SL) (by omega) (by omega) (by omega) (by decide) (by omega) (by omega) hns p1 (by rw [hs1]; omega)
  obtain ⟨sL3, sof3, sfc3, sfp3, sgv3, scv3, sbc3, a1, a2⟩ := sf_assign (N := 286) (lv := sl2) (of := sof) (fcv := sfc) (fpv := sfp) (gv := sgv) (cv := scv) (bc := sbc) (f := fs) (by omega) (fun s hs => ⟨(m3 s hs).1, (m3 s hs).2.2.1⟩) hz1.1 hz1.2
  -- distances
  obtain ⟨of3, o3, o4⟩ := sf_clear of2
  obtain ⟨of4, z2, p3, p4⟩ := sf_oftD (T := T) (L := q_L t n ch) (D := q_D t n ch) (hd := hd1) (ev := em1) (ls := ls1) (ds := ds1) (ct := ct2) (al := al2) (pa := pa2) (SL := SL2) (DL := DL) (ts := ts) (tn := tn) (LL := LL) (SC := SC) (DC := DC) (LC := LC) (fo := fo1) (ro := ro) (by omega) htk T fb_F 0 of3 (by omega) (by unfold fb_F; omega) (fun s hs => by rw [o4 s (by omega)]; rfl)
  obtain ⟨sg4, dcn4, dso4, dwe4, dab4, dde4, dl4, ct4, al4, pa4, DL4, fd, m4, m5, m6⟩ := sf_measure (N := 30) (A := 288) (lim := 15) (o := fun s => q_sum (fun j => if q_L t n ch j ≠ 0 ∧ q_dS (q_D t n ch j) = s then 1 else 0) T) (ov := dc1) (oft := of4) (cv := dcn2) (sv := dso2) (wv := dwe2) (av := dab2) (dv := dde2) (a3 := dl) (cvM := ct2) (al := al2) (pa := pa2) (to := DL) (by omega) (by omega) (by omega) (by decide) (by omega) (by omega) hnd p3 (by omega)
  obtain ⟨dL5, dof5, dfc5, dfp5, dgv5, dcv5, dbc5, a3, a4⟩ := sf_assign (N := 30) (lv := dl4) (of := dof) (fcv := dfc) (fpv := dfp) (gv := dgv) (cv := dcv) (bc := dbc) (f := fd) (by omega) (fun s hs => ⟨(m6 s hs).1, (m6 s hs).2.2.1⟩) hz2.1 hz2.2
  have h256 : fs 256 ≠ 0 := by
    have := (m3 256 (by omega)).2.2.2.2 (by dsimp only; rw [if_pos rfl]; omega)
    omega
  -- the telling
  obtain ⟨k, H, S, Dn, cs, cn, fl, row6, cct6, cl6, tl6, tof6, tfc6, tfp6, tgv6, tcv6, tbc6, dcn6, dso6, dwe6, dab6, dde6, of6, ct6, al6, pa6, ro6, ts6, tn6, LL6, tL6, sg6, x1, x2, x3, x4, x5, x6, x7, x8, x9, x10⟩ := sf_tplan (T := T) (fs := fs) (fd := fd) (sl := sl2) (dl := dl4) (SL := SL2) (DL := DL4) (fun s hs => ⟨(m3 s hs).1, (m3 s hs).2.1, (m3 s hs).2.2.1⟩) (fun s hs => ⟨(m6 s hs).1, (m6 s hs).2.1, (m6 s hs).2.2.1⟩) h256
    row cct cl tl tof tfc tfp tgv tcv tbc dcn4 dso4 dwe4 dab4 dde4 hd1 em1 ls1 ds1 of4 ct4 al4 pa4 ro ts tn LL SC DC LC fo1 hz3
  have hS1 := q_la_ge h256 286 (by omega)
  have hS2 := q_la_le fs 286
  have hD2 := q_la_le fd 30
  have hH := q_hh_b fl 19 (by omega)
  rw [← x4] at hH
  rw [← x1] at hS1 hS2
  -- the codes
  obtain ⟨SC7, f1, f2⟩ := sf_find (n := 286) (A := 288) (B := 288) (ov := SL2) (to := SC) (f := fs) (by omega) (by omega) (by omega) (fun s hs => ⟨(m3 s hs).2.1, (m3 s hs).2.2.1⟩)
  obtain ⟨DC7, f3, f4⟩ := sf_find (n := 30) (A := 288) (B := 288) (ov := DL4) (to := DC) (f := fd) (by omega) (by omega) (by omega) (fun s hs => ⟨(m6 s hs).2.1, (m6 s hs).2.2.1⟩)
  obtain ⟨LC7, f5, f6⟩ := sf_find (n := 19) (A := 288) (B := 288) (ov := LL6) (to := LC) (f := fl) (by omega) (by omega) (by omega) (fun s hs => ⟨(x7 s hs).2.1, by have := (x7 s hs).2.2; omega⟩)
  refine ⟨k, H, S, Dn, cs, cn, fl, fs, fd, sc1, dc1, lat1, ev1, tok1, dcn6, dso6, dwe6, dab6, dde6, sl2, sof3, sfc3, sfp3, sgv3, scv3, sbc3, dl4, dof5, dfc5, dfp5, dgv5, dcv5, dbc5, row6, cct6, cl6, tl6, tof6, tfc6, tfp6, tgv6, tcv6, tbc6, hd1, em1, ls1, ds1, of6, ct6, al6, pa6, SL2, DL4, ro6, ts6, tn6, LL6, SC7, DC7, LC7, len1, dist1, fo1, sL3, dL5, tL6, sg6, ?_, ?_, ?_, q_codes_z a2, q_codes_z a4, q_codes_z x8, g5⟩
  · unfold pX5_plan
    rw [g1, Option.bind_some]
    dsimp only
    rw [show (15 : Int32) = nI 15 from rfl, m1, Option.bind_some]
    dsimp only
    rw [a1, Option.bind_some, m4, Option.bind_some]
    dsimp only
    rw [a3, Option.bind_some, x9, Option.bind_some]
  · unfold pX11_prepare
    rw [t1, Option.bind_some, o1, Option.bind_some, show (256 : Int32) = nI 256 from rfl, qf_out (by omega), if_neg (by omega), nI_clamp (by omega)]
    dsimp only
    rw [nI_0] at p2 p4
    rw [p2, pX11_prepare_b19]
    dsimp only
    rw [qf_le (by omega) (by omega), if_pos (Nat.le_refl T), show (286 : Int32) = nI 286 from rfl, show (15 : Int32) = nI 15 from rfl, m2, Option.bind_some, o3, Option.bind_some]
    dsimp only
    rw [p4, pX11_prepare_b92]
    dsimp only
    have l1 := sf_lastM (An := 288) (av := SL2) (f := fs) (by omega) 285 fb_F (by omega) (by unfold fb_F; omega) (fun s hs => ⟨(m3 s (by omega)).2.1, (m3 s (by omega)).2.2.1⟩)
    have l2 := sf_lastM (An := 288) (av := DL4) (f := fd) (by omega) 29 fb_F (by omega) (by unfold fb_F; omega) (fun s hs => ⟨(m6 s (by omega)).2.1, (m6 s (by omega)).2.2.1⟩)
    rw [qf_le (by omega) (by omega), if_pos (Nat.le_refl T), show (30 : Int32) = nI 30 from rfl, show (15 : Int32) = nI 15 from rfl, m5, Option.bind_some]
    dsimp only
    unfold pX11_lastOf
    rw [show (286 : Int32) - 1 = nI 285 from rfl, l1, Option.bind_some, show nI 30 - (1 : Int32) = nI 29 from rfl, l2, Option.bind_some, nI_1, nI_1, show max (q_la fs (285 + 1)) 1 - 1 + 1 = S by rw [x1]; show max (q_la fs 286) 1 - 1 + 1 = q_la fs 286; omega, show max (q_la fd (29 + 1)) 1 - 1 + 1 = Dn by rw [x2]; show max (q_la fd 30) 1 - 1 + 1 = max 1 (q_la fd 30); omega, x10]
    unfold pX11_prepare_b341
    rw [show (286 : Int32) = nI 286 from rfl, f1, Option.bind_some, show (30 : Int32) = nI 30 from rfl, f3, Option.bind_some, show (19 : Int32) = nI 19 from rfl, f5, Option.bind_some, show (256 : Int32) = nI 256 from rfl, qf_out (by omega), if_neg (by omega), nI_clamp (by omega), (m3 256 (by omega)).2.1, show (17 : Int32) = nI 17 from rfl, show (3 : Int32) = nI 3 from rfl, pk_mul, nI_add, nI_add]
    have s1 := sf_sumC (T := T) (hd := hd1) (ev := em1) (ls := ls1) (ds := ds1) (ct := ct6) (al := al6) (pa := pa6) (SL := SL2) (DL := DL4) (ts := ts6) (tn := tn6) (LL := LL6) (SC := SC7) (DC := DC7) (LC := LC7) (fo := fo1) (of := of6) (ro := ro6) (k := k) (cs := cs) (f := fl) (x := nI S) (y := nI Dn) (z := nI H) (b0 := 17 + 3 * H + fs 256) (by omega) (fun j hj => ⟨(x5 j hj).2.2.2.1, (x5 j hj).1⟩) (fun s hs => ⟨(x7 s hs).2.1, by have := (x7 s hs).2.2; omega⟩) k fb_F 0 (by omega) (by unfold fb_F; omega)
    rw [q_sum, Nat.add_zero, nI_0] at s1
    have s2 := sf_sumT (T := T) (L := q_L t n ch) (D := q_D t n ch) (hd := hd1) (ev := em1) (ls := ls1) (ds := ds1) (ct := ct6) (al := al6) (pa := pa6) (SL := SL2) (DL := DL4) (ts := ts6) (tn := tn6) (LL := LL6) (SC := SC7) (DC := DC7) (LC := LC7) (fo := fo1) (of := of6) (ro := ro6) (x := nI S) (y := nI Dn) (z := nI H) (w := nI k) (b0 := 17 + 3 * H + fs 256 + q_sum (fun j => fl (cs j) + q_nb (cs j)) k) (fs := fs) (fd := fd) (by omega) htk (fun s hs => (m3 s hs).2.1) (fun s hs => (m6 s hs).2.1) T fb_F 0 (by omega) (by unfold fb_F; omega)
    rw [q_sum, Nat.add_zero, nI_0] at s2
    rw [s1, s2]
    rfl
  · refine ⟨hsh, fun j hj => ⟨g4 j hj, t2 j hj⟩, fun s hs => ⟨(m3 s hs).1, (m3 s hs).2.1, (m3 s hs).2.2.1, fun w => ?_⟩, fun s hs => ⟨(m6 s hs).1, (m6 s hs).2.1, (m6 s hs).2.2.1, fun w => ?_⟩, fun s hs => ⟨(x7 s hs).1, (x7 s hs).2.1, (x7 s hs).2.2, fun w => ?_⟩, h256, fun j hj => ⟨?_, fun w => ?_⟩, x5, hns, hnd, x6, by omega⟩
    · rw [(a2.2.2 s hs w).1, f2 s hs w]
    · rw [(a4.2.2 s hs w).1, f4 s hs w]
    · rw [(x8.2.2 s hs w).1, f6 s hs w]
    · have := (m3 _ (q_shape_s hsh hj).1).2.2.2.2 (by
        have := q_tpos (T := T) (j := j) (s := 0) (p := fun i => q_sy2 (q_L t n ch) (q_D t n ch) i = q_sy2 (q_L t n ch) (q_D t n ch) j) hj rfl
        dsimp only
        omega)
      omega
    · have hd30 : q_dS (q_D t n ch j) < 30 := by
        rcases hsh j hj with ⟨c1, c2⟩ | ⟨c1, c2, c3, c4⟩
        · exact absurd c1 w
        · exact (sf_dS c3 c4).2.2.1
      have := (m6 _ hd30).2.2.2.2 (q_tpos (T := T) (j := j) (s := 0) (p := fun i => q_L t n ch i ≠ 0 ∧ q_dS (q_D t n ch i) = q_dS (q_D t n ch j)) hj ⟨w, rfl⟩)
      omega
end RN
