/-! ### the law's loop -/
section RR
def q_inv (rt rb : Nat) (mt us lz ms tz Tz ps Mt Lz oz bi lk tk : Int32) (lat uv tx ov tm lv utfc utfp usfc usfp udfc udfp lm mv pv ev sfc sfp dfc dfp tfc tfp : Nat → Int32) : Prop :=
  Mt = mt ∧ tk = bi ∧ q_row rt uv us ov oz ∧ q_row rb lv lz lm Lz ∧ q_row rb mv ms pv ps ∧ q_z utfc utfp ∧ q_z usfc usfp ∧ q_z udfc udfp ∧ q_z sfc sfp ∧ q_z dfc dfp ∧ q_z tfc tfp ∧
  ∃ (n k : Nat) (t : Nat → Nat), n ≤ rt ∧ tz = nI n ∧ Tz = nI n ∧ q_by n tx tm t ∧ lk = nI k ∧ k ≤ n - 2 ∧ q_mt t k lat ev
theorem q_mt_mv {t t' : Nat → Nat} {k n : Nat} {lat ev : Nat → Int32} (h : q_mt t k lat ev) (hk : k ≤ n - 2) (he : ∀ j, j < n → t j = t' j) : q_mt t' k lat ev := by
  by_cases w : k = 0
  · subst w
    refine q_mt0 t' (fun x hx => ?_)
    obtain ⟨r, h1, h2, -, -⟩ := h.1 x hx
    rw [h1, show r = 0 by omega]
    rfl
  · exact q_mt_congr h (fun j hj => he j (by omega))
theorem q_grow {rt n k : Nat} {t : Nat → Nat} {tx tm tx' tm' lat ev : Nat → Int32} {tz' Tz' : Int32} (hrt : rt ≤ 70000) (hn : n ≤ rt) (hby : q_by n tx tm t) (hk : k ≤ n - 2) (hq : q_mt t k lat ev) (hm : q_more tx (nI n) tx' tz') (hr : q_row rt tx' tz' tm' Tz') :
    ∃ (n' k' : Nat) (t' : Nat → Nat), n' ≤ rt ∧ tz' = nI n' ∧ Tz' = nI n' ∧ q_by n' tx' tm' t' ∧ nI k = nI k' ∧ k' ≤ n' - 2 ∧ q_mt t' k' lat ev := by
  obtain ⟨a, b, h1, h2, h3, h4, h5⟩ := hm
  obtain ⟨n', g1, g2, g3, g4⟩ := hr
  have ea : n = a := (nI_eq (by omega) (by omega)).mp h3
  have eb : b = n' := (nI_eq (by omega) (by omega)).mp (h4.symm.trans g2)
  subst ea
  subst eb
  have hb := q_by_of g4
  refine ⟨b, k, _, g1, g2, g3, hb, rfl, by omega, q_mt_mv hq hk (fun j hj => ?_)⟩
  have h6 := hby j hj
  have h7 := hb j (by omega)
  exact yb_inj h6.1 h7.1 (by rw [← h6.2.1, ← h7.2.1, h5 j hj])
theorem q_row_sz {n : Nat} {v mv : Nat → Int32} {sz msz : Int32} (h : q_row n v sz mv msz) : sz = msz := by
  obtain ⟨k, -, h1, h2, -⟩ := h
  rw [h1, h2]
theorem q_lt3 {L i : Nat} (hL : L ≤ 1539) (hi : i ≤ 5000) : (Int32.ofNat L - (3 : Int32) < nI i) = (L < i + 3) := by
  rw [qi_of]
  by_cases w : 3 ≤ L
  · rw [show (3 : Int32) = nI 3 from rfl, pk_sub w, qi_lt (by omega) (by omega)]
    exact propext ⟨fun h => by omega, fun h => by omega⟩
  · have h3 : ∀ l, l < 3 → nI l - 3 < 0 := by decide
    exact propext ⟨fun _ => by omega, fun _ => Int32.lt_of_lt_of_le (h3 L (by omega)) (nI_pos' (by omega))⟩
set_option maxRecDepth 100000 in
set_option maxHeartbeats 8000000 in
theorem sf_law {rt rb ch L : Nat} {xs : Nat → Int32} (hrt : rt ≤ 70000) (hrb : rb ≤ 80000) (hc1 : 1 ≤ ch) (hc64 : ch ≤ 64) (hL : L ≤ 1539) :
    ∀ (d m i : Nat) {mt us lz ms tz Tz ps Mt Lz oz bi pl fo lk len dist tk uL1 uL2 uL3 hl fl0 : Int32} {lat uv tx ov tm lv utl utof utfc utfp utg utc utb urow usl usof usfc usfp usg usc usb udl udof udfc udfp udg udc udb lm SL DL SC DC LL LC ro mv pv sc dc ev tok dcn dso dwe dab dde sl sof sfc sfp sgv scv sbc dl dof dfc dfp dgv dcv dbc row cct cl tl tof tfc tfp tgv tcv tbc hd em ls ds of ct al pa ts tn : Nat → Int32}, L ≤ i + d → d < m → i ≤ 2000 →
    q_inv rt rb mt us lz ms tz Tz ps Mt Lz oz bi lk tk lat uv tx ov tm lv utfc utfp usfc usfp udfc udfp lm mv pv ev sfc sfp dfc dfp tfc tfp →
    pL_law_b48 4096 rt rt 70000 70000 rb 19 16 16 16 16 19 19 316 288 16 16 16 16 288 288 32 16 16 16 16 32 32 80000 288 288 288 288 288 288 320 rb 80000 286 30 rt rt 286 286 572 572 572 286 16 16 16 16 286 286 30 16 16 16 16 30 30 316 19 316 19 16 16 16 16 19 19 4096 70000 70000 70000 288 576 576 576 320 320 L (nI rt) (nI rb) (nI ch) (nI ch) xs m mt us lz ms tz Tz ps Mt Lz oz bi pl fo lk len dist lat uv tx ov tm tk lv uL1 utl utof utfc utfp utg utc utb urow uL2 usl usof usfc usfp usg usc usb uL3 udl udof udfc udfp udg udc udb lm SL DL SC DC LL LC ro mv pv sc dc ev tok dcn dso dwe dab dde sl sof sfc sfp sgv scv sbc dl dof dfc dfp dgv dcv dbc row cct cl tl tof tfc tfp tgv tcv tbc hl fl0 hd em ls ds of ct al pa ts tn (nI i) = some 1 := by
  intro d
  induction d with
  | zero =>
    intro m i mt us lz ms tz Tz ps Mt Lz oz bi pl fo lk len dist tk uL1 uL2 uL3 hl fl0 lat uv tx ov tm lv utl utof utfc utfp utg utc utb urow usl usof usfc usfp usg usc usb udl udof udfc udfp udg udc udb lm SL DL SC DC LL LC ro mv pv sc dc ev tok dcn dso dwe dab dde sl sof sfc sfp sgv scv sbc dl dof dfc dfp dgv dcv dbc row cct cl tl tof tfc tfp tgv tcv tbc hd em ls ds of ct al pa ts tn hi hm hi2 hinv
    obtain ⟨m, rfl⟩ : ∃ z, m = z + 1 := ⟨m - 1, by omega⟩
    rw [pL_law_b48]
    dsimp only
    rw [qf_c (q_lt3 hL (by omega)), if_pos (by omega)]
  | succ d ih =>
    intro m i mt us lz ms tz Tz ps Mt Lz oz bi pl fo lk len dist tk uL1 uL2 uL3 hl fl0 lat uv tx ov tm lv utl utof utfc utfp utg utc utb urow usl usof usfc usfp usg usc usb udl udof udfc udfp udg udc udb lm SL DL SC DC LL LC ro mv pv sc dc ev tok dcn dso dwe dab dde sl sof sfc sfp sgv scv sbc dl dof dfc dfp dgv dcv dbc row cct cl tl tof tfc tfp tgv tcv tbc hd em ls ds of ct al pa ts tn hi hm hi2 hinv
    obtain ⟨m, rfl⟩ : ∃ z, m = z + 1 := ⟨m - 1, by omega⟩
    rw [pL_law_b48]
    dsimp only
    rw [qf_c (q_lt3 hL (by omega))]
    by_cases hend : L < i + 3
    · rw [if_pos hend]
    rw [if_neg hend]
    obtain ⟨rfl, rfl, hu, hld, hm_, z1, z2, z3, z4, z5, z6, n, k, t, hn, rfl, rfl, hby, rfl, hk, hq⟩ := hinv
    have hT : q_row rt tx (nI n) tm (nI n) := ⟨n, hn, rfl, rfl, fun j hj => ⟨t j, hby j hj⟩⟩
    have hti : ∃ (n' k' : Nat) (t' : Nat → Nat), n' ≤ rt ∧ nI n = nI n' ∧ nI n = nI n' ∧ q_by n' tx tm t' ∧ nI k = nI k' ∧ k' ≤ n' - 2 ∧ q_mt t' k' lat ev := ⟨n, k, t, hn, rfl, rfl, hby, rfl, hk, hq⟩
    have hi1 : i + 1 < L := by omega
    have hi22 : i + 2 < L := by omega
    have e3 : nI i + (3 : Int32) = nI (i + 3) := by rw [show (3 : Int32) = nI 3 from rfl, nI_add]
    have e2 : nI i + (2 : Int32) = nI (i + 2) := by rw [show (2 : Int32) = nI 2 from rfl, nI_add]
    have o1 : ∀ {x y : Option Int32}, (if nI (i + 1) < 0 ∨ L ≤ i + 1 then x else y) = y := qf_o2 (by omega) hi1
    have o2 : ∀ {x y : Option Int32}, (if nI (i + 2) < 0 ∨ L ≤ i + 2 then x else y) = y := qf_o2 (by omega) hi22
    rw [qf_out (by omega), if_neg (show ¬ L ≤ i by omega), nI_clamp (show i < 2 ^ 31 by omega), nI_1, e2, e3, nI_clamp (show i + 1 < 2 ^ 31 by omega), nI_clamp (show i + 2 < 2 ^ 31 by omega)]
    by_cases c0 : xs i &&& (15 : Int32) = 0
    · rw [if_pos c0]
      obtain ⟨u, w, a1, a2, a3, a4, a5⟩ := sf_feed (N := 70000) (xs (i + 1)) (by omega) hrt hT
      rw [o1, a1, Option.bind_some, o1, a2, Option.bind_some, if_pos a3]
      exact ih m (i + 3) (by omega) (by omega) (by omega) ⟨rfl, rfl, hu, hld, hm_, z1, z2, z3, z4, z5, z6, q_grow hrt hn hby hk hq a5 a4⟩
    rw [if_neg c0]
    by_cases c1 : xs i &&& (15 : Int32) = 1
    · rw [if_pos c1]
      obtain ⟨u, w, a1, a2, a3, a4, a5⟩ := sf_again (N := 70000) (xs (i + 1)) (xs (i + 2)) (by omega) hrt (by omega) hT
      rw [o1, o2, a1, Option.bind_some, o1, o2, a2, Option.bind_some, if_pos a3]
      exact ih m (i + 3) (by omega) (by omega) (by omega) ⟨rfl, rfl, hu, hld, hm_, z1, z2, z3, z4, z5, z6, q_grow hrt hn hby hk hq a5 a4⟩
    rw [if_neg c1]
    by_cases c2 : xs i &&& (15 : Int32) = 2
    · rw [if_pos c2]
      obtain ⟨ans, mt1, xT, xm, xx, len1, dist1, sL1, sg1, dL1, xS, xD, xr, xk, xH, tL1, ms1, hl1, fl1, ps1, yT, yk, pl1, fo1, yS, yD, yH, sc1, dc1, lat1, ev1, tok1, dcn1, dso1, dwe1, dab1, dde1, sl1, sof1, sfc1, sfp1, sgv1, scv1, sbc1, dl1, dof1, dfc1, dfp1, dgv1, dcv1, dbc1, row1, cct1, cl1, tl1, tof1, tfc1, tfp1, tgv1, tcv1, tbc1, hd1, em1, ls1, ds1, of1, ct1, al1, pa1, SL1, DL1, ro1, ts1, tn1, LL1, SC1, DC1, LC1, mv1, pv1, a1, a2, a3, a4, a5, a6, a7⟩ := sf_pack hrt hrb hn hby hc1 hc64 hk len dist fo Mt ms hl fl0 ps pl sc dc lat ev tok dcn dso dwe dab dde sl sof sfc sfp sgv scv sbc dl dof dfc dfp dgv dcv dbc row cct cl tl tof tfc tfp tgv tcv tbc hd em ls ds of ct al pa SL DL ro ts tn LL SC DC LC mv pv hq z4 z5 z6 hm_
      rw [a1, Option.bind_some, a2, Option.bind_some]
      dsimp only
      rw [if_pos rfl]
      exact ih m (i + 3) (by omega) (by omega) (by omega) ⟨rfl, rfl, hu, hld, a3, z1, z2, z3, a4, a5, a6, n, n - 2, t, hn, rfl, rfl, hby, rfl, Nat.le_refl _, a7⟩
    rw [if_neg c2]
    by_cases c3 : xs i &&& (15 : Int32) = 3
    · rw [if_pos c3]
      obtain ⟨u, w, a1, a2, a3⟩ := sf_packed (N := 80000) (xs (i + 1)) hrb hrb hm_
      rw [o1, a1, Option.bind_some, o1, a2, Option.bind_some, if_pos a3]
      exact ih m (i + 3) (by omega) (by omega) (by omega) ⟨rfl, rfl, hu, hld, hm_, z1, z2, z3, z4, z5, z6, hti⟩
    rw [if_neg c3]
    by_cases c4 : xs i &&& (15 : Int32) = 4
    · rw [if_pos c4]
      obtain ⟨u, w, a1, a2, a3, a4⟩ := sf_load (N := 80000) (xs (i + 1)) hrb hrb hld
      rw [o1, a1, Option.bind_some, o1, a2, Option.bind_some, if_pos a3]
      exact ih m (i + 3) (by omega) (by omega) (by omega) ⟨rfl, rfl, hu, a4, hm_, z1, z2, z3, z4, z5, z6, hti⟩
    rw [if_neg c4]
    by_cases c5 : xs i &&& (15 : Int32) = 5
    · rw [if_pos c5]
      obtain ⟨u, w, a1, a2, a3, a4⟩ := sf_take (P := 80000) (Lo := 80000) (lv := lv) (mlv := lm) hrb hrb hrb hm_
      rw [a1, Option.bind_some, a2, Option.bind_some, if_pos a3]
      exact ih m (i + 3) (by omega) (by omega) (by omega) ⟨rfl, rfl, hu, a4, hm_, z1, z2, z3, z4, z5, z6, hti⟩
    rw [if_neg c5]
    by_cases c6 : xs i &&& (15 : Int32) = 6
    · rw [if_pos c6]
      obtain ⟨why, al1, i1, x1, x2, x3, x4, x5, x6, x7, x8, x9, x10, x11, x12, x13, x14, x15, x16, x17, x18, x19, x20, x21, x22, x23, x24, x25, us1, uv1, os1, ov1, SL1, DL1, SC1, DC1, LL1, LC1, RW1, a1, a2, a3, a4, a5, a6⟩ := sf_unpack (Z := 80000) (No := 70000) (A1 := 288) (A2 := 288) (B1 := 288) (B2 := 288) (C := 288) (D := 288) (E := 320) (rt := rt) (tL := uL1) (tl := utl) (tof := utof) (tfc := utfc) (tfp := utfp) (tg := utg) (tc := utc) (tbc := utb) (row := urow) (sL := uL2) (sl := usl) (sof := usof) (sfc := usfc) (sfp := usfp) (sg := usg) (sc := usc) (sbc := usb) (dL := uL3) (dl := udl) (dof := udof) (dfc := udfc) (dfp := udfp) (dg := udg) (dc := udc) (dbc := udb) (SL := SL) (DL := DL) (SC := SC) (DC := DC) (LL := LL) (LC := LC) (RW := ro) (uv := uv) (ov := ov) hrb hrb hld hrt (by omega) (by omega) (by omega) (by omega) (by omega) (by omega) (by omega) (by omega) (by omega) (by omega) z1 z2 z3
      rw [a1, Option.bind_some, a2, Option.bind_some]
      dsimp only
      rw [if_pos rfl]
      exact ih m (i + 3) (by omega) (by omega) (by omega) ⟨rfl, rfl, a6, hld, hm_, a3, a4, a5, z4, z5, z6, hti⟩
    rw [if_neg c6]
    by_cases c7 : xs i &&& (15 : Int32) = 7
    · rw [if_pos c7]
      obtain ⟨u, w, a1, a2, a3⟩ := sf_out (N := 70000) (xs (i + 1)) (by omega) hrt hu
      rw [o1, a1, Option.bind_some, o1, a2, Option.bind_some, if_pos a3]
      exact ih m (i + 3) (by omega) (by omega) (by omega) ⟨rfl, rfl, hu, hld, hm_, z1, z2, z3, z4, z5, z6, hti⟩
    rw [if_neg c7]
    by_cases c8 : xs i &&& (15 : Int32) = 8
    · rw [if_pos c8]
      unfold pX10_bit pX9_bitsTaken pX11_bit
      rw [Option.bind_some, Option.bind_some, Option.bind_some, if_pos rfl]
      exact ih m (i + 3) (by omega) (by omega) (by omega) ⟨rfl, rfl, hu, hld, hm_, z1, z2, z3, z4, z5, z6, hti⟩
    rw [if_neg c8]
    by_cases c9 : xs i &&& (15 : Int32) = 9
    · rw [if_pos c9]
      obtain ⟨u, w, a1, a2, a3⟩ := sf_same (N := 70000) (N' := 70000) (by omega) hrt hrt hu hT
      rw [a1, Option.bind_some, a2, Option.bind_some, if_pos a3]
      exact ih m (i + 3) (by omega) (by omega) (by omega) ⟨rfl, rfl, hu, hld, hm_, z1, z2, z3, z4, z5, z6, hti⟩
    rw [if_neg c9]
    by_cases c10 : xs i &&& (15 : Int32) = 10
    · rw [if_pos c10]
      obtain ⟨la, a1, a2, -⟩ := sf_fill (n := 4096) 0 lat (by omega)
      unfold pX10_reset pX6_clear pX5_forget pX8_forget pX4_forget pX11_reset
      rw [a1, Option.bind_some, Option.bind_some, Option.bind_some, Option.bind_some, Option.bind_some, Option.bind_some, Option.bind_some, Option.bind_some, Option.bind_some, Option.bind_some]
      dsimp only
      exact ih m (i + 3) (by omega) (by omega) (by omega) ⟨rfl, rfl, q_row0 _ _ _, q_row0 _ _ _, q_row0 _ _ _, z1, z2, z3, z4, z5, z6, 0, 0, fun _ => 0, Nat.zero_le _, rfl, rfl, fun j hj => absurd hj (Nat.not_lt_zero j), rfl, Nat.le_refl _, q_mt0 _ a2⟩
    rw [if_neg c10]
    by_cases c11 : xs i &&& (15 : Int32) = 11
    · rw [if_pos c11]
      obtain ⟨r, a1, a2⟩ := sf_count (a := nI n) (b := ms) (c := lz) (d := us) (e := Mt) (xs (i + 1))
      rw [← q_row_sz hm_, ← q_row_sz hld, ← q_row_sz hu, o1, a1, Option.bind_some, o1, a2, Option.bind_some, if_pos rfl, q_row_sz hm_, q_row_sz hld, q_row_sz hu]
      rw [q_row_sz hm_] at hm_
      rw [q_row_sz hld] at hld
      rw [q_row_sz hu] at hu
      exact ih m (i + 3) (by omega) (by omega) (by omega) ⟨rfl, rfl, hu, hld, hm_, z1, z2, z3, z4, z5, z6, hti⟩
    rw [if_neg c11]
    exact ih m (i + 3) (by omega) (by omega) (by omega) ⟨rfl, rfl, hu, hld, hm_, z1, z2, z3, z4, z5, z6, hti⟩
end RR
