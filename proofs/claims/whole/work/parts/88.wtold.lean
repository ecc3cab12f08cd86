/-! ### writing the told block -/
section RO
variable {R Pn : Nat}
theorem sf_wlenL {T k H : Nat} {fl : Nat → Nat} {tl cl tcv LL ts LC tn ls ds SC SL DC DL : Nat → Int32} (hR : R ≤ 80000) (hP : R ≤ Pn) (hH : H ≤ 19) (hf : ∀ s, s < 19 → tl s = nI (fl s) ∧ LL s = nI (fl s)) :
    ∀ (d m m' i n : Nat) (held filled sz place : Int32) (bv pv : Nat → Int32), H = i + d → d < m → d < m' → n + 3 * d ≤ 8 * R → q_bo n held filled sz bv place pv →
    ∃ (held' filled' sz' place' : Int32) (bv' pv' : Nat → Int32), q_bo (n + 3 * d) held' filled' sz' bv' place' pv' ∧
      pX7_write_b37 19 316 19 R (nI k) (nI H) tl cl tcv m held filled sz bv (nI i) = pX7_write_b71 19 316 19 R (nI k) tl cl tcv fb_F held' filled' sz' bv' 0 ∧
      pX11_writeCodes_b49 Pn 288 320 288 320 70000 70000 288 288 288 288 (nI T) (nI k) (nI H) LL ts LC tn ls ds SC SL DC DL m' place pv (nI i) = pX11_writeCodes_b79 Pn 288 320 288 320 70000 70000 288 288 288 288 (nI T) (nI k) LL ts LC tn ls ds SC SL DC DL fb_F place' pv' 0 := by
  intro d
  induction d with
  | zero =>
    intro m m' i n held filled sz place bv pv hi hm hm' hn h
    obtain ⟨m, rfl⟩ : ∃ z, m = z + 1 := ⟨m - 1, by omega⟩
    obtain ⟨m', rfl⟩ : ∃ z, m' = z + 1 := ⟨m' - 1, by omega⟩
    rw [pX7_write_b37, pX11_writeCodes_b49]
    dsimp only
    rw [qf_le (by omega) (by omega), if_pos (by omega), qf_le (by omega) (by omega), if_pos (by omega)]
    exact ⟨held, filled, sz, place, bv, pv, h, rfl, rfl⟩
  | succ d ih =>
    intro m m' i n held filled sz place bv pv hi hm hm' hn h
    obtain ⟨m, rfl⟩ : ∃ z, m = z + 1 := ⟨m - 1, by omega⟩
    obtain ⟨m', rfl⟩ : ∃ z, m' = z + 1 := ⟨m' - 1, by omega⟩
    obtain ⟨o1, o2⟩ := q_fo_b i (by omega)
    obtain ⟨f1, f2⟩ := hf _ o2
    obtain ⟨a1, a2, a3, a4, a5, a6, a7, a8, a9⟩ := sf_numP (Pn := Pn) (x1 := nI (fl (q_fo i))) (y1 := nI (fl (q_fo i))) (cnt := 3) hR hP (by omega) (fun j _ => q_bits _ j) (by omega) h
    have hC : pX7_write_b37 19 316 19 R (nI k) (nI H) tl cl tcv (m + 1) held filled sz bv (nI i) = pX7_write_b37 19 316 19 R (nI k) (nI H) tl cl tcv m a1 a2 a3 a4 (nI (i + 1)) := by
      rw [pX7_write_b37]
      dsimp only
      rw [qf_le (by omega) (by omega), if_neg (by omega), qf_out (by omega), if_neg (by omega), nI_clamp (by omega), o1, qf_out (by omega), if_neg (by omega), nI_clamp (by omega), f1, show (3 : Int32) = nI 3 from rfl, a7, Option.bind_some, nI_1]
    have hM : pX11_writeCodes_b49 Pn 288 320 288 320 70000 70000 288 288 288 288 (nI T) (nI k) (nI H) LL ts LC tn ls ds SC SL DC DL (m' + 1) place pv (nI i) = pX11_writeCodes_b49 Pn 288 320 288 320 70000 70000 288 288 288 288 (nI T) (nI k) (nI H) LL ts LC tn ls ds SC SL DC DL m' a5 a6 (nI (i + 1)) := by
      rw [pX11_writeCodes_b49]
      dsimp only
      rw [qf_le (by omega) (by omega), if_neg (by omega), q_ordM i (by omega), Option.bind_some, o1, qf_out (by omega), if_neg (by omega), nI_clamp (by omega), f2, show (3 : Int32) = nI 3 from rfl, a8, Option.bind_some, nI_1]
    rw [hC, hM]
    obtain ⟨b1, b2, b3, b4, b5, b6, b7, b8, b9⟩ := ih m m' (i + 1) (n + 3) a1 a2 a3 a5 a4 a6 (by omega) (by omega) (by omega) (by omega) a9
    exact ⟨b1, b2, b3, b4, b5, b6, by rw [show n + 3 * (d + 1) = n + 3 + 3 * d by omega]; exact b7, b8, b9⟩
theorem sf_wcellL {T k : Nat} {cs cn fl : Nat → Nat} {tl cl tcv LL ts LC tn ls ds SC SL DC DL : Nat → Int32} (hR : R ≤ 80000) (hP : R ≤ Pn) (hk : k ≤ 316) (hf : ∀ s, s < 19 → tl s = nI (fl s) ∧ LL s = nI (fl s) ∧ fl s ≤ 7 ∧ (fl s ≠ 0 → tcv s = LC s))
    (hc : ∀ j, j < k → cs j < 19 ∧ cn j < 128 ∧ cl j = nI (cn j * 256 + cs j) ∧ ts j = nI (cs j) ∧ tn j = nI (cn j) ∧ fl (cs j) ≠ 0) {E : Nat} :
    ∀ (d m m' i n : Nat) (held filled sz place : Int32) (bv pv : Nat → Int32), k = i + d → d < m → d < m' → n + q_sum (fun j => fl (cs j) + q_nb (cs j)) k + E ≤ 8 * R + q_sum (fun j => fl (cs j) + q_nb (cs j)) i → q_bo n held filled sz bv place pv →
    ∃ (n' : Nat) (held' filled' sz' place' : Int32) (bv' pv' : Nat → Int32), n' + q_sum (fun j => fl (cs j) + q_nb (cs j)) i = n + q_sum (fun j => fl (cs j) + q_nb (cs j)) k ∧ q_bo n' held' filled' sz' bv' place' pv' ∧
      pX7_write_b71 19 316 19 R (nI k) tl cl tcv m held filled sz bv (nI i) = some (held', filled', sz', bv') ∧
      pX11_writeCodes_b79 Pn 288 320 288 320 70000 70000 288 288 288 288 (nI T) (nI k) LL ts LC tn ls ds SC SL DC DL m' place pv (nI i) = pX11_writeCodes_b140 Pn 70000 70000 288 288 288 288 (nI T) ls ds SC SL DC DL fb_F place' pv' 0 := by
  intro d
  induction d with
  | zero =>
    intro m m' i n held filled sz place bv pv hi hm hm' hn h
    obtain ⟨m, rfl⟩ : ∃ z, m = z + 1 := ⟨m - 1, by omega⟩
    obtain ⟨m', rfl⟩ : ∃ z, m' = z + 1 := ⟨m' - 1, by omega⟩
    rw [pX7_write_b71, pX11_writeCodes_b79]
    dsimp only
    rw [qf_le (by omega) (by omega), if_pos (by omega), qf_le (by omega) (by omega), if_pos (by omega)]
    have e : i = k := by omega
    subst e
    exact ⟨n, held, filled, sz, place, bv, pv, rfl, h, rfl, rfl⟩
  | succ d ih =>
    intro m m' i n held filled sz place bv pv hi hm hm' hn h
    obtain ⟨m, rfl⟩ : ∃ z, m = z + 1 := ⟨m - 1, by omega⟩
    obtain ⟨m', rfl⟩ : ∃ z, m' = z + 1 := ⟨m' - 1, by omega⟩
    obtain ⟨c1, c2, c3, c4, c5, c6⟩ := hc i (by omega)
    obtain ⟨f1, f2, f3, f4⟩ := hf _ c1
    have hnb := q_nbb _ c1
    have hsum : q_sum (fun j => fl (cs j) + q_nb (cs j)) (i + 1) = q_sum (fun j => fl (cs j) + q_nb (cs j)) i + (fl (cs i) + q_nb (cs i)) := rfl
    have hmono := q_sum_le (f := fun j => fl (cs j) + q_nb (cs j)) (k := i + 1) k (by omega)
    obtain ⟨a1, a2, a3, a4, a5, a6, a7, a8, a9⟩ := sf_codeP (Pn := Pn) (cn := 19) (ln := 19) (cv := tcv) (lv := tl) (x := LC (cs i)) hR hP c1 c1 (by omega) (f4 c6) f1 (by omega) (by omega) h
    obtain ⟨b1, b2, b3, b4, b5, b6, b7, b8, b9⟩ := sf_numP (Pn := Pn) (x1 := nI (cn i)) (y1 := nI (cn i)) (cnt := q_nb (cs i)) hR hP (by omega) (fun j _ => q_bits _ j) (by omega) a9
    have e1 : nI (cn i * 256 + cs i) &&& (255 : Int32) = nI (cs i) := by
      rw [pk_andN (by omega) 8 (by decide)]; congr 1; omega
    have e2 : nI (cn i * 256 + cs i) >>> ((8 : Int32) &&& 31) = nI (cn i) := by
      rw [pk_shrN (by omega) ((8 : Int32) &&& 31) 8 (by decide)]; congr 1; omega
    have hC : pX7_write_b71 19 316 19 R (nI k) tl cl tcv (m + 1) held filled sz bv (nI i) = pX7_write_b71 19 316 19 R (nI k) tl cl tcv m b1 b2 b3 b4 (nI (i + 1)) := by
      rw [pX7_write_b71]
      dsimp only
      rw [qf_le (by omega) (by omega), if_neg (by omega), qf_out (by omega), if_neg (by omega), nI_clamp (by omega), c3, e1, e2, a7, Option.bind_some, qf_o2 (by omega) (by omega), q_nb1 _ c1, q_nb2 _ c1, Option.bind_some]
      dsimp only
      rw [b7, Option.bind_some, nI_1]
    have hM : pX11_writeCodes_b79 Pn 288 320 288 320 70000 70000 288 288 288 288 (nI T) (nI k) LL ts LC tn ls ds SC SL DC DL (m' + 1) place pv (nI i) = pX11_writeCodes_b79 Pn 288 320 288 320 70000 70000 288 288 288 288 (nI T) (nI k) LL ts LC tn ls ds SC SL DC DL m' b5 b6 (nI (i + 1)) := by
      rw [pX11_writeCodes_b79]
      dsimp only
      rw [qf_le (by omega) (by omega), if_neg (by omega), qf_out (by omega), if_neg (by omega), nI_clamp (by omega), c4, qf_out (by omega), if_neg (by omega), qf_o2 (by omega) (by omega), qf_out (by omega), if_neg (by omega), nI_clamp (by omega), f2, a8, Option.bind_some, qf_o2 (by omega) (by omega), qf_o2 (by omega) (by omega), q_nb2 _ c1, Option.bind_some, c5]
      dsimp only
      rw [b8, Option.bind_some, nI_1]
    rw [hC, hM]
    obtain ⟨n', d1, d2, d3, d4, d5, d6, d7, d8, d9, d10⟩ := ih m m' (i + 1) (n + fl (cs i) + q_nb (cs i)) b1 b2 b3 b5 b4 b6 (by omega) (by omega) (by omega) (by omega) b9
    exact ⟨n', d1, d2, d3, d4, d5, d6, by omega, d8, d9, d10⟩
set_option maxRecDepth 100000 in
theorem sf_wtold {t : Nat → Nat} {n ch T k H S Dn Rt : Nat} {cs cn fl fs fd : Nat → Nat} {sc dc tok sl scv dl dcv cct cl tl tcv ls ds SL DL ts tn LL SC DC LC : Nat → Int32} (hR : R ≤ 80000) (hP : R ≤ Pn) (hn : n ≤ Rt) (hRt : Rt ≤ 70000)
    (hpf : q_pf t n ch T k H S Dn cs cn fl fs fd sc dc tok sl scv dl dcv cct cl tl tcv ls ds SL DL ts tn LL SC DC LC) (hB : q_B3 T k H (q_L t n ch) (q_D t n ch) cs fl fs fd ≤ 8 * R) (bv pv : Nat → Int32) :
    ∃ (s' pl' : Int32) (bv' pv' : Nat → Int32), pX5_writeTold R 19 316 19 Rt 286 286 30 30 (nI S) (nI Dn) (nI k) (nI H) tl cl tcv (nI T) tok scv sl dcv dl 0 0 0 bv = some (0, 0, s', bv') ∧
      pX11_writeCodes Pn 288 320 288 320 70000 70000 288 288 288 288 (nI T) (nI k) (nI S) (nI Dn) (nI H) LL ts LC tn ls ds SC SL DC DL 0 pv = some (pl', pv') ∧ q_row R bv' s' pv' (nI ((q_B3 T k H (q_L t n ch) (q_D t n ch) cs fl fs fd + 7) / 8)) := by
  obtain ⟨shape, htok, sym, dis, tel, e256, used, cell, csc, cdc, ccc, bT, bk, bH1, bH2, bS1, bS2, bD1, bD2⟩ := hpf
  have hBd : q_B3 T k H (q_L t n ch) (q_D t n ch) cs fl fs fd = 17 + 3 * H + fs 256 + q_sum (fun j => fl (cs j) + q_nb (cs j)) k + q_sum (q_tb (q_L t n ch) (q_D t n ch) fs fd) T := rfl
  generalize hBB : q_B3 T k H (q_L t n ch) (q_D t n ch) cs fl fs fd = B at hB hBd ⊢
  obtain ⟨a1, a2, a3, a4, a5, a6, a7, a8, a9⟩ := sf_numP (Pn := Pn) (x1 := 1) (y1 := 1) (cnt := 1) hR hP (by omega) (fun j _ => q_bits _ j) (by omega) (q_bo0 bv pv)
  obtain ⟨b1, b2, b3, b4, b5, b6, b7, b8, b9⟩ := sf_numP (Pn := Pn) (x1 := 2) (y1 := 2) (cnt := 2) hR hP (by omega) (fun j _ => q_bits _ j) (by omega) a9
  obtain ⟨c1, c2, c3, c4, c5, c6, c7, c8, c9⟩ := sf_numP (Pn := Pn) (x1 := nI S - 257) (y1 := nI S - 257) (cnt := 5) hR hP (by omega) (fun j _ => q_bits _ j) (by omega) b9
  obtain ⟨d1, d2, d3, d4, d5, d6, d7, d8, d9⟩ := sf_numP (Pn := Pn) (x1 := nI Dn - 1) (y1 := nI Dn - 1) (cnt := 5) hR hP (by omega) (fun j _ => q_bits _ j) (by omega) c9
  obtain ⟨f1, f2, f3, f4, f5, f6, f7, f8, f9⟩ := sf_numP (Pn := Pn) (x1 := nI H - 4) (y1 := nI H - 4) (cnt := 4) hR hP (by omega) (fun j _ => q_bits _ j) (by omega) d9
  obtain ⟨g1, g2, g3, g4, g5, g6, g7, g8, g9⟩ := sf_wlenL (T := T) (k := k) (H := H) (fl := fl) (tl := tl) (cl := cl) (tcv := tcv) (LL := LL) (ts := ts) (LC := LC) (tn := tn) (ls := ls) (ds := ds) (SC := SC) (SL := SL) (DC := DC) (DL := DL) hR hP bH2 (fun s hs => ⟨(tel s hs).1, (tel s hs).2.1⟩) H fb_F fb_F 0 _ f1 f2 f3 f5 f4 f6 (by omega) (by unfold fb_F; omega) (by unfold fb_F; omega) (by omega) f9
  obtain ⟨n1, i1, i2, i3, i4, i5, i6, i7, i8, i9, i10⟩ := sf_wcellL (T := T) (k := k) (cs := cs) (cn := cn) (fl := fl) (tl := tl) (cl := cl) (tcv := tcv) (LL := LL) (ts := ts) (LC := LC) (tn := tn) (ls := ls) (ds := ds) (SC := SC) (SL := SL) (DC := DC) (DL := DL) (E := 0) hR hP bk tel cell k fb_F fb_F 0 _ g1 g2 g3 g4 g5 g6 (by omega) (by unfold fb_F; omega) (by unfold fb_F; omega) (by rw [q_sum]; omega) g7
  rw [q_sum] at i7
  have hz := sf_wtokL (Pn := Pn) (T := T) (Tn := Rt) (Ln := 70000) (A1 := 288) (A2 := 288) (B1 := 288) (B2 := 288) (L := q_L t n ch) (D := q_D t n ch) (fs := fs) (fd := fd) (tok := tok) (ls := ls) (ds := ds) (scv := scv) (slv := sl) (dcv := dcv) (dlv := dl) (SC := SC) (SL := SL) (DC := DC) (DL := DL) hR hP (by omega) (by omega) (by omega) (by omega) (by omega) (by omega) (by omega)
    (fun j hj => ⟨(htok j hj).1, (htok j hj).2.1, (htok j hj).2.2, shape j hj⟩) (fun s hs => ⟨(sym s hs).1, (sym s hs).2.1, (sym s hs).2.2.1⟩) (fun s hs => ⟨(dis s hs).1, (dis s hs).2.1, (dis s hs).2.2.1⟩)
    (fun j hj w => by
      have h1 := (used j hj).1
      have h2 := (q_shape_s shape hj).1
      unfold q_sy2 at h1 h2
      rw [if_pos w] at h1 h2
      exact (sym _ h2).2.2.2 h1)
    (fun j hj w => by
      have h1 := (used j hj).1
      have h2 := (q_shape_s shape hj).1
      unfold q_sy2 at h1 h2
      rw [if_neg w] at h1 h2
      have hd30 : q_dS (q_D t n ch j) < 30 := by
        rcases shape j hj with ⟨c1, c2⟩ | ⟨c1, c2, c3, c4⟩
        · exact absurd c1 w
        · exact (sf_dS c3 c4).2.2.1
      exact ⟨(sym _ h2).2.2.2 h1, (dis _ hd30).2.2.2 ((used j hj).2 w)⟩) (E := fs 256) T fb_F fb_F 0 n1 i1 i2 i3 i4 i5 i6 (by omega) (by unfold fb_F; omega) (by unfold fb_F; omega) (by rw [q_sum]; omega) i8
  obtain ⟨m1, m1', n2, j1, j2, j3, j4, j5, j6, j7, j8, j9, j10⟩ := hz
  rw [q_sum] at j9
  obtain ⟨s1, s2, s3, s4⟩ := sym 256 (by omega)
  obtain ⟨k1, k2, k3, k4, k5, k6, k7, k8, k9⟩ := sf_codeP (Pn := Pn) (cn := 286) (ln := 286) (cv := scv) (lv := sl) (x := SC 256) hR hP (show 256 < 286 by omega) (by omega) (by omega) (s4 e256) s1 (by omega) (by omega) j10
  obtain ⟨l1, l2, l3, l4⟩ := sf_wholeT hR (show n2 + fs 256 ≤ 8 * R by omega) k9
  refine ⟨l1, k5, l2, k6, ?_, ?_, ?_⟩
  · unfold pX5_writeTold pX7_write
    rw [← qi_1] at a7
    rw [show (2 : Int32) = nI 2 from rfl] at b7
    rw [nI_0] at g8 i9 j7
    rw [a7, Option.bind_some]
    dsimp only
    rw [show (2 : Int32) = nI 2 from rfl, b7, Option.bind_some]
    dsimp only
    rw [show (5 : Int32) = nI 5 from rfl, c7, Option.bind_some]
    dsimp only
    rw [d7, Option.bind_some]
    dsimp only
    rw [show pX1_number R (nI H - 4) (4 : Int32) d1 d2 d3 d4 = pX1_number R (nI H - 4) (nI 4) d1 d2 d3 d4 from rfl, f7, Option.bind_some]
    dsimp only
    rw [g8, i9, Option.bind_some]
    dsimp only
    rw [j7, pX5_writeTold_b31]
    dsimp only
    rw [qf_le (by omega) (by omega), if_pos (Nat.le_refl T), show (256 : Int32) = nI 256 from rfl, k7, Option.bind_some]
    dsimp only
    rw [l3, Option.bind_some]
  · unfold pX11_writeCodes
    rw [← qi_1] at a8
    rw [show (2 : Int32) = nI 2 from rfl] at b8
    rw [nI_0] at g9 i10 j8
    rw [a8, Option.bind_some]
    dsimp only
    rw [show (2 : Int32) = nI 2 from rfl, b8, Option.bind_some]
    dsimp only
    rw [show (5 : Int32) = nI 5 from rfl, c8, Option.bind_some]
    dsimp only
    rw [d8, Option.bind_some]
    dsimp only
    rw [show pX11_put Pn (nI H - 4) (4 : Int32) d5 d6 = pX11_put Pn (nI H - 4) (nI 4) d5 d6 from rfl, f8, Option.bind_some]
    dsimp only
    rw [g9, i10, j8, pX11_writeCodes_b140]
    dsimp only
    rw [qf_le (by omega) (by omega), if_pos (Nat.le_refl T), show (256 : Int32) = nI 256 from rfl, qf_out (by omega), if_neg (by omega), qf_out (by omega), if_neg (by omega), nI_clamp (by omega), s2, k8, Option.bind_some]
  · rw [show B = n2 + fs 256 by omega]
    exact l4
end RO
