/-! ### the telling's plan -/
section RL
theorem q_back (d : Nat) : nI d - 1 + 1 = nI d := by grind
theorem q_max2 {e c : Nat} (he : e < 2 ^ 31) (hc : c < 2 ^ 31) : (if nI c < nI e then nI e else nI c) = nI (max c e) := by
  rw [qf_lt hc he]
  by_cases w : c < e
  · rw [if_pos w, show max c e = e by omega]
  · rw [if_neg w, show max c e = c by omega]
theorem sf_hhC {f : Nat → Nat} {a b c e L sg : Int32} {row ct cl lv ofl fc fp gv cv bc dc so dw da dd : Nat → Int32} (hf : ∀ s, s < 19 → lv s = nI (f s) ∧ f s ≤ 15) : ∀ (d m : Nat), d ≤ 19 → 4 ≤ d → d < m →
    pX7_plan_b114 19 m a b c e (nI d) row ct cl L lv ofl fc fp gv cv bc sg dc so dw da dd = some (a, b, c, e, nI (q_hh f d), row, ct, cl, L, lv, ofl, fc, fp, gv, cv, bc, sg, dc, so, dw, da, dd) := by
  intro d
  induction d with
  | zero => intro m h1 h2; omega
  | succ d ih =>
    intro m h1 h2 hm
    obtain ⟨m, rfl⟩ : ∃ z, m = z + 1 := ⟨m - 1, by omega⟩
    rw [pX7_plan_b114]
    dsimp only
    rw [show (4 : Int32) = nI 4 from rfl, qf_le (by omega) (by omega), q_hh]
    by_cases w : d + 1 ≤ 4
    · rw [if_pos w, if_pos w]
    · obtain ⟨o1, o2⟩ := q_fo_b d (by omega)
      obtain ⟨f1, f2⟩ := hf _ o2
      rw [if_neg w, if_neg w, nI_pred, qf_out (by omega), if_neg (by omega), nI_clamp (by omega), o1, qf_out (by omega), if_neg (by omega), nI_clamp (by omega), f1]
      by_cases c : f (q_fo d) = 0
      · rw [c, if_pos (show nI 0 = (0 : Int32) from rfl), if_pos rfl]
        exact ih m (by omega) (by omega) (by omega)
      · rw [if_neg (nI_ne0 (by omega) (by omega)), if_neg c]
theorem sf_gcells {Rm n : Nat} {rc rm : Nat → Int32} {w : Nat → Nat} (hn : n ≤ 316) (hc : ∀ k, k < n → rc k = nI (w k) ∧ w k ≤ 15) (hm : ∀ k, k < n → rm k = nI (w k) ∧ w k ≤ 15) (ct cl ts tn : Nat → Int32) :
    ∃ (k' : Nat) (cl' ct' ts' tn' : Nat → Int32) (cs' cn' : Nat → Nat), k' ≤ n ∧ q_ce k' cl' ct' ts' tn' cs' cn' ∧
      pX7_gatherCells 19 316 316 (nI n) rc ct cl = some (nI k', ct', cl') ∧ pX11_tellRow 320 320 320 rm (nI n) ts tn = some (nI k', ts', tn') := by
  unfold pX7_gatherCells pX11_tellRow
  obtain ⟨ct1, a1, a2, -⟩ := sf_fill (n := 19) 0 ct (by omega)
  obtain ⟨k', cl', ct', ts', tn', cs', cn', b1, b2, b3, b4⟩ := sf_rowL (Rc := 316) (Rm := 320) (Cn := 316) (Tn := 320) (n := n) (rc := rc) (rm := rm) (w := w) hn (by omega) (by omega) (by omega) hn (by omega) (by omega) (by omega) hc hm n fb_F fb_F 0 0 0 cl ct1 ts tn (fun _ => 0) (fun _ => 0) (by omega) (by unfold fb_F; omega) (by unfold fb_F; omega) (by omega) (by omega)
    ⟨fun j hj => absurd hj (Nat.not_lt_zero j), fun s hs => by rw [a2 s hs]; rfl⟩
  rw [nI_0] at b3 b4
  exact ⟨k', cl', ct', ts', tn', cs', cn', b1, b2, by rw [a1, Option.bind_some]; exact b3, b4⟩
def q_ro (S : Nat) (fs fd : Nat → Nat) (j : Nat) : Nat := if j < S then fs j else fd (j - S)
theorem q_cesum {N k : Nat} {cs : Nat → Nat} (h : ∀ j, j < k → cs j < N) : q_sum (fun s => q_sum (fun j => if cs j = s then 1 else 0) k) N = k := by
  have e := q_exch (N := N) (f := fun _ => 1) (sy := cs) k h
  rw [q_sum_congr N (g := fun s => q_sum (fun j => if cs j = s then 1 else 0) k) (fun s _ => by rw [Nat.mul_one])] at e
  rw [e]
  clear e h
  induction k with
  | zero => rfl
  | succ k ih => rw [q_sum, ih]
theorem q_count_pos {k j : Nat} {cs : Nat → Nat} (hj : j < k) : 0 < q_sum (fun i => if cs i = cs j then 1 else 0) k := by
  have := q_sum_el (f := fun i => if cs i = cs j then 1 else 0) (k := 0) (i := j) (n := k) (by omega) hj
  simp only [if_true] at this
  omega
set_option maxRecDepth 100000 in
theorem sf_tplan {T : Nat} {fs fd : Nat → Nat} {sl dl SL DL : Nat → Int32} (hs : ∀ s, s < 286 → sl s = nI (fs s) ∧ SL s = nI (fs s) ∧ fs s ≤ 15) (hdd : ∀ s, s < 30 → dl s = nI (fd s) ∧ DL s = nI (fd s) ∧ fd s ≤ 15) (h256 : fs 256 ≠ 0)
    (row cct cl lv ofl fc fp gv cv bc dc so dw da de hd ev ls ds of ct al pa ro ts tn LL SC DC LC : Nat → Int32) (fo : Int32) (hz : q_z fc fp) :
    ∃ (k H S Dn : Nat) (cs cn fl : Nat → Nat) (row' cct' cl' lv' ofl' fc' fp' gv' cv' bc' dc' so' dw' da' de' of' ct' al' pa' ro' ts' tn' LL' : Nat → Int32) (L' sg' : Int32),
      S = q_la fs 286 ∧ Dn = max 1 (q_la fd 30) ∧ k ≤ 316 ∧ H = q_hh fl 19 ∧
      (∀ j, j < k → cs j < 19 ∧ cn j < 128 ∧ cl' j = nI (cn j * 256 + cs j) ∧ ts' j = nI (cs j) ∧ tn' j = nI (cn j) ∧ fl (cs j) ≠ 0) ∧
      (∀ s, s < 19 → cct' s = nI (q_sum (fun j => if cs j = s then 1 else 0) k)) ∧
      (∀ s, s < 19 → lv' s = nI (fl s) ∧ LL' s = nI (fl s) ∧ fl s ≤ 7) ∧ q_codes 19 fl L' ofl' fc' fp' cv' bc' ∧
      pX7_plan 316 19 316 19 16 16 16 16 19 19 286 30 286 286 572 572 572 sl dl row cct cl lv ofl fc fp gv cv bc dc so dw da de =
        some (nI S, nI Dn, nI (S + Dn), nI k, nI H, row', cct', cl', L', lv', ofl', fc', fp', gv', cv', bc', sg', dc', so', dw', da', de') ∧
      pX11_prepare_b178 70000 70000 288 576 576 576 288 288 320 320 320 288 288 288 288 fb_F (nI T) fo (nI S) (nI Dn) hd ev ls ds of ct al pa SL DL ro ts tn LL SC DC LC 0 = pX11_prepare_b341 70000 70000 288 288 320 288 288 288 288 (nI T) (nI k) fo (nI S) (nI Dn) (nI H) hd ev ls ds of' ct' al' pa' SL DL ro' ts' tn' LL' SC DC LC := by
  have hS1 := q_la_ge h256 286 (by omega)
  have hS2 := q_la_le fs 286
  have hD2 := q_la_le fd 30
  generalize hS : q_la fs 286 = S at hS1 hS2
  generalize hDn : max 1 (q_la fd 30) = Dn
  have hDn1 : 1 ≤ Dn ∧ Dn ≤ 30 := by omega
  -- the rows
  obtain ⟨ro1, z1, r1, r2⟩ := sf_rowS (T := T) (hd := hd) (ev := ev) (ls := ls) (ds := ds) (ct := ct) (al := al) (pa := pa) (SL := SL) (DL := DL) (ts := ts) (tn := tn) (LL := LL) (SC := SC) (DC := DC) (LC := LC) (fo := fo) (of := of) (S := S) (x := nI Dn) hS2 S fb_F 0 ro (by omega) (by unfold fb_F; omega) (fun j hj => absurd hj (Nat.not_lt_zero j))
  obtain ⟨ro2, z2, q1, q2, q3⟩ := sf_rowD (T := T) (hd := hd) (ev := ev) (ls := ls) (ds := ds) (ct := ct) (al := al) (pa := pa) (SL := SL) (DL := DL) (ts := ts) (tn := tn) (LL := LL) (SC := SC) (DC := DC) (LC := LC) (fo := fo) (of := of) (S := S) (Dn := Dn) hS2 hDn1.2 Dn fb_F 0 ro1 (by omega) (by unfold fb_F; omega) r1 (fun j hj => absurd hj (Nat.not_lt_zero j))
  have hrc : ∀ j, j < S + Dn → va_cpy dl (va_cpy sl row 0 0 S) 0 S Dn j = nI (q_ro S fs fd j) ∧ q_ro S fs fd j ≤ 15 := by
    intro j hj
    unfold q_ro
    by_cases w : j < S
    · rw [if_pos w, pk_cpy_out (by omega), pk_cpy_in (by omega) (by omega), show 0 + (j - 0) = j by omega]
      exact ⟨(hs j (by omega)).1, (hs j (by omega)).2.2⟩
    · rw [if_neg w, pk_cpy_in (by omega) (by omega), show 0 + (j - S) = j - S by omega]
      exact ⟨(hdd _ (by omega)).1, (hdd _ (by omega)).2.2⟩
  have hrm : ∀ j, j < S + Dn → ro2 j = nI (q_ro S fs fd j) ∧ q_ro S fs fd j ≤ 15 := by
    intro j hj
    unfold q_ro
    by_cases w : j < S
    · rw [if_pos w, q1 j w]
      exact ⟨(hs j (by omega)).2.1, (hs j (by omega)).2.2⟩
    · rw [if_neg w]
      have := q2 (j - S) (by omega)
      rw [show S + (j - S) = j by omega] at this
      rw [this]
      exact ⟨(hdd _ (by omega)).2.1, (hdd _ (by omega)).2.2⟩
  obtain ⟨k, cl1, cct1, ts1, tn1, cs, cn, c1, ⟨c2, c3⟩, c4, c5⟩ := sf_gcells (Rm := 320) (n := S + Dn) (by omega) hrc hrm cct cl ts tn
  obtain ⟨of1, o1, o2⟩ := sf_clear of
  obtain ⟨of2, z3, p1, p2⟩ := sf_oftC (T := T) (hd := hd) (ev := ev) (ls := ls) (ds := ds) (ct := ct) (al := al) (pa := pa) (SL := SL) (DL := DL) (ts := ts1) (tn := tn1) (LL := LL) (SC := SC) (DC := DC) (LC := LC) (fo := fo) (ro := ro2) (k := k) (cs := cs) (x := nI S) (y := nI Dn) (by omega) (fun j hj => ⟨(c2 j hj).2.2.2.1, (c2 j hj).1⟩) k fb_F 0 of1 (by omega) (by unfold fb_F; omega) (fun s hs => by rw [o2 s (by omega)]; rfl)
  obtain ⟨sg, dc1, so1, dw1, da1, de1, lv1, ct1, al1, pa1, LL1, fl, m1, m2, m3⟩ := sf_measure (N := 19) (A := 288) (lim := 7) (o := fun s => q_sum (fun j => if cs j = s then 1 else 0) k) (ov := cct1) (oft := of2) (cv := dc) (sv := so) (wv := dw) (av := da) (dv := de) (a3 := lv) (cvM := ct) (al := al) (pa := pa) (to := LL) (by omega) (by omega) (by omega) (by decide) (by omega) (by omega) c3 p1 (by rw [q_cesum (fun j hj => (c2 j hj).1)]; omega)
  have hfl : ∀ s, s < 19 → lv1 s = nI (fl s) ∧ LL1 s = nI (fl s) ∧ fl s ≤ 7 := fun s hs => ⟨(m3 s hs).1, (m3 s hs).2.1, (m3 s hs).2.2.1⟩
  obtain ⟨L1, ofl1, fc1, fp1, gv1, cv1, bc1, g1, g2⟩ := sf_assign (N := 19) (lv := lv1) (of := ofl) (fcv := fc) (fpv := fp) (gv := gv) (cv := cv) (bc := bc) (f := fl) (by omega) (fun s hs => ⟨(hfl s hs).1, by have := (hfl s hs).2.2; omega⟩) hz.1 hz.2
  refine ⟨k, q_hh fl 19, S, Dn, cs, cn, fl, va_cpy dl (va_cpy sl row 0 0 S) 0 S Dn, cct1, cl1, lv1, ofl1, fc1, fp1, gv1, cv1, bc1, dc1, so1, dw1, da1, de1, of2, ct1, al1, pa1, ro2, ts1, tn1, LL1, L1, sg, rfl, rfl, by omega, rfl, fun j hj => ?_, c3, hfl, g2, ?_, ?_⟩
  · obtain ⟨x1, x2, x3, x4, x5⟩ := c2 j hj
    refine ⟨x1, x2, x3, x4, x5, ?_⟩
    have := (m3 (cs j) x1).2.2.2.2 (q_count_pos hj)
    omega
  · unfold pX7_plan pX2_lastCoded
    have l1 := sf_lastC (Ln := 286) (lv := sl) (f := fs) (by omega) 286 fb_F (by omega) (by unfold fb_F; omega) (fun s hs' => ⟨(hs s hs').1, (hs s hs').2.2⟩)
    have l2 := sf_lastC (Ln := 30) (lv := dl) (f := fd) (by omega) 30 fb_F (by omega) (by unfold fb_F; omega) (fun s hs' => ⟨(hdd s hs').1, (hdd s hs').2.2⟩)
    rw [hS] at l1
    rw [qi_of, qi_of, l1, l2, Option.bind_some, Option.bind_some, q_back, q_back, show (257 : Int32) = nI 257 from rfl, q_max2 (by omega) (by omega), show max 257 S = S by omega]
    have e1 : (if (1 : Int32) < nI (q_la fd 30) then nI (q_la fd 30) else (1 : Int32)) = nI Dn := by
      rw [← hDn]
      exact q_max2 (c := 1) (by omega) (by omega)
    rw [e1, show ((0 : Int32)).toNatClampNeg = 0 from rfl, nI_clamp (show S < 2 ^ 31 by omega), nI_clamp (show Dn < 2 ^ 31 by omega), if_pos ⟨by decide, by decide, nI_pos (by omega), by omega, by omega⟩, if_pos ⟨by decide, nI_pos (by omega), nI_pos (by omega), by omega, by omega⟩, nI_add, c4, Option.bind_some]
    dsimp only
    rw [show (7 : Int32) = nI 7 from rfl, m1, Option.bind_some]
    dsimp only
    rw [g1, Option.bind_some]
    dsimp only
    exact sf_hhC (fun s hs => ⟨(hfl s hs).1, by have := (hfl s hs).2.2; omega⟩) 19 fb_F (by omega) (by omega) (by unfold fb_F; omega)
  · rw [nI_0] at r2 q3 p2
    rw [r2, pX11_prepare_b178]
    dsimp only
    rw [qf_le (by omega) (by omega), if_pos (by omega), q3, pX11_prepare_b206]
    dsimp only
    rw [qf_le (by omega) (by omega), if_pos (by omega), nI_add, c5, Option.bind_some, o1, Option.bind_some]
    dsimp only
    rw [p2, pX11_prepare_b256]
    dsimp only
    rw [qf_le (by omega) (by omega), if_pos (by omega), show (19 : Int32) = nI 19 from rfl, show (7 : Int32) = nI 7 from rfl, m2, Option.bind_some]
    dsimp only
    exact sf_hhM (k := k) (fun s hs => ⟨(hfl s hs).2.1, by have := (hfl s hs).2.2; omega⟩) 19 fb_F (by omega) (by omega) (by unfold fb_F; omega)
end RL
