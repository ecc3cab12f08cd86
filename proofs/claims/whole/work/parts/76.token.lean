/-! ### writing a token -/
section RC
variable {R Pn : Nat}
theorem sf_wmatch {L D n : Nat} {fs fd : Nat → Nat} {scv slv dcv dlv SC SL DC DL : Nat → Int32} {held filled sz place : Int32} {bv pv : Nat → Int32} {A1 A2 B1 B2 Ln i : Nat} {ls ds : Nat → Int32} (hR : R ≤ 80000) (hP : R ≤ Pn) (hB1 : 286 ≤ B1) (hA1 : 286 ≤ A1) (hB2 : 30 ≤ B2) (hA2 : 30 ≤ A2) (hi : i < Ln) (hi2 : i < 80000) (hls : ls i = nI L) (hds : ds i = nI D)
    (h1 : 3 ≤ L) (h2 : L ≤ 258) (h3 : 1 ≤ D) (h4 : D ≤ 32768) (hs : ∀ s, s < 286 → slv s = nI (fs s) ∧ SL s = nI (fs s) ∧ fs s ≤ 15) (hd : ∀ s, s < 30 → dlv s = nI (fd s) ∧ DL s = nI (fd s) ∧ fd s ≤ 15)
    (hcs : scv (257 + q_lS L) = SC (257 + q_lS L)) (hcd : dcv (q_dS D) = DC (q_dS D)) (hn : n + (fs (257 + q_lS L) + q_lb (q_lS L) + fd (q_dS D) + q_db (q_dS D)) ≤ 8 * R) (h : q_bo n held filled sz bv place pv) :
    ∃ h' f' s' bv' pl' pv', pX5_writeMatch R 286 286 30 30 scv slv dcv dlv (nI L) (nI D) held filled sz bv = some (h', f', s', bv') ∧ pX11_writeToken Ln Ln B1 A1 Pn B2 A2 ls ds SC SL DC DL (nI i) place pv = some (pl', pv') ∧ q_bo (n + (fs (257 + q_lS L) + q_lb (q_lS L) + fd (q_dS D) + q_db (q_dS D))) h' f' s' bv' pl' pv' := by
  obtain ⟨l1, l2, l3, l4, l5⟩ := sf_lS h1 h2
  obtain ⟨d1, d2, d3, d4, d5⟩ := sf_dS h3 h4
  have hlb := (q_lbb _ l3)
  have hdb := (q_dbb _ d3)
  obtain ⟨s1, s2, s3⟩ := hs (257 + q_lS L) (by omega)
  obtain ⟨t1, t2, t3⟩ := hd (q_dS D) d3
  obtain ⟨a1, a2, a3, a4, a5, a6, a7, a8, a9⟩ := sf_codeP (Pn := Pn) (cn := 286) (ln := 286) (cv := scv) (lv := slv) (x := SC (257 + q_lS L)) hR hP (show 257 + q_lS L < 286 by omega) (by omega) (by omega) hcs s1 (by omega) (by omega) h
  obtain ⟨b1, b2, b3, b4, b5, b6, b7, b8, b9⟩ := sf_numP (Pn := Pn) (x1 := nI (L - q_lf (q_lS L))) (y1 := nI (L - q_lf (q_lS L))) (cnt := q_lb (q_lS L)) hR hP (by omega) (fun i _ => q_bits _ i) (by omega) a9
  obtain ⟨c1, c2, c3, c4, c5, c6, c7, c8, c9⟩ := sf_codeP (Pn := Pn) (cn := 30) (ln := 30) (cv := dcv) (lv := dlv) (x := DC (q_dS D)) hR hP d3 d3 (by omega) hcd t1 (by omega) (by omega) b9
  obtain ⟨e1, e2, e3, e4, e5, e6, e7, e8, e9⟩ := sf_numP (Pn := Pn) (x1 := nI (D - q_df (q_dS D))) (y1 := nI (D - q_df (q_dS D))) (cnt := q_db (q_dS D)) hR hP (by omega) (fun i _ => q_bits _ i) (by omega) c9
  refine ⟨e1, e2, e3, e4, e5, e6, ?_, ?_, by rw [show n + (fs (257 + q_lS L) + q_lb (q_lS L) + fd (q_dS D) + q_db (q_dS D)) = n + fs (257 + q_lS L) + q_lb (q_lS L) + fd (q_dS D) + q_db (q_dS D) by omega]; exact e9⟩
  · unfold pX5_writeMatch
    rw [l1, Option.bind_some, show (257 : Int32) = nI 257 from rfl, nI_add, a7, Option.bind_some, q_lf1 _ l3, Option.bind_some, q_lb1 _ l3, Option.bind_some]
    dsimp only
    rw [pk_sub l4, b7, Option.bind_some, d1, Option.bind_some]
    dsimp only
    rw [c7, Option.bind_some, q_df1 _ d3, Option.bind_some, q_db1 _ d3, Option.bind_some]
    dsimp only
    rw [pk_sub d4, e7, Option.bind_some]
  · unfold pX11_writeToken
    rw [qf_out (by omega), if_neg (by omega), nI_clamp (by omega), hls, hds, if_neg (nI_ne0 (by omega) (by omega)), qf_o2 (by omega) hi, l2, Option.bind_some, qf_o2 (by omega) hi, d2, Option.bind_some, show (257 : Int32) = nI 257 from rfl, nI_add, qf_out (by omega), if_neg (by omega), qf_out (by omega), if_neg (by omega), nI_clamp (by omega), s2, a8, Option.bind_some, qf_o2 (by omega) hi, q_lf2 _ l3, Option.bind_some, q_lb2 _ l3, Option.bind_some]
    dsimp only
    rw [pk_sub l4, b8, Option.bind_some, qf_out (by omega), if_neg (by omega), qf_out (by omega), if_neg (by omega), nI_clamp (by omega), t2]
    dsimp only
    rw [c8, Option.bind_some, qf_o2 (by omega) hi, q_df2 _ d3, Option.bind_some, q_db2 _ d3, Option.bind_some]
    dsimp only
    rw [pk_sub d4, e8, Option.bind_some]
end RC
