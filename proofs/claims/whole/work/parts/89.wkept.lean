/-! ### writing kept blocks -/
section RP
variable {R Pn : Nat}
theorem q_shB (x : Int32) {i : Nat} (hi : i < 16) : (x >>> (nI i &&& 31)).toBitVec = x.toBitVec.sshiftRight i := by
  rw [Int32.toBitVec_shiftRight]
  show x.toBitVec.sshiftRight (((nI i &&& 31).toBitVec.smod 32).toNat) = _
  rw [q_sh i hi]
theorem q_one1 : ∀ j, j < 32 → j ≠ 0 → (1#32).getLsbD j = false := by decide
theorem q_eqbit {x y : Int32} {i : Nat} (hi : i < 16) (h : x.toBitVec.getLsbD i = y.toBitVec.getLsbD i) : ((x >>> (nI i &&& 31)) &&& (1 : Int32)) = ((y >>> (nI i &&& 31)) &&& (1 : Int32)) := by
  apply Int32.toBitVec_inj.mp
  rw [Int32.toBitVec_and, Int32.toBitVec_and, q_shB x hi, q_shB y hi]
  apply BitVec.eq_of_getLsbD_eq
  intro j hj
  rw [BitVec.getLsbD_and, BitVec.getLsbD_and]
  by_cases w : j = 0
  · subst w
    rw [BitVec.getLsbD_sshiftRight, BitVec.getLsbD_sshiftRight, if_pos (by omega), if_pos (by omega), Nat.add_zero, h]
  · rw [show (1 : Int32).toBitVec.getLsbD j = false from q_one1 j hj w, Bool.and_false, Bool.and_false]
theorem q_m1bit : ∀ i, i < 16 → (-1 : Int32).toBitVec.getLsbD i = true := by decide
theorem q_cmpl {a i : Nat} (ha : a < 65536) (hi : i < 16) : ∃ b, b < 2 ∧ (((nI a ^^^ (-1 : Int32)) >>> (nI i &&& 31)) &&& (1 : Int32)) = nI b ∧ ((((65535 : Int32) - nI a) >>> (nI i &&& 31)) &&& (1 : Int32)) = nI b := by
  obtain ⟨b, b1, b2, -⟩ := q_bits (nI a ^^^ (-1 : Int32)) i
  refine ⟨b, b1, b2, ?_⟩
  rw [← b2]
  refine q_eqbit hi ?_
  rw [show (65535 : Int32) = nI 65535 from rfl, pk_sub (by omega), Int32.toBitVec_xor, BitVec.getLsbD_xor, q_m1bit i hi]
  have e1 : (nI (65535 - a)).toBitVec.getLsbD i = (65535 - a).testBit i := by
    show (nI (65535 - a)).toBitVec.toNat.testBit i = _
    rw [pk_tn (by omega)]
  have e2 : (nI a).toBitVec.getLsbD i = a.testBit i := by
    show (nI a).toBitVec.toNat.testBit i = _
    rw [pk_tn (by omega)]
  rw [e1, e2, show 65535 - a = 2 ^ 16 - (a + 1) by omega, Nat.testBit_two_pow_sub_succ (by omega)]
  simp only [hi, decide_true, Bool.true_and, Bool.xor_true]
theorem q_md {t i : Nat} : t % 2 ^ (i + 1) = t % 2 ^ i + t / 2 ^ i % 2 * 2 ^ i := by
  rw [Nat.mod_pow_succ, Nat.mul_comm]
theorem sf_put8L {t p : Nat} (ht : t < 256) (hp : p < Pn) (hp2 : p < 80000) : ∀ (d m i : Nat) (pv : Nat → Int32), 8 = i + d → d < m → (i ≠ 0 → pv p = nI (t % 2 ^ i)) →
    ∃ pv', pX11_put_b2 Pn (nI t) (nI 8) m (nI (8 * p + i)) pv (nI i) = some (nI (8 * p + 8), pv') ∧ (1 ≤ d ∨ i ≠ 0 → pv' p = nI t) ∧ ∀ j, j ≠ p → pv' j = pv j := by
  intro d
  induction d with
  | zero =>
    intro m i pv hi hm h
    obtain ⟨m, rfl⟩ : ∃ z, m = z + 1 := ⟨m - 1, by omega⟩
    rw [pX11_put_b2]
    dsimp only
    rw [qf_le (by omega) (by omega), if_pos (by omega), show 8 * p + i = 8 * p + 8 by omega]
    refine ⟨pv, rfl, fun _ => ?_, fun _ _ => rfl⟩
    rw [h (by omega), show i = 8 by omega, Nat.mod_eq_of_lt (by omega)]
  | succ d ih =>
    intro m i pv hi hm h
    obtain ⟨m, rfl⟩ : ∃ z, m = z + 1 := ⟨m - 1, by omega⟩
    have hdiv : nI (8 * p + i) / 8 = nI p := by
      rw [q_div8 (by omega)]; congr 1; omega
    have hrem : nI (8 * p + i) - nI p * 8 = nI i := by
      rw [← hdiv, q_rem8 (by omega)]; congr 1; omega
    have hb2 : t / 2 ^ i % 2 < 2 := Nat.mod_lt _ (by omega)
    have hlt : t % 2 ^ i < 2 ^ i := Nat.mod_lt _ (Nat.two_pow_pos i)
    rw [pX11_put_b2]
    dsimp only
    unfold pX11_put_b30
    rw [qf_le (by omega) (by omega), if_neg (by omega), bt_m t ht i (by omega), hdiv, hrem, nI_clamp (by omega), qf_o2 (by omega) hp, qf_o2 (by omega) hp, qf_o2 (by omega) hp, qf_o2 (by omega) hp, qf_o2 (by omega) hp, q_shN _ hb2 i (by omega), nI_1, nI_1]
    by_cases c : i = 0
    · subst c
      rw [if_pos (show nI 0 = (0 : Int32) from rfl), pk_us]
      obtain ⟨pv', e1, e2, e3⟩ := ih m 1 (upd (upd pv p 0) p ((0 : Int32) ||| nI (t / 2 ^ 0 % 2 * 2 ^ 0))) (by omega) (by omega) (fun _ => by
        rw [pk_us, show (0 : Int32) = nI 0 from rfl, nx_or, Nat.zero_or]
        congr 1
        omega)
      exact ⟨pv', e1, fun _ => e2 (Or.inr (by omega)), fun j hj => by rw [e3 j hj, pk_un hj, pk_un hj]⟩
    · rw [if_neg (nI_ne0 (by omega) (by omega)), h c, q_orN hlt, ← q_md]
      obtain ⟨pv', e1, e2, e3⟩ := ih m (i + 1) (upd pv p (nI (t % 2 ^ (i + 1)))) (by omega) (by omega) (fun _ => pk_us)
      exact ⟨pv', e1, fun _ => e2 (Or.inr (by omega)), fun j hj => by rw [e3 j hj, pk_un hj]⟩
theorem sf_put8 {t p : Nat} (ht : t < 256) (hp : p < Pn) (hp2 : p < 80000) (pv : Nat → Int32) : ∃ pv', pX11_put Pn (nI t) 8 (nI (8 * p)) pv = some (nI (8 * (p + 1)), pv') ∧ pv' p = nI t ∧ ∀ j, j ≠ p → pv' j = pv j := by
  unfold pX11_put
  obtain ⟨pv', e1, e2, e3⟩ := sf_put8L ht hp hp2 8 fb_F 0 pv (by omega) (by unfold fb_F; omega) (fun w => absurd rfl w)
  rw [nI_0, Nat.add_zero] at e1
  exact ⟨pv', by rw [show (8 : Int32) = nI 8 from rfl, e1]; rfl, e2 (Or.inl (by omega)), e3⟩
variable {Rt n : Nat} {v tv : Nat → Int32} {t : Nat → Nat}
theorem sf_kbytesL (hR : R ≤ 80000) (hP : R ≤ Pn) (hRt : Rt ≤ 70000) (hn : n ≤ Rt) (h : q_by n v tv t) {st ln : Nat} (hst : st + ln ≤ n) {x1 x2 y2 : Int32} (K : Int32 → Int32 → Int32 → (Nat → Int32) → Int32 → Int32 → Option (Int32 × Int32 × Int32 × (Nat → Int32))) (K' : Int32 → (Nat → Int32) → Int32 → Int32 → Option (Int32 × (Nat → Int32))) :
    ∀ (d m m' j p : Nat) (bv pv : Nat → Int32), ln = j + d → d < m → d < m' → p + d ≤ R → (∀ j, j < p → ∃ t : Nat, t < 256 ∧ bv j = yb t ∧ pv j = nI t) →
    ∃ (bv' pv' : Nat → Int32), (∀ j, j < p + d → ∃ t : Nat, t < 256 ∧ bv' j = yb t ∧ pv' j = nI t) ∧
      pX5_writeKept_b96 R Rt (nI n) v K m 0 0 (nI p) bv x1 x2 (nI st) (nI ln) (nI j) = K 0 0 (nI (p + d)) bv' x1 (x2 + 1) ∧
      pX11_writeKept_b82 Pn 70000 tv K' m' (nI (8 * p)) pv (nI st) y2 (nI ln) (nI j) = K' (nI (8 * (p + d))) pv' (nI (st + ln)) y2 := by
  intro d
  induction d with
  | zero =>
    intro m m' j p bv pv hj hm hm' hp hq
    obtain ⟨m, rfl⟩ : ∃ z, m = z + 1 := ⟨m - 1, by omega⟩
    obtain ⟨m', rfl⟩ : ∃ z, m' = z + 1 := ⟨m' - 1, by omega⟩
    rw [pX5_writeKept_b96, pX11_writeKept_b82]
    dsimp only
    rw [qf_le (by omega) (by omega), if_pos (by omega), qf_le (by omega) (by omega), if_pos (by omega), nI_add]
    exact ⟨bv, pv, hq, rfl, rfl⟩
  | succ d ih =>
    intro m m' j p bv pv hj hm hm' hp hq
    obtain ⟨m, rfl⟩ : ∃ z, m = z + 1 := ⟨m - 1, by omega⟩
    obtain ⟨m', rfl⟩ : ∃ z, m' = z + 1 := ⟨m' - 1, by omega⟩
    obtain ⟨t1, t2, t3⟩ := h (st + j) (by omega)
    obtain ⟨pv1, e1, e2, e3⟩ := sf_put8 (Pn := Pn) (p := p) t1 (by omega) (by omega) pv
    rw [pX5_writeKept_b96, pX11_writeKept_b82]
    dsimp only
    rw [qf_le (by omega) (by omega), if_neg (by omega), qf_le (by omega) (by omega), if_neg (by omega), nI_add, sf_gett (by omega) hn h (show st + j < n by omega), Option.bind_some, sf_add _ _ hR (by omega), if_pos (by omega), Option.bind_some, qf_out (by omega), if_neg (by omega), nI_clamp (by omega), t3, e1, Option.bind_some, nI_1]
    dsimp only
    obtain ⟨bv', pv', a1, a2, a3⟩ := ih m m' (j + 1) (p + 1) (upd bv p (yb (t (st + j)))) pv1 (by omega) (by omega) (by omega) (by omega) (fun i hi => by
      by_cases w : i = p
      · subst w; exact ⟨_, t1, pk_us, e2⟩
      · rw [pk_un w, e3 i w]; exact hq i (by omega))
    rw [show p + 1 + d = p + (d + 1) by omega] at a1 a2 a3
    exact ⟨bv', pv', a1, a2, a3⟩
theorem sf_kblock (hR : R ≤ 80000) (hP : R ≤ Pn) (hRt : Rt ≤ 70000) (hn : n ≤ Rt) (h : q_by n v tv t) {st ln lb : Nat} (hst : st + ln ≤ n) (hln : ln ≤ 65535) {x1 x2 y2 : Int32} (K : Int32 → Int32 → Int32 → (Nat → Int32) → Int32 → Int32 → Option (Int32 × Int32 × Int32 × (Nat → Int32))) (K' : Int32 → (Nat → Int32) → Int32 → Int32 → Option (Int32 × (Nat → Int32)))
    {p : Nat} {bv pv : Nat → Int32} (hp : p + 5 + ln ≤ R) (hq : ∀ j, j < p → ∃ t : Nat, t < 256 ∧ bv j = yb t ∧ pv j = nI t) :
    ∃ (bv' pv' : Nat → Int32), (∀ j, j < p + 5 + ln → ∃ t : Nat, t < 256 ∧ bv' j = yb t ∧ pv' j = nI t) ∧
      pX5_writeKept_b49 R Rt (nI n) v K 0 0 (nI p) bv x1 x2 (nI st) (nI ln) (nI lb) = K 0 0 (nI (p + 5 + ln)) bv' x1 (x2 + 1) ∧
      pX11_writeKept_b46 Pn 70000 tv K' (nI (8 * p)) pv (nI st) y2 (nI ln) (nI lb) = K' (nI (8 * (p + 5 + ln))) pv' (nI (st + ln)) y2 := by
  have h0 : q_bo (8 * p) 0 0 (nI p) bv (nI (8 * p)) pv := ⟨0, Nat.two_pow_pos _, rfl, by rw [show 8 * p % 8 = 0 by omega]; rfl, by rw [show 8 * p / 8 = p by omega], rfl, fun j hj => hq j (by omega), fun w => absurd (show 8 * p % 8 = 0 by omega) w⟩
  obtain ⟨a1, a2, a3, a4, a5, a6, a7, a8, a9⟩ := sf_numP (Pn := Pn) (x1 := nI lb) (y1 := nI lb) (cnt := 1) hR hP (by omega) (fun j _ => q_bits _ j) (by omega) h0
  obtain ⟨b1, b2, b3, b4, b5, b6, b7, b8, b9⟩ := sf_numP (Pn := Pn) (x1 := 0) (y1 := 0) (cnt := 2) hR hP (by omega) (fun j _ => q_bits _ j) (by omega) a9
  obtain ⟨c1, c2, c3, c4, c5, c6, c7, c8, c9⟩ := sf_wholeK (Pn := Pn) hR hP (show (8 * p + 1 + 2) % 8 = 3 by omega) (by omega) b9
  obtain ⟨d1, d2, d3, d4, d5, d6, d7, d8, d9⟩ := sf_numP (Pn := Pn) (x1 := nI ln) (y1 := nI ln) (cnt := 16) hR hP (by omega) (fun j _ => q_bits _ j) (by omega) c9
  obtain ⟨f1, f2, f3, f4, f5, f6, f7, f8, f9⟩ := sf_numP (Pn := Pn) (x1 := nI ln ^^^ (-1 : Int32)) (y1 := (65535 : Int32) - nI ln) (cnt := 16) hR hP (by omega) (fun j hj => q_cmpl (by omega) hj) (by omega) d9
  rw [show 8 * p + 1 + 2 + 5 + 16 + 16 = 8 * (p + 5) by omega] at f9
  obtain ⟨hd, g1, g2, g3, g4, g5, g6, g7⟩ := f9
  rw [show 8 * (p + 5) % 8 = 0 by omega] at g1 g3
  rw [show 8 * (p + 5) / 8 = p + 5 by omega] at g4 g6
  have hd0 : hd = 0 := by omega
  subst hd0
  obtain ⟨bv', pv', k1, k2, k3⟩ := sf_kbytesL hR hP hRt hn h hst (x1 := x1) (x2 := x2) (y2 := y2) K K' ln fb_F fb_F 0 (p + 5) f4 f6 (by omega) (by unfold fb_F; omega) (by unfold fb_F; omega) (by omega) g6
  rw [nI_0] at k2 k3
  refine ⟨bv', pv', k1, ?_, ?_⟩
  · unfold pX5_writeKept_b49
    rw [← qi_1] at a7
    rw [a7, Option.bind_some]
    dsimp only
    rw [show (2 : Int32) = nI 2 from rfl, b7, Option.bind_some]
    dsimp only
    rw [c7, Option.bind_some]
    dsimp only
    rw [show (16 : Int32) = nI 16 from rfl, d7, Option.bind_some]
    dsimp only
    rw [f7, Option.bind_some]
    dsimp only
    rw [g2, g3, g4, nI_0, k2]
  · unfold pX11_writeKept_b46
    rw [show (1 : Int32) = nI 1 from rfl, a8, Option.bind_some]
    dsimp only
    rw [show (2 : Int32) = nI 2 from rfl, b8, Option.bind_some]
    dsimp only
    rw [show (5 : Int32) = nI 5 from rfl, c8, Option.bind_some]
    dsimp only
    rw [show (16 : Int32) = nI 16 from rfl, d8, Option.bind_some]
    dsimp only
    rw [f8, Option.bind_some]
    dsimp only
    rw [g5, k3]
/-- how many kept blocks -/
def q_kb (n : Nat) : Nat := max 1 ((n + 65534) / 65535)
theorem sf_kb {n : Nat} (hn : n ≤ 70000) : pX5_keptBlocks (nI n) = some (nI (q_kb n)) := by
  unfold pX5_keptBlocks q_kb
  rw [show (65535 : Int32) = nI 65535 from rfl, nI_add, show (1 : Int32) = nI 1 from rfl, pk_sub (by omega), show n + 65535 - 1 = n + 65534 by omega]
  rw [show nI (n + 65534) / nI 65535 = nI ((n + 65534) / 65535) from pk_div (by omega) (by omega) (by omega), q_max2 (by omega) (by omega)]
theorem sf_wkept (hR : R ≤ 80000) (hP : R ≤ Pn) (hRt : Rt ≤ 70000) (hn : n ≤ Rt) (h : q_by n v tv t) (hB : n + 5 * q_kb n ≤ R) (bv pv : Nat → Int32) :
    ∃ (s' pl' : Int32) (bv' pv' : Nat → Int32), pX5_writeKept R Rt (nI n) v 0 0 0 bv = some (0, 0, s', bv') ∧ pX11_writeKept Pn 70000 (nI n) tv 0 pv = some (pl', pv') ∧ q_row R bv' s' pv' (nI (n + 5 * q_kb n)) := by
  unfold pX5_writeKept pX11_writeKept
  rw [sf_kb (by omega), Option.bind_some, show fb_F = 4294967293 + 1 + 1 + 1 from rfl, pX5_writeKept_b7, pX11_writeKept_b4]
  dsimp only
  rw [if_neg (show ¬ (1 : Int32) = 0 by decide), show nI n - (0 : Int32) = nI n by (rw [show (0 : Int32) = nI 0 from rfl, pk_sub (by omega)]; rfl), show (65535 : Int32) = nI 65535 from rfl, sf_min (by omega) (by omega), Option.bind_some]
  by_cases w : n ≤ 65535
  · have hk : q_kb n = 1 := by unfold q_kb; omega
    rw [hk] at hB ⊢
    obtain ⟨bv1, pv1, k1, k2, k3⟩ := sf_kblock (st := 0) (ln := n) (lb := 1) (p := 0) (bv := bv) (pv := pv) (x1 := nI 1) (x2 := 0) (y2 := 0) hR hP hRt hn h (by omega) (by omega) (pX5_writeKept_b7 R Rt (nI n) v (4294967293 + 1 + 1)) (pX11_writeKept_b4 Pn 70000 (nI n) tv (4294967293 + 1 + 1)) (by omega) (fun j hj => absurd hj (Nat.not_lt_zero j))
    rw [show min n 65535 = n by omega, if_neg (show ¬ nI 1 ≤ (0 : Int32) by decide), if_pos (show (0 : Int32) = nI 1 - 1 by decide)]
    rw [show (0 : Int32) * nI 65535 = nI 0 by decide, show nI n - nI 0 = nI n by (rw [pk_sub (by omega)]; rfl), show (if nI n < nI 65535 then nI n else nI 65535) = nI n by (rw [qf_lt (by omega) (by omega)]; split; rfl; rw [show n = 65535 by omega])]
    rw [show (0 : Int32) + nI n = nI n by (rw [show (0 : Int32) = nI 0 from rfl, nI_add, Nat.zero_add]), qf_le (by omega) (by omega), if_pos (Nat.le_refl n)]
    unfold pX11_writeKept_b35
    rw [if_pos rfl]
    rw [Nat.mul_zero, nI_0] at k3
    rw [nI_0] at k2
    rw [nI_0, show (1 : Int32) = nI 1 from rfl, k2, k3, pX5_writeKept_b7, pX11_writeKept_b4]
    dsimp only
    rw [if_pos (show nI 1 ≤ (0 : Int32) + 1 by decide), if_pos rfl]
    exact ⟨_, _, bv1, pv1, rfl, rfl, 0 + 5 + n, by omega, rfl, by congr 1; omega, k1⟩
  · have hk : q_kb n = 2 := by unfold q_kb; omega
    rw [hk] at hB ⊢
    obtain ⟨bv1, pv1, k1, k2, k3⟩ := sf_kblock (st := 0) (ln := 65535) (lb := 0) (p := 0) (bv := bv) (pv := pv) (x1 := nI 2) (x2 := 0) (y2 := 1) hR hP hRt hn h (by omega) (by omega) (pX5_writeKept_b7 R Rt (nI n) v (4294967293 + 1 + 1)) (pX11_writeKept_b4 Pn 70000 (nI n) tv (4294967293 + 1 + 1)) (by omega) (fun j hj => absurd hj (Nat.not_lt_zero j))
    obtain ⟨bv2, pv2, l1, l2, l3⟩ := sf_kblock (st := 65535) (ln := n - 65535) (lb := 1) (p := 0 + 5 + 65535) (bv := bv1) (pv := pv1) (x1 := nI 2) (x2 := 1) (y2 := 0) hR hP hRt hn h (by omega) (by omega) (pX5_writeKept_b7 R Rt (nI n) v (4294967293 + 1)) (pX11_writeKept_b4 Pn 70000 (nI n) tv (4294967293 + 1)) (by omega) k1
    rw [show min n 65535 = 65535 by omega, if_neg (show ¬ nI 2 ≤ (0 : Int32) by decide), if_neg (show ¬ (0 : Int32) = nI 2 - 1 by decide)]
    rw [show (0 : Int32) * nI 65535 = nI 0 by decide, show nI n - nI 0 = nI n by (rw [pk_sub (by omega)]; rfl), show (if nI n < nI 65535 then nI n else nI 65535) = nI 65535 by (rw [qf_lt (by omega) (by omega), if_neg (by omega)])]
    rw [show (0 : Int32) + nI 65535 = nI 65535 by decide, qf_le (by omega) (by omega), if_neg (by omega)]
    unfold pX11_writeKept_b35
    rw [if_neg (show ¬ (1 : Int32) = 0 by decide)]
    rw [Nat.mul_zero, nI_0] at k3
    rw [nI_0] at k2
    rw [nI_0, k2, k3, pX5_writeKept_b7, pX11_writeKept_b4]
    dsimp only
    rw [if_neg (show ¬ nI 2 ≤ (0 : Int32) + 1 by decide), if_pos (show (0 : Int32) + 1 = nI 2 - 1 by decide), if_neg (show ¬ (1 : Int32) = 0 by decide), show 0 + 65535 = 65535 from rfl, pk_sub (by omega), show (65535 : Int32) = nI 65535 from rfl, sf_min (by omega) (by omega), Option.bind_some, show min (n - 65535) 65535 = n - 65535 by omega, nI_add, show 65535 + (n - 65535) = n by omega, qf_le (by omega) (by omega), if_pos (Nat.le_refl n)]
    rw [show ((0 : Int32) + 1) * nI 65535 = nI 65535 by decide, pk_sub (by omega), show (if nI (n - 65535) < nI 65535 then nI (n - 65535) else nI 65535) = nI (n - 65535) by (rw [qf_lt (by omega) (by omega), if_pos (by omega)])]
    unfold pX11_writeKept_b35
    rw [if_pos rfl, show (0 : Int32) + 1 = 1 by decide]
    rw [show (1 : Int32) = nI 1 from rfl] at l2 ⊢
    rw [l2, l3, pX5_writeKept_b7, pX11_writeKept_b4]
    dsimp only
    rw [if_pos (show nI 2 ≤ nI 1 + nI 1 by decide), if_pos rfl]
    exact ⟨_, _, bv2, pv2, rfl, rfl, 0 + 5 + 65535 + 5 + (n - 65535), by omega, rfl, by rw [show n + 5 * 2 = 0 + 5 + 65535 + 5 + (n - 65535) by omega], l1⟩
end RP
