/-! ### kept bytes -/
theorem q_x16 {a : Nat} (h : a < 65536) : a ^^^ 65535 = 65535 - a := by
  have e := congrArg BitVec.toNat (BitVec.xor_allOnes (x := BitVec.ofNat 16 a))
  rw [BitVec.toNat_xor, BitVec.toNat_not, BitVec.toNat_allOnes, BitVec.toNat_ofNat, Nat.mod_eq_of_lt (by omega)] at e
  exact e
theorem q_xor (a b : Nat) : nI a ^^^ nI b = nI (a ^^^ b) := by
  apply Int32.toBitVec_inj.mp
  apply BitVec.eq_of_getLsbD_eq
  intro i hi
  simp [nI, Int32.toBitVec_ofNat', BitVec.getLsbD_ofNat, hi]
theorem q_turn {a b : Nat} (ha : a < 65536) (hb : b < 65536) : (nI a ^^^ nI b = 65535) ↔ (nI b = 65535 - nI a) := by
  have hx : a ^^^ b < 2 ^ 16 := Nat.xor_lt_two_pow ha hb
  rw [q_xor, show (65535 : Int32) = nI 65535 from rfl, pk_sub (by omega), nI_eq (by omega) (by omega), nI_eq (by omega) (by omega)]
  constructor
  · intro h
    rw [← q_x16 ha, ← h, ← Nat.xor_assoc, Nat.xor_self, Nat.zero_xor]
  · intro h
    rw [h, ← q_x16 ha, ← Nat.xor_assoc, Nat.xor_self, Nat.zero_xor]
section QK
variable {rt k q N Z No : Nat} {v mv uv ov : Nat → Int32}
theorem sf_putOut {t : Nat} (hrt : rt ≤ No) (hNo : No ≤ 80000) (hq : q ≤ rt) : pX11_putOut No (nI rt) (nI t) (nI q) 0 ov = if q < rt then some (nI (q + 1), 0, upd ov q (nI t)) else some (nI q, 7, ov) := by
  unfold pX11_putOut pX11_putOut_b17
  simp (disch := omega) only [qi_eq]
  by_cases c : q < rt
  · rw [if_neg (by omega), if_pos c, sf_can0, Option.bind_some, if_pos rfl]
    simp (disch := omega) only [qi_lt0, nI_clamp, false_or, if_neg, nI_1]
  · rw [if_pos (by omega), if_neg c, sf_can1, Option.bind_some, if_neg (by decide)]
theorem sf_putOutF {x s g : Int32} {r : Int32} (hg : ¬ g = 0) : pX11_putOut No r x s g ov = some (s, g, ov) := by
  unfold pX11_putOut pX11_putOut_b17
  by_cases c : s = r
  · rw [if_pos c, sf_canF hg, Option.bind_some, if_neg hg]
  · rw [if_neg c, sf_canF hg, Option.bind_some, if_neg hg]
theorem sf_kF {m : Nat} {r S os p g x y : Int32} (hg : ¬ g = 0) : pX11_kept_b51 Z No r S mv (m + 1) os p g ov x y = some (os, p, g, ov) := by
  rw [pX11_kept_b51]
  dsimp only
  by_cases c : x ≤ y
  · rw [if_pos c]
  · rw [if_neg c, if_neg hg]
/-- how a piece of unpacking ends: class and reference alike -/
def q_end (rt k i : Nat) (why : Int32) (i' : Nat) (us : Int32) (uv : Nat → Int32) (os : Int32) (ov : Nat → Int32) : Prop := i ≤ i' ∧ i' ≤ 8 * k ∧ (why = 0 → q_row rt uv us ov os)
theorem sf_keptL (hN : N ≤ 80000) (hk : k ≤ N) (hZ : k ≤ Z) (hr : ∀ j, j < k → ∃ t : Nat, t < 256 ∧ v j = yb t ∧ mv j = nI t) (hrt : rt ≤ No) (hNo : No ≤ 80000) {len : Nat} (hlen : len < 65536) : ∀ (d m m' j i q : Nat) (uv ov : Nat → Int32), len = j + d → d < m → d + 1 < m' → i ≤ 8 * k → q ≤ rt →
    (∀ j, j < q → ∃ t : Nat, t < 256 ∧ uv j = yb t ∧ ov j = nI t) →
    ∃ why i' us' uv' os' ov', pX9_readKept_b45 N rt (nI (8 * k)) v m (nI i) (nI q) uv (nI len) (nI j) = some (why, nI i', us', uv') ∧
      pX11_kept_b51 Z No (nI rt) (nI k) mv m' (nI q) (nI i) 0 ov (nI len) (nI j) = some (os', nI i', why, ov') ∧ q_end rt k i why i' us' uv' os' ov' := by
  intro d
  induction d with
  | zero =>
    intro m m' j i q uv ov hj hm hm' hi hq h
    obtain ⟨m, rfl⟩ : ∃ z, m = z + 1 := ⟨m - 1, by omega⟩
    obtain ⟨m', rfl⟩ : ∃ z, m' = z + 1 := ⟨m' - 1, by omega⟩
    have e : j = len := by omega
    subst e
    rw [pX9_readKept_b45, pX11_kept_b51]
    dsimp only
    simp (disch := omega) only [qi_le, if_pos]
    exact ⟨0, i, _, _, _, _, rfl, rfl, Nat.le_refl i, hi, fun _ => ⟨q, hq, rfl, rfl, h⟩⟩
  | succ d ih =>
    intro m m' j i q uv ov hj hm hm' hi hq h
    obtain ⟨m, rfl⟩ : ∃ z, m = z + 1 := ⟨m - 1, by omega⟩
    obtain ⟨m', rfl⟩ : ∃ z, m' = z + 1 := ⟨m' - 1, by omega⟩
    rw [pX9_readKept_b45, pX11_kept_b51]
    dsimp only
    simp only [eq_self, if_true]
    simp (disch := omega) only [qi_le, if_neg]
    rw [show (8 : Int32) = nI 8 from rfl, sf_number hN hk hr (b := 8) (by omega) hi, sf_tk (mv := mv) hZ (by omega) (fun j hj => (hr j hj).elim (fun t q => ⟨t, q.1, q.2.2⟩)) (b := 8) (by omega) hi]
    by_cases c : i + 8 ≤ 8 * k
    · have ht := q_num_lt mv i 8
      have ht2 : (2 : Nat) ^ 8 = 256 := by decide
      rw [if_pos c, if_pos c, Option.bind_some, Option.bind_some]
      dsimp only
      rw [if_pos (nI_pos' (by omega)), sf_add uv _ (by omega) hq, sf_putOut hrt hNo hq]
      by_cases c2 : q < rt
      · rw [if_pos c2, if_pos c2, Option.bind_some, Option.bind_some]
        dsimp only
        rw [if_neg (by decide), nI_1]
        obtain ⟨why, i', us', uv', os', ov', e1, e2, e3, e4, e5⟩ := ih m m' (j + 1) (i + 8) (q + 1) (upd uv q (nI (q_num mv i 8)).toInt8.toInt32) (upd ov q (nI (q_num mv i 8))) (by omega) (by omega) (by omega) (by omega) (by omega) (by
          obtain ⟨k', z1, z2, z3, z4⟩ := sf_grow (n := rt) (k := q) (t := q_num mv i 8) (v := uv) (mv := ov) c2 (by omega) h
          have : k' = q + 1 := ((nI_eq (by omega) (by omega)).mp z2).symm
          rw [this] at z4
          exact z4)
        exact ⟨why, i', us', uv', os', ov', e1, e2, by omega, e4, e5⟩
      · obtain ⟨m', rfl⟩ : ∃ z, m' = z + 1 := ⟨m' - 1, by omega⟩
        rw [if_neg c2, if_neg c2, Option.bind_some, Option.bind_some]
        dsimp only
        rw [if_pos rfl, sf_kF (by decide)]
        exact ⟨7, i + 8, _, _, _, _, rfl, rfl, by omega, by omega, fun z => absurd z (by decide)⟩
    · obtain ⟨m', rfl⟩ : ∃ z, m' = z + 1 := ⟨m' - 1, by omega⟩
      rw [if_neg c, if_neg c, Option.bind_some, Option.bind_some]
      dsimp only
      rw [if_neg (by decide), sf_putOutF (by decide), Option.bind_some]
      dsimp only
      rw [sf_kF (by decide)]
      exact ⟨1, 8 * k, _, _, _, _, rfl, rfl, by omega, by omega, fun z => absurd z (by decide)⟩
theorem sf_kept (hN : N ≤ 80000) (hk : k ≤ N) (hZ : k ≤ Z) (hr : ∀ j, j < k → ∃ t : Nat, t < 256 ∧ v j = yb t ∧ mv j = nI t) (hrt : rt ≤ No) (hNo : No ≤ 80000) {i q : Nat} (hi : i ≤ 8 * k) (hq : q ≤ rt) (h : ∀ j, j < q → ∃ t : Nat, t < 256 ∧ uv j = yb t ∧ ov j = nI t) :
    ∃ why i' us' uv' os' ov', pX9_readKept N rt (nI (8 * k)) v (nI i) (nI q) uv = some (why, nI i', us', uv') ∧
      pX11_kept Z No (nI rt) (nI k) mv (nI q) (nI i) 0 ov = some (os', nI i', why, ov') ∧ q_end rt k i why i' us' uv' os' ov' := by
  have hm : ∀ j, j < k → ∃ t : Nat, t < 256 ∧ mv j = nI t := fun j hj => (hr j hj).elim (fun t q => ⟨t, q.1, q.2.2⟩)
  have hw : ((nI i + 7) / 8) * 8 = nI ((i + 7) / 8 * 8) := by
    rw [show (7 : Int32) = nI 7 from rfl, nI_add, q_div8 (by omega), show (8 : Int32) = nI 8 from rfl, pk_mul]
  have hi8 : (i + 7) / 8 * 8 ≤ 8 * k := by omega
  unfold pX9_readKept pX11_kept pX0_toWholeByte
  rw [hw, Option.bind_some, show (16 : Int32) = nI 16 from rfl, sf_number hN hk hr (b := 16) (by omega) hi8, sf_tk (mv := mv) hZ (by omega) hm (b := 16) (by omega) hi8]
  by_cases c : (i + 7) / 8 * 8 + 16 ≤ 8 * k
  · rw [if_pos c, if_pos c, Option.bind_some, Option.bind_some]
    dsimp only
    rw [sf_number hN hk hr (b := 16) (by omega) c, sf_tk (mv := mv) hZ (by omega) hm (b := 16) (by omega) c]
    by_cases c2 : (i + 7) / 8 * 8 + 16 + 16 ≤ 8 * k
    · have h1 := q_num_lt mv ((i + 7) / 8 * 8) 16
      have h2 := q_num_lt mv ((i + 7) / 8 * 8 + 16) 16
      have h3 : (2 : Nat) ^ 16 = 65536 := by decide
      rw [if_pos c2, if_pos c2, Option.bind_some, Option.bind_some]
      dsimp only
      rw [if_pos (nI_pos' (by omega))]
      have ht := q_turn (a := q_num mv ((i + 7) / 8 * 8) 16) (b := q_num mv ((i + 7) / 8 * 8 + 16) 16) (by omega) (by omega)
      by_cases c3 : nI (q_num mv ((i + 7) / 8 * 8) 16) ^^^ nI (q_num mv ((i + 7) / 8 * 8 + 16) 16) = 65535
      · rw [if_pos c3, if_pos (ht.mp c3)]
        unfold pX11_kept_b45
        rw [sf_can0, Option.bind_some]
        have hF : q_num mv ((i + 7) / 8 * 8) 16 + 1 < fb_F := by unfold fb_F; omega
        generalize fb_F = F at hF ⊢
        obtain ⟨why, i', us', uv', os', ov', e1, e2, e3, e4, e5⟩ := sf_keptL (No := No) (rt := rt) (v := v) (mv := mv) (Z := Z) hN hk hZ hr hrt hNo (len := q_num mv ((i + 7) / 8 * 8) 16) (by omega) (q_num mv ((i + 7) / 8 * 8) 16) F F 0 ((i + 7) / 8 * 8 + 16 + 16) q uv ov (by omega) (by omega) (by omega) c2 hq h
        rw [nI_0] at e1 e2
        exact ⟨why, i', us', uv', os', ov', e1, e2, by omega, e4, e5⟩
      · rw [if_neg c3, if_neg (fun z => c3 (ht.mpr z))]
        unfold pX11_kept_b45
        rw [sf_can1, Option.bind_some, show fb_F = 4294967295 + 1 from rfl, sf_kF (by decide)]
        exact ⟨3, _, _, _, _, _, rfl, rfl, by omega, by omega, fun z => absurd z (by decide)⟩
    · rw [if_neg c2, if_neg c2, Option.bind_some, Option.bind_some]
      dsimp only
      rw [if_neg (by decide)]
      unfold pX11_kept_b45
      by_cases c3 : nI (q_num mv ((i + 7) / 8 * 8 + 16) (8 * k - ((i + 7) / 8 * 8 + 16))) = 65535 - nI (q_num mv ((i + 7) / 8 * 8) 16)
      · rw [if_pos c3, sf_can0, Option.bind_some, show fb_F = 4294967295 + 1 from rfl, sf_kF (by decide)]
        exact ⟨1, 8 * k, _, _, _, _, rfl, rfl, by omega, by omega, fun z => absurd z (by decide)⟩
      · rw [if_neg c3, sf_canF (by decide), Option.bind_some, show fb_F = 4294967295 + 1 from rfl, sf_kF (by decide)]
        exact ⟨1, 8 * k, _, _, _, _, rfl, rfl, by omega, by omega, fun z => absurd z (by decide)⟩
  · rw [if_neg c, if_neg c, Option.bind_some, Option.bind_some]
    dsimp only
    rw [sf_number hN hk hr (b := 16) (by omega) (Nat.le_refl _), if_neg (by omega), sf_tkF (b := 16) (by decide), Option.bind_some, Option.bind_some]
    dsimp only
    rw [if_neg (by decide)]
    unfold pX11_kept_b45
    by_cases c3 : (0 : Int32) = 65535 - nI (q_num mv ((i + 7) / 8 * 8) (8 * k - (i + 7) / 8 * 8))
    · rw [if_pos c3, sf_can0, Option.bind_some, show fb_F = 4294967295 + 1 from rfl, sf_kF (by decide)]
      exact ⟨1, 8 * k, _, _, _, _, rfl, rfl, by omega, by omega, fun z => absurd z (by decide)⟩
    · rw [if_neg c3, sf_canF (by decide), Option.bind_some, show fb_F = 4294967295 + 1 from rfl, sf_kF (by decide)]
      exact ⟨1, 8 * k, _, _, _, _, rfl, rfl, by omega, by omega, fun z => absurd z (by decide)⟩
end QK
