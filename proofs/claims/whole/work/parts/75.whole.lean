/-! ### to the whole byte -/
section RB
variable {R Pn : Nat}
theorem q_or0 {hd k : Nat} (hk : k < 16) (h : hd < 2 ^ k) : nI hd ||| ((0 : Int32) <<< (nI k &&& 31)) = nI hd := by
  rw [← nI_0, pk_shlN (n := 0) _ k (q_sh k hk) (by omega), q_orN h]
  congr 1
  omega
theorem sf_wholeL {hd q c k : Nat} {bv : Nat → Int32} (hR : R ≤ 80000) (hq : q < R) (hk1 : 1 ≤ k) (hck : c + k = 8) (hh : hd < 2 ^ k) :
    ∀ (d m i : Nat), c = i + d → 1 ≤ d → d < m → pX1_toWholeByte_b13 R m (nI hd) (nI (k + i)) (nI q) bv (nI c) (nI i) = some (0, 0, nI (q + 1), upd bv q (yb hd)) := by
  intro d
  induction d with
  | zero => intro m i _ h; omega
  | succ d ih =>
    intro m i hi _ hm
    obtain ⟨m, rfl⟩ : ∃ z, m = z + 1 := ⟨m - 1, by omega⟩
    have hp : hd < 2 ^ (k + i) := Nat.lt_of_lt_of_le hh (Nat.pow_le_pow_right (by omega) (by omega))
    rw [pX1_toWholeByte_b13]
    dsimp only
    unfold pX1_put
    rw [qf_le (by omega) (by omega), if_neg (by omega), q_or0 (by omega) hp, nI_1, show (8 : Int32) = nI 8 from rfl, qf_eq (by omega) (by omega)]
    by_cases w : d = 0
    · subst w
      rw [if_pos (by omega), sf_add _ _ hR (by omega), if_pos hq, Option.bind_some, Option.bind_some, nI_1]
      obtain ⟨m, rfl⟩ : ∃ z, m = z + 1 := ⟨m - 1, by omega⟩
      rw [pX1_toWholeByte_b13]
      dsimp only
      rw [qf_le (by omega) (by omega), if_pos (by omega)]
      rfl
    · rw [if_neg (by omega), Option.bind_some, nI_1]
      dsimp only
      exact ih m (i + 1) (by omega) (by omega) (by omega)
/-- the last byte is filled with zeros: the rows are the same -/
theorem sf_wholeT {n : Nat} {held filled sz place : Int32} {bv pv : Nat → Int32} (hR : R ≤ 80000) (hn : n ≤ 8 * R) (h : q_bo n held filled sz bv place pv) :
    ∃ s' bv', pX1_toWholeByte R held filled sz bv = some (0, 0, s', bv') ∧ q_row R bv' s' pv (nI ((n + 7) / 8)) := by
  obtain ⟨hd, h1, rfl, rfl, rfl, rfl, h6, h7⟩ := h
  have hk : n % 8 < 8 := Nat.mod_lt _ (by omega)
  unfold pX1_toWholeByte
  rw [show (8 : Int32) = nI 8 from rfl, pk_sub (by omega), pk_rem (by omega) (by omega) (by omega)]
  by_cases c : n % 8 = 0
  · have hd0 : hd = 0 := by rw [c] at h1; omega
    rw [show pX1_toWholeByte_b13 R fb_F = pX1_toWholeByte_b13 R (4294967295 + 1) from rfl, pX1_toWholeByte_b13]
    dsimp only
    rw [c, hd0, nI_0, if_pos (by decide)]
    exact ⟨_, _, rfl, n / 8, by omega, rfl, by rw [show (n + 7) / 8 = n / 8 by omega], h6⟩
  · have e := sf_wholeL (hd := hd) (q := n / 8) (c := (8 - n % 8) % 8) (k := n % 8) (bv := bv) hR (by omega) (by omega) (by omega) h1 ((8 - n % 8) % 8) fb_F 0 (by omega) (by omega) (by unfold fb_F; omega)
    rw [nI_0, Nat.add_zero] at e
    rw [e]
    refine ⟨_, _, rfl, n / 8 + 1, by omega, rfl, by rw [show (n + 7) / 8 = n / 8 + 1 by omega], fun j hj => ?_⟩
    by_cases w : j = n / 8
    · subst w
      have := (q_p2 (n % 8) hk).1
      exact ⟨hd, by omega, pk_us, h7 c⟩
    · rw [pk_un w]
      exact h6 j (by omega)
/-- three bits are in the byte: five zeros follow -/
theorem sf_wholeK {n : Nat} {held filled sz place : Int32} {bv pv : Nat → Int32} (hR : R ≤ 80000) (hP : R ≤ Pn) (h3 : n % 8 = 3) (hn : n + 5 ≤ 8 * R) (h : q_bo n held filled sz bv place pv) :
    ∃ h' f' s' bv' pl' pv', pX1_toWholeByte R held filled sz bv = some (h', f', s', bv') ∧ pX11_put Pn 0 (nI 5) place pv = some (pl', pv') ∧ q_bo (n + 5) h' f' s' bv' pl' pv' := by
  obtain ⟨h1, f1, s1, bv1, pl1, pv1, e1, e2, e3⟩ := sf_numP (Pn := Pn) (x1 := 0) (y1 := 0) (cnt := 5) hR hP (by omega) (fun i _ => q_bits 0 i) hn h
  refine ⟨h1, f1, s1, bv1, pl1, pv1, ?_, e2, e3⟩
  rw [← e1]
  have hz : ∀ i, i < 6 → (((0 : Int32) >>> (nI i &&& 31)) &&& (1 : Int32)) = 0 := by decide +kernel
  have key : ∀ (d m i : Nat) (a b c : Int32) (v : Nat → Int32), 5 = i + d → pX1_toWholeByte_b13 R m a b c v (nI 5) (nI i) = pX1_number_b2 R 0 (nI 5) m a b c v (nI i) := by
    intro d
    induction d with
    | zero =>
      intro m i a b c v hi
      cases m with
      | zero => rfl
      | succ m =>
        rw [pX1_toWholeByte_b13, pX1_number_b2]
        dsimp only
        rw [qf_le (by omega) (by omega), if_pos (by omega), qf_le (by omega) (by omega), if_pos (by omega)]
    | succ d ih =>
      intro m i a b c v hi
      cases m with
      | zero => rfl
      | succ m =>
        rw [pX1_toWholeByte_b13, pX1_number_b2]
        dsimp only
        rw [qf_le (by omega) (by omega), if_neg (by omega), qf_le (by omega) (by omega), if_neg (by omega), hz i (by omega), nI_1]
        congr 1
        funext u
        exact ih m (i + 1) _ _ _ _ (by omega)
  obtain ⟨hd, -, -, hf, -⟩ := h
  unfold pX1_toWholeByte pX1_number
  rw [hf, h3, show ((8 : Int32) - nI 3) - ((8 : Int32) - nI 3) / 8 * 8 = nI 5 from rfl, ← nI_0]
  exact key 5 fb_F 0 held (nI 3) sz bv (by omega)
end RB
