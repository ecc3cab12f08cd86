/-! ### matches -/
def q_lb (k : Nat) : Nat := if k < 8 ∨ k = 28 then 0 else k / 4 - 1
def q_lf (k : Nat) : Nat := if k = 28 then 258 else if k < 8 then 3 + k else 3 + (4 + k % 4) * 2 ^ (k / 4 - 1)
def q_db (d : Nat) : Nat := if d < 4 then 0 else d / 2 - 1
def q_df (d : Nat) : Nat := if d < 4 then 1 + d else 1 + (2 + d % 2) * 2 ^ (d / 2 - 1)
theorem q_lb1 : ∀ k, k < 29 → pX10_lengthBits (nI k) = some (nI (q_lb k)) := by decide +kernel
theorem q_lb2 : ∀ k, k < 29 → pX11_lengthBits (nI k) = some (nI (q_lb k)) := by decide +kernel
theorem q_lf1 : ∀ k, k < 29 → pX10_leastLength (nI k) = some (nI (q_lf k)) := by decide +kernel
theorem q_lf2 : ∀ k, k < 29 → pX11_lengthFrom (nI k) = some (nI (q_lf k)) := by decide +kernel
theorem q_db1 : ∀ d, d < 30 → pX10_distanceBits (nI d) = some (nI (q_db d)) := by decide +kernel
theorem q_db2 : ∀ d, d < 30 → pX11_distanceBits (nI d) = some (nI (q_db d)) := by decide +kernel
theorem q_df1 : ∀ d, d < 30 → pX10_leastDistance (nI d) = some (nI (q_df d)) := by decide +kernel
theorem q_df2 : ∀ d, d < 30 → pX11_distanceFrom (nI d) = some (nI (q_df d)) := by decide +kernel
theorem q_lbb : ∀ k, k < 29 → q_lb k ≤ 5 ∧ 3 ≤ q_lf k ∧ q_lf k ≤ 258 := by decide +kernel
theorem q_dbb : ∀ d, d < 30 → q_db d ≤ 13 ∧ 1 ≤ q_df d ∧ q_df d ≤ 24577 := by decide +kernel
section QM
variable {rt k q N Z No : Nat} {v mv uv ov : Nat → Int32}
theorem sf_cF {m : Nat} {r os p g x y z : Int32} (hg : ¬ g = 0) : pX11_copy_b105 No r (m + 1) os p g ov x y z = some (os, p, g, ov) := by
  rw [pX11_copy_b105]
  dsimp only
  by_cases c : x ≤ z
  · rw [if_pos c]
  · rw [if_neg c, if_neg hg]
theorem sf_copyL {ov0 : Nat → Int32} {a len : Nat} {p : Int32} (hrt : rt ≤ No) (hNo : No ≤ 80000) (ha : 1 ≤ a) (haq : a ≤ q) (hq : q ≤ rt) (hl : len ≤ 1000) (hb : ∀ j, j < q → ∃ t : Nat, ov0 j = nI t) : ∀ (d m j : Nat) (ov : Nat → Int32), len = j + d → d + 1 < m → q + j ≤ rt → q_ext ov0 ov q a j →
    (q + len ≤ rt → ∃ ov', pX11_copy_b105 No (nI rt) m (nI (q + j)) p 0 ov (nI len) (nI a) (nI j) = some (nI (q + len), p, 0, ov') ∧ q_ext ov0 ov' q a len) ∧
    (rt < q + len → ∃ os ov', pX11_copy_b105 No (nI rt) m (nI (q + j)) p 0 ov (nI len) (nI a) (nI j) = some (os, p, 7, ov')) := by
  intro d
  induction d with
  | zero =>
    intro m j ov hj hm hjr h
    obtain ⟨m, rfl⟩ : ∃ z, m = z + 1 := ⟨m - 1, by omega⟩
    have e : j = len := by omega
    subst e
    rw [pX11_copy_b105]
    dsimp only
    simp (disch := omega) only [qi_le, if_pos]
    exact ⟨fun _ => ⟨ov, rfl, h⟩, fun z => by omega⟩
  | succ d ih =>
    intro m j ov hj hm hjr h
    obtain ⟨m, rfl⟩ : ∃ z, m = z + 1 := ⟨m - 1, by omega⟩
    rw [pX11_copy_b105]
    dsimp only
    simp only [eq_self, if_true]
    simp (disch := omega) only [qi_le, if_neg]
    unfold pX11_copy_b146
    by_cases c : rt ≤ q + j
    · obtain ⟨m, rfl⟩ : ∃ z, m = z + 1 := ⟨m - 1, by omega⟩
      rw [if_pos c, show (0 : Int32) = nI 0 from rfl, show (nI 0 : Int32) = 0 from rfl]
      have e1 : pX11_putOut No (nI rt) 0 (nI (q + j)) 0 ov = some (nI (q + j), 7, ov) := by
        have := sf_putOut (rt := rt) (No := No) (q := q + j) (ov := ov) (t := 0) hrt hNo hjr
        rw [if_neg (by omega)] at this
        exact this
      rw [e1, Option.bind_some]
      dsimp only
      rw [sf_cF (by decide)]
      exact ⟨fun z => by omega, fun _ => ⟨_, _, rfl⟩⟩
    · obtain ⟨t, ht⟩ : ∃ t : Nat, ov (q + j - a) = nI t := by
        have key : ∀ z, z < q + j → ∃ t : Nat, ov z = nI t := by
          intro z
          induction z using Nat.strongRecOn with
          | _ z ih2 =>
            intro hz
            by_cases e : z < q
            · rw [h.1 z e]; exact hb z e
            · rw [h.2 z (by omega) hz]; exact ih2 (z - a) (by omega) (by omega)
        exact key _ (by omega)
      rw [if_neg c, pk_sub (by omega)]
      simp (disch := omega) only [qi_lt0, nI_clamp, false_or, if_neg]
      rw [ht, sf_putOut (rt := rt) (No := No) (q := q + j) hrt hNo hjr, if_pos (by omega), Option.bind_some]
      dsimp only
      rw [← ht, nI_1]
      exact ih m (j + 1) _ (by omega) (by omega) (by omega) (q_ext_s ha haq h)
end QM
