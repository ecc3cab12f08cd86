/-! ### the pure programs keep the law -/
section RS
theorem sf_within {lo hi : Nat} (h1 : lo ≤ hi) (h2 : hi ≤ 80000) (c : Int32) : ∃ r : Nat, lo ≤ r ∧ r ≤ hi ∧ pX10_within c (nI lo) (nI hi) = some (nI r) ∧ pX11_within c (nI lo) (nI hi) = some (nI r) := by
  unfold pX10_within pX11_within
  rcases qi_any c with w | ⟨j, hj, rfl⟩
  · have a1 : c < nI hi := Int32.lt_of_lt_of_le w (nI_pos' (by omega))
    have a2 : ¬ nI lo < c := fun z => nI_pos (show lo < 2 ^ 31 by omega) (Int32.lt_trans z w)
    have a3 : ¬ nI lo ≤ c := fun z => nI_pos (show lo < 2 ^ 31 by omega) (Int32.lt_of_le_of_lt z w)
    rw [if_pos a1, if_neg a2, if_neg a3]
    exact ⟨lo, Nat.le_refl _, h1, rfl, rfl⟩
  · rw [show (if nI j < nI hi then nI j else nI hi) = nI (min j hi) from q_min6 (by omega) (by omega), q_max2 (by omega) (by omega), qf_le (by omega) (by omega), qf_le (by omega) (by omega)]
    refine ⟨max lo (min j hi), by omega, by omega, rfl, ?_⟩
    by_cases w : lo ≤ j
    · rw [if_pos w]
      by_cases z : j ≤ hi
      · rw [if_pos z, show max lo (min j hi) = j by omega]
      · rw [if_neg z, show max lo (min j hi) = hi by omega]
    · rw [if_neg w, show max lo (min j hi) = lo by omega]
theorem fb_pure_holds : fb_Pure := by
  intro L xs hL c0 c1 c2
  obtain ⟨rt, a1, a2, a3, a4⟩ := sf_within (lo := 1) (hi := 70000) (by omega) (by omega) c0
  obtain ⟨rb, b1, b2, b3, b4⟩ := sf_within (lo := 16) (hi := 80000) (by omega) (by omega) c1
  obtain ⟨ch, d1, d2, d3, d4⟩ := sf_within (lo := 1) (hi := 64) (by omega) (by omega) c2
  refine ⟨nI rt, nI rb, nI ch, nI rt, nI rb, nI ch, rt, rb, a3, b3, d3, nI_pos (by omega), nI_clamp (by omega), by omega, nI_pos (by omega), nI_clamp (by omega), b2, a4, b4, d4, ?_⟩
  exact sf_law a2 b2 d1 d2 hL L fb_F 3 (by omega) (by unfold fb_F; omega) (by omega) ⟨rfl, rfl, q_row0 _ _ _, q_row0 _ _ _, q_row0 _ _ _, ⟨rfl, rfl⟩, ⟨rfl, rfl⟩, ⟨rfl, rfl⟩, ⟨rfl, rfl⟩, ⟨rfl, rfl⟩, ⟨rfl, rfl⟩, 0, 0, fun _ => 0, Nat.zero_le _, rfl, rfl, fun j hj => absurd hj (Nat.not_lt_zero j), rfl, Nat.le_refl _, q_mt0 _ (fun _ _ => rfl)⟩
end RS
