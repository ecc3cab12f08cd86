/-! ### two ways to sum -/
section RG
theorem q_sum_add {f g : Nat → Nat} : ∀ n, q_sum (fun i => f i + g i) n = q_sum f n + q_sum g n := by
  intro n
  induction n with
  | zero => rfl
  | succ n ih => rw [q_sum, q_sum, q_sum, ih]; omega
theorem q_sum_zero : ∀ n, q_sum (fun _ => 0) n = 0 := by
  intro n
  induction n with
  | zero => rfl
  | succ n ih => rw [q_sum, ih]
theorem q_sum_one1 {f : Nat → Nat} {y : Nat} : ∀ n, q_sum (fun s => (if y = s then 1 else 0) * f s) n = if y < n then f y else 0 := by
  intro n
  induction n with
  | zero => rw [q_sum, if_neg (by omega)]
  | succ n ih =>
    rw [q_sum, ih]
    by_cases w : y = n
    · subst w
      rw [if_pos rfl, if_neg (by omega), if_pos (by omega)]
      omega
    · rw [if_neg w]
      by_cases z : y < n
      · rw [if_pos z, if_pos (by omega)]; omega
      · rw [if_neg z, if_neg (by omega)]; omega
/-- counts times lengths, or lengths one by one -/
theorem q_exch {N : Nat} {f sy : Nat → Nat} : ∀ T, (∀ j, j < T → sy j < N) → q_sum (fun s => q_sum (fun j => if sy j = s then 1 else 0) T * f s) N = q_sum (fun j => f (sy j)) T := by
  intro T
  induction T with
  | zero =>
    intro _
    rw [q_sum, q_sum_congr (g := fun _ => 0) N (fun i _ => by rw [q_sum, Nat.zero_mul]), q_sum_zero]
  | succ T ih =>
    intro h
    have e : q_sum (fun s => q_sum (fun j => if sy j = s then 1 else 0) (T + 1) * f s) N = q_sum (fun s => q_sum (fun j => if sy j = s then 1 else 0) T * f s + (if sy T = s then 1 else 0) * f s) N :=
      q_sum_congr N (fun s _ => by rw [q_sum, Nat.add_mul])
    rw [e, q_sum_add, ih (fun j hj => h j (by omega)), q_sum_one1, if_pos (h T (by omega)), q_sum]
end RG
