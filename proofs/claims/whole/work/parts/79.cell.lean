/-! ### a cell of the telling -/
section RF
/-- k cells are told: symbols cs, numbers cn -/
def q_ce (k : Nat) (cl ct ts tn : Nat → Int32) (cs cn : Nat → Nat) : Prop :=
  (∀ j, j < k → cs j < 19 ∧ cn j < 128 ∧ cl j = nI (cn j * 256 + cs j) ∧ ts j = nI (cs j) ∧ tn j = nI (cn j)) ∧ ∀ s, s < 19 → ct s = nI (q_sum (fun j => if cs j = s then 1 else 0) k)
theorem q_orE {a b : Nat} (hb : b < 256) (ha : a < 32768) : (nI a <<< ((8 : Int32) &&& 31)) ||| nI b = nI (a * 256 + b) := by
  rw [pk_shlN _ 8 (by decide) (by omega), nx_or, Nat.or_comm, ← nx_or, q_orN (j := 8) hb, Nat.add_comm]
theorem sf_cell {k a b : Nat} {cl ct ts tn : Nat → Int32} {cs cn : Nat → Nat} {Cn Tn : Nat} (hk : k < Cn) (hk2 : k < Tn) (hk3 : k < 80000) (ha : a < 19) (hb : b < 128) (h : q_ce k cl ct ts tn cs cn) :
    ∃ cl' ct' ts' tn', pX7_addCell Cn 19 (nI a) (nI b) (nI k) cl ct = some (nI (k + 1), cl', ct') ∧ pX11_tellOne Tn Tn (nI a) (nI b) (nI k) ts tn = some (nI (k + 1), ts', tn') ∧ q_ce (k + 1) cl' ct' ts' tn' (q_up cs k a) (q_up cn k b) := by
  obtain ⟨h1, h2⟩ := h
  unfold pX7_addCell pX11_tellOne
  rw [qf_out (by omega), if_neg (by omega), qf_out (by omega), if_neg (by omega), qf_out (by omega), if_neg (by omega), qf_out (by omega), if_neg (by omega), qf_out (by omega), if_neg (by omega), nI_clamp (by omega), nI_clamp (by omega), nI_1, q_orE (by omega) (by omega)]
  refine ⟨_, _, _, _, rfl, rfl, fun j hj => ?_, fun s hs => ?_⟩
  · by_cases w : j = k
    · subst w
      rw [pk_us, pk_us, pk_us, q_up_s, q_up_s]
      exact ⟨ha, hb, rfl, rfl, rfl⟩
    · rw [pk_un w, pk_un w, pk_un w, q_up_n w, q_up_n w]
      exact h1 j (by omega)
  · have e : q_sum (fun j => if q_up cs k a j = s then 1 else 0) (k + 1) = q_sum (fun j => if cs j = s then 1 else 0) k + if a = s then 1 else 0 := by
      rw [q_sum, q_up_s, q_sum_congr k (fun i hi => by rw [q_up_n (show i ≠ k by omega)])]
    rw [e]
    by_cases w : s = a
    · subst w
      rw [pk_us, h2 s hs, nI_1, if_pos rfl]
    · rw [pk_un w, h2 s hs, if_neg (fun z => w z.symm), Nat.add_zero]
end RF
