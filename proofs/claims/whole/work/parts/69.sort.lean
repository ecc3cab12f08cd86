/-! ### sorting the counts: the class -/
section QV
variable {c : Nat → Nat}
/-- so tells the symbols below K that come at all, the rarest first, of like ones the lower first -/
def h_srt (c : Nat → Nat) (K S : Nat) (so : Nat → Nat) : Prop :=
  (∀ i, i < S → so i < K ∧ 0 < c (so i)) ∧ (∀ i i', i < i' → i' < S → c (so i) < c (so i') ∨ (c (so i) = c (so i') ∧ so i < so i')) ∧ (∀ k, k < K → 0 < c k → ∃ i, i < S ∧ so i = k) ∧ q_sum (fun i => c (so i)) S = q_sum c K
def q_cp (c : Nat → Nat) (K : Nat) : Nat := q_sum (fun k => if 0 < c k then 1 else 0) K
theorem q_cp_le (c : Nat → Nat) : ∀ K, q_cp c K ≤ K := by
  intro K
  induction K with
  | zero => exact Nat.le_refl 0
  | succ K ih =>
    unfold q_cp at ih ⊢
    rw [q_sum]
    split <;> omega
def h_ins (so : Nat → Nat) (p K : Nat) : Nat → Nat := fun i => if i < p then so i else if i = p then K else so (i - 1)
theorem h_ins_lt {so : Nat → Nat} {p K i : Nat} (h : i < p) : h_ins so p K i = so i := if_pos h
theorem h_ins_eq {so : Nat → Nat} {p K : Nat} : h_ins so p K p = K := by unfold h_ins; rw [if_neg (by omega), if_pos rfl]
theorem h_ins_gt {so : Nat → Nat} {p K i : Nat} (h : p < i) : h_ins so p K i = so (i - 1) := by unfold h_ins; rw [if_neg (by omega), if_neg (by omega)]
theorem h_ins_sum {so : Nat → Nat} {p K : Nat} : ∀ S, p ≤ S → q_sum (fun i => c (h_ins so p K i)) (S + 1) = q_sum (fun i => c (so i)) S + c K := by
  intro S
  induction S with
  | zero =>
    intro h
    have : p = 0 := by omega
    subst this
    rw [q_sum, q_sum, q_sum, h_ins_eq]
  | succ S ih =>
    intro h
    by_cases w : p = S + 1
    · subst w
      rw [q_sum, h_ins_eq, q_sum_congr (S + 1) (fun i hi => congrArg c (h_ins_lt hi))]
    · have := ih (by omega)
      rw [q_sum, h_ins_gt (by omega), this, q_sum]
      rw [show S + 1 - 1 = S by omega]
      omega
theorem h_srt_ins {K S p : Nat} {so : Nat → Nat} (h : h_srt c K S so) (hK : 0 < c K) (hp : p ≤ S) (h1 : 0 < p → c (so (p - 1)) ≤ c K) (h2 : ∀ i, p ≤ i → i < S → c K < c (so i)) : h_srt c (K + 1) (S + 1) (h_ins so p K) := by
  obtain ⟨a1, a2, a3, a4⟩ := h
  have hle : ∀ i, i < p → c (so i) ≤ c K := by
    intro i hi
    have := h1 (by omega)
    by_cases w : i = p - 1
    · rw [w]; exact this
    · have := a2 i (p - 1) (by omega) (by omega)
      omega
  refine ⟨fun i hi => ?_, fun i i' hi hi' => ?_, fun k hk hc => ?_, ?_⟩
  · by_cases w : i < p
    · rw [h_ins_lt w]
      have := a1 i (by omega)
      exact ⟨by omega, this.2⟩
    · by_cases w2 : i = p
      · rw [w2, h_ins_eq]; exact ⟨by omega, hK⟩
      · rw [h_ins_gt (by omega)]
        have := a1 (i - 1) (by omega)
        exact ⟨by omega, this.2⟩
  · by_cases w : i' < p
    · rw [h_ins_lt w, h_ins_lt (by omega)]
      exact a2 i i' hi (by omega)
    · by_cases w2 : i' = p
      · rw [w2, h_ins_eq, h_ins_lt (by omega)]
        have := hle i (by omega)
        have := (a1 i (by omega)).1
        omega
      · rw [h_ins_gt (show p < i' by omega)]
        by_cases w3 : i < p
        · rw [h_ins_lt w3]
          exact a2 i (i' - 1) (by omega) (by omega)
        · by_cases w4 : i = p
          · rw [w4, h_ins_eq]
            exact Or.inl (h2 (i' - 1) (by omega) (by omega))
          · rw [h_ins_gt (show p < i by omega)]
            exact a2 (i - 1) (i' - 1) (by omega) (by omega)
  · by_cases w : k = K
    · exact ⟨p, by omega, by rw [h_ins_eq, w]⟩
    · obtain ⟨i, i1, i2⟩ := a3 k (by omega) hc
      by_cases w2 : i < p
      · exact ⟨i, by omega, by rw [h_ins_lt w2, i2]⟩
      · exact ⟨i + 1, by omega, by rw [h_ins_gt (by omega), Nat.add_sub_cancel, i2]⟩
  · rw [h_ins_sum S hp, a4, q_sum]
set_option maxRecDepth 100000 in
theorem sf_insL {K S : Nat} {so : Nat → Nat} {cv : Nat → Int32} (hK : K < 286) (hSK : S ≤ K) (hc : ∀ k, k ≤ K → cv k = nI (c k) ∧ c k ≤ 100000) (hso : ∀ i, i < S → so i < K) :
    ∀ (p m : Nat) (sv : Nat → Int32), p ≤ S → p < m → (∀ i, i < p → sv i = nI (so i)) → (∀ i, p < i → i ≤ S → sv i = nI (so (i - 1))) → (∀ i, p ≤ i → i < S → c K < c (so i)) →
    ∃ p' sv', pX3_insert_b5 286 286 cv (nI K) m (nI S) sv (nI p) = some (nI (S + 1), sv') ∧ p' ≤ S ∧ (∀ i, i < S + 1 → sv' i = nI (h_ins so p' K i)) ∧ (0 < p' → c (so (p' - 1)) ≤ c K) ∧ ∀ i, p' ≤ i → i < S → c K < c (so i) := by
  have fin : ∀ (p : Nat) (sv : Nat → Int32), p ≤ S → (∀ i, i < p → sv i = nI (so i)) → (∀ i, p < i → i ≤ S → sv i = nI (so (i - 1))) → ∃ sv', pX3_insert_b51 286 (nI K) (nI S) sv (nI p) = some (nI (S + 1), sv') ∧ ∀ i, i < S + 1 → sv' i = nI (h_ins so p K i) := by
    intro p sv hp h1 h2
    unfold pX3_insert_b51
    rw [qf_out (by omega), if_neg (by omega), nI_clamp (by omega), nI_1]
    refine ⟨_, rfl, fun i hi => ?_⟩
    by_cases w : i = p
    · subst w; rw [pk_us, h_ins_eq]
    · rw [pk_un w]
      by_cases w2 : i < p
      · rw [h_ins_lt w2, h1 i w2]
      · rw [h_ins_gt (by omega), h2 i (by omega) (by omega)]
  intro p
  induction p with
  | zero =>
    intro m sv hp hm h1 h2 h3
    obtain ⟨m, rfl⟩ : ∃ z, m = z + 1 := ⟨m - 1, by omega⟩
    rw [pX3_insert_b5]
    dsimp only
    obtain ⟨sv', e1, e2⟩ := fin 0 sv hp h1 h2
    rw [nI_0] at e1
    rw [nI_0, if_pos (by decide), e1]
    exact ⟨0, sv', rfl, hp, e2, fun z => absurd z (Nat.lt_irrefl 0), h3⟩
  | succ p ih =>
    intro m sv hp hm h1 h2 h3
    obtain ⟨m, rfl⟩ : ∃ z, m = z + 1 := ⟨m - 1, by omega⟩
    rw [pX3_insert_b5]
    dsimp only
    have hsp := hso p (by omega)
    have a1 := hc (so p) (by omega)
    have a2 := hc K (Nat.le_refl K)
    rw [if_neg (nI_nle (by omega) (by omega)), nI_pred, qf_out (by omega), if_neg (by omega), nI_clamp (by omega), h1 p (by omega), qf_out (by omega), if_neg (by omega), qf_out (by omega), if_neg (by omega), nI_clamp (by omega), nI_clamp (by omega), a1.1, a2.1, qf_le (by omega) (by omega)]
    by_cases w : c (so p) ≤ c K
    · rw [if_pos w]
      obtain ⟨sv', e1, e2⟩ := fin (p + 1) sv hp h1 h2
      rw [e1]
      exact ⟨p + 1, sv', rfl, hp, e2, fun _ => w, h3⟩
    · rw [if_neg w, qf_o2 (by omega) (by omega), qf_out (by omega), if_neg (by omega), nI_clamp (by omega), pk_m1]
      refine ih m _ (by omega) (by omega) (fun i hi => by rw [pk_un (by omega)]; exact h1 i (by omega)) (fun i i1 i2 => ?_) (fun i i1 i2 => ?_)
      · by_cases z : i = p + 1
        · subst z; rw [pk_us]; rfl
        · rw [pk_un z]; exact h2 i (by omega) i2
      · by_cases z : i = p
        · subst z; omega
        · exact h3 i (by omega) i2
set_option maxRecDepth 100000 in
theorem sf_sortL {N : Nat} {cv : Nat → Int32} (hN : N ≤ 286) (hc : ∀ k, k < N → cv k = nI (c k) ∧ c k ≤ 100000) :
    ∀ (d m K : Nat) (so : Nat → Nat) (sv : Nat → Int32), N = K + d → d < m → h_srt c K (q_cp c K) so → (∀ i, i < q_cp c K → sv i = nI (so i)) →
    ∃ so' sv', pX3_sort_b7 286 286 cv (nI N) m (nI (q_cp c K)) sv (nI K) = some (nI (q_cp c N), sv') ∧ h_srt c N (q_cp c N) so' ∧ ∀ i, i < q_cp c N → sv' i = nI (so' i) := by
  intro d
  induction d with
  | zero =>
    intro m K so sv hK hm h1 h2
    obtain ⟨m, rfl⟩ : ∃ z, m = z + 1 := ⟨m - 1, by omega⟩
    have : K = N := by omega
    subst this
    rw [pX3_sort_b7]
    dsimp only
    rw [if_pos (Int32.le_refl _)]
    exact ⟨so, sv, rfl, h1, h2⟩
  | succ d ih =>
    intro m K so sv hK hm h1 h2
    obtain ⟨m, rfl⟩ : ∃ z, m = z + 1 := ⟨m - 1, by omega⟩
    have hck := hc K (by omega)
    have hcp : q_cp c (K + 1) = q_cp c K + if 0 < c K then 1 else 0 := rfl
    have hle := q_cp_le c K
    rw [pX3_sort_b7]
    dsimp only
    rw [qf_le (by omega) (by omega), if_neg (by omega), qf_out (by omega), if_neg (by omega), nI_clamp (by omega), hck.1]
    by_cases w : c K = 0
    · rw [w, if_pos (show nI 0 ≤ 0 by decide), nI_1]
      rw [if_neg (by omega), Nat.add_zero] at hcp
      have := ih m (K + 1) so sv (by omega) (by omega)
      rw [hcp] at this
      refine this ⟨fun i hi => ?_, h1.2.1, fun k hk hc0 => ?_, ?_⟩ h2
      · have := h1.1 i hi
        exact ⟨by omega, this.2⟩
      · by_cases z : k = K
        · subst z; omega
        · exact h1.2.2.1 k (by omega) hc0
      · rw [Nat.add_zero, h1.2.2.2, q_sum, w]; rfl
    · rw [if_neg (nI_nle (by omega) (by omega))]
      rw [if_pos (by omega)] at hcp
      unfold pX3_insert
      obtain ⟨p', sv', e1, e2, e3, e4, e5⟩ := sf_insL (S := q_cp c K) (so := so) (cv := cv) (show K < 286 by omega) hle (fun k hk => hc k (by omega)) (fun i hi => (h1.1 i hi).1) (q_cp c K) fb_F sv (Nat.le_refl _) (by unfold fb_F; omega) h2 (fun i i1 i2 => by omega) (fun i i1 i2 => by omega)
      rw [e1, Option.bind_some]
      dsimp only
      rw [nI_1]
      have := ih m (K + 1) (h_ins so p' K) sv' (by omega) (by omega)
      rw [hcp] at this
      exact this (h_srt_ins h1 (by omega) e2 e4 e5) e3
theorem sf_sort {N : Nat} {cv sv : Nat → Int32} (hN : N ≤ 286) (hc : ∀ k, k < N → cv k = nI (c k) ∧ c k ≤ 100000) :
    ∃ so' sv', pX3_sort 286 286 cv (nI N) sv = some (nI (q_cp c N), sv') ∧ h_srt c N (q_cp c N) so' ∧ ∀ i, i < q_cp c N → sv' i = nI (so' i) := by
  unfold pX3_sort
  have := sf_sortL hN hc N fb_F 0 (fun _ => 0) sv (by omega) (by unfold fb_F; omega) ⟨fun i hi => absurd hi (Nat.not_lt_zero i), fun i i' _ hi => absurd hi (Nat.not_lt_zero i'), fun k hk => absurd hk (Nat.not_lt_zero k), rfl⟩ (fun i hi => absurd hi (Nat.not_lt_zero i))
  rw [show q_cp c 0 = 0 from rfl, nI_0] at this
  exact this
end QV
