/-! ### joining: the class -/
section QT
variable {S : Nat}
theorem sf_part {j a b m x4 : Nat} {W : Nat → Nat} {K : (Nat → Int32) → (Nat → Int32) → Int32 → Int32 → Int32 → Option ((Nat → Int32) × (Nat → Int32))} {wv av : Nat → Int32} (hS : S ≤ 286) (hj : j + 1 < S) (ha : a ≤ S) (hb : b ≤ j) (hne : a < S ∨ b < j) (hx4 : x4 < 2)
    (hw : ∀ z, z < S + j → wv z = nI (W z)) (hB : ∀ z, z < S + j → W z ≤ 100000) :
    pX3_join_b34 572 572 (nI S) K (m + 1) wv av (nI a) (nI (S + b)) (nI (S + j)) (nI x4) =
      pX3_join_b34 572 572 (nI S) K m (upd wv (S + j) (wv (S + j) + nI (W (h_pk S j a b W)))) (upd av (h_pk S j a b W) (nI (S + j))) (nI (h_a S j a b W)) (nI (S + h_b S j a b W)) (nI (S + j)) (nI (x4 + 1)) := by
  have h91 : ∀ (x1 x2 : Int32) (x : Nat), x < S + j → pX3_join_b91 572 572 (pX3_join_b34 572 572 (nI S) K m) wv av x1 x2 (nI (S + j)) (nI x4) (nI x) = pX3_join_b34 572 572 (nI S) K m (upd wv (S + j) (wv (S + j) + nI (W x))) (upd av x (nI (S + j))) x1 x2 (nI (S + j)) (nI (x4 + 1)) := by
    intro x1 x2 x hx
    unfold pX3_join_b91
    rw [qf_out (by omega), if_neg (by omega), qf_out (by omega), if_neg (by omega), qf_out (by omega), if_neg (by omega), qf_out (by omega), if_neg (by omega), nI_clamp (by omega), nI_clamp (by omega), nI_1, hw x hx]
  rw [pX3_join_b34]
  dsimp only
  unfold h_pk h_a h_b
  rw [show (2 : Int32) = nI 2 from rfl, qf_le (by omega) (by omega), if_neg (by omega), qf_le (by omega) (by omega)]
  unfold pX3_join_b73
  rw [if_pos rfl, if_neg (show ¬ (1 : Int32) = 0 by decide), nI_1, nI_1]
  by_cases c1 : S ≤ a
  · have hn : ¬ h_sg S j a b W := fun w => by have := w.1; omega
    rw [if_pos c1, if_neg hn, if_neg hn, if_neg hn]
    exact h91 _ _ _ (by omega)
  rw [if_neg c1, qf_le (by omega) (by omega)]
  by_cases c2 : S + j ≤ S + b
  · have hn : h_sg S j a b W := ⟨by omega, Or.inl (by omega)⟩
    rw [if_pos c2, if_pos hn, if_pos hn, if_pos hn]
    exact h91 _ _ _ (by omega)
  have b1 := hB a (by omega)
  have b2 := hB (S + b) (by omega)
  rw [if_neg c2, qf_out (by omega), if_neg (by omega), qf_out (by omega), if_neg (by omega), nI_clamp (by omega), nI_clamp (by omega), hw a (by omega), hw (S + b) (by omega), qf_lt (by omega) (by omega)]
  by_cases c3 : W (S + b) < W a
  · have hn : ¬ h_sg S j a b W := fun w => by have := w.2; omega
    rw [if_pos c3, if_neg hn, if_neg hn, if_neg hn]
    exact h91 _ _ _ (by omega)
  · have hn : h_sg S j a b W := ⟨by omega, Or.inr (by omega)⟩
    rw [if_neg c3, if_pos hn, if_pos hn, if_pos hn]
    exact h91 _ _ _ (by omega)
set_option maxRecDepth 100000 in
theorem sf_joinL {W0 : Nat → Nat} (hS : S ≤ 286) (hs0 : ∀ i i', i ≤ i' → i' < S → W0 i ≤ W0 i') (h1 : ∀ i, i < S → 1 ≤ W0 i) (hB : q_sum W0 S ≤ 100000) :
    ∀ (d m j : Nat) (wv av : Nat → Int32), S = j + d + 1 → d < m → (∀ z, z < S + j → wv z = nI ((h_run S W0 j).2.2.1 z)) → (∀ z, h_con S (h_run S W0 j).1 (h_run S W0 j).2.1 z → av z = nI ((h_run S W0 j).2.2.2 z)) →
    ∃ wv' av', pX3_join_b12 572 572 (nI S) m wv av (nI (h_run S W0 j).1) (nI (S + (h_run S W0 j).2.1)) (nI (S + j)) = some (wv', av') ∧ ∀ z, h_con S (h_run S W0 (S - 1)).1 (h_run S W0 (S - 1)).2.1 z → av' z = nI ((h_run S W0 (S - 1)).2.2.2 z) := by
  intro d
  induction d with
  | zero =>
    intro m j wv av hj hm hw hp
    obtain ⟨m, rfl⟩ : ∃ z, m = z + 1 := ⟨m - 1, by omega⟩
    rw [pX3_join_b12]
    dsimp only
    rw [show (2 : Int32) = nI 2 from rfl, show (1 : Int32) = nI 1 from rfl, pk_mul, pk_sub (by omega), qf_le (by omega) (by omega), if_pos (by omega)]
    exact ⟨wv, av, rfl, by rw [show S - 1 = j by omega]; exact hp⟩
  | succ d ih =>
    intro m j wv av hj hm hw hp
    obtain ⟨m, rfl⟩ : ∃ z, m = z + 1 := ⟨m - 1, by omega⟩
    have hinv := h_run_inv hs0 h1 j (by omega)
    have hbd := h_bound (by omega) hinv hB
    have hrun : h_run S W0 (j + 1) = h_st S j (h_run S W0 j) := rfl
    have hih := ih m (j + 1)
    rw [hrun] at hih
    unfold h_st at hih
    dsimp only at hih
    rw [pX3_join_b12]
    dsimp only
    rw [show (2 : Int32) = nI 2 from rfl, show (1 : Int32) = nI 1 from rfl, pk_mul, pk_sub (by omega), qf_le (by omega) (by omega), if_neg (by omega), qf_out (by omega), if_neg (by omega), nI_clamp (by omega)]
    obtain ⟨⟨i1, i2, i3⟩, i4, i5, -⟩ := hinv
    have hs : ∀ i i', i ≤ i' → i' < S → (h_run S W0 j).2.2.1 i ≤ (h_run S W0 j).2.2.1 i' := fun i i' h1 h2 => by rw [i4 i (by omega), i4 i' h2]; exact hs0 i i' h1 h2
    generalize (h_run S W0 j).1 = a at *
    generalize (h_run S W0 j).2.1 = b at *
    generalize (h_run S W0 j).2.2.1 = W at *
    generalize (h_run S W0 j).2.2.2 = P at *
    have hw0 : ∀ z, z < S + j → upd wv (S + j) 0 z = nI (W z) := fun z hz => by rw [pk_un (by omega)]; exact hw z hz
    obtain ⟨x1, x2, x3, x4, x5, x6, x7⟩ := h_pick hs i5 i2 i3 (by omega)
    have e1 := sf_part (m := 4294967294 + 1) (x4 := 0) (K := pX3_join_b12 572 572 (nI S) m) (wv := upd wv (S + j) 0) (av := av) hS (by omega) i2 i3 (by omega) (by omega) hw0 hbd
    obtain ⟨y1, y2, y3, y4, y5, y6, y7⟩ := h_pick hs i5 x1 x2 (by omega)
    generalize h_pk S j a b W = x at *
    generalize h_a S j a b W = a1 at *
    generalize h_b S j a b W = b1 at *
    have e2 := sf_part (m := 4294967294) (x4 := 1) (K := pX3_join_b12 572 572 (nI S) m) (wv := upd (upd wv (S + j) 0) (S + j) (upd wv (S + j) 0 (S + j) + nI (W x))) (av := upd av x (nI (S + j))) hS (by omega) x1 x2 (by omega) (by omega) (fun z hz => by rw [pk_un (by omega)]; exact hw0 z hz) hbd
    generalize h_pk S j a1 b1 W = y at *
    generalize h_a S j a1 b1 W = a2 at *
    generalize h_b S j a1 b1 W = b2 at *
    rw [show fb_F = 4294967294 + 1 + 1 from rfl, ← nI_0] 
    rw [nI_0] at e1 ⊢
    rw [e1, e2, show (4294967294 : Nat) = 4294967293 + 1 from rfl, pX3_join_b34]
    dsimp only
    rw [show (2 : Int32) = nI 2 from rfl, qf_le (by omega) (by omega), if_pos (by omega), nI_1]
    have hx : x < S + j := by omega
    have y4' := (x7 y).mp y4
    have hy : y < S + j := by omega
    refine hih _ _ (by omega) (by omega) (fun z hz => ?_) (fun z hz => ?_)
    · by_cases c : z = S + j
      · subst c
        rw [pk_us, pk_us, pk_us, q_up_s, ← nI_0, nI_add, nI_add, Nat.zero_add]
      · rw [pk_un c, pk_un c, pk_un c, q_up_n c]
        exact hw z (by omega)
    · by_cases c : z = y
      · subst c
        rw [pk_us, q_up_s]
      · rw [pk_un c, q_up_n c]
        by_cases c2 : z = x
        · subst c2
          rw [pk_us, q_up_s]
        · rw [pk_un c2, q_up_n c2]
          refine hp z ?_
          rcases (y6 z).mp hz with w | w
          · rcases (x6 z).mp w with w2 | w2
            · exact w2
            · exact absurd w2 c2
          · exact absurd w c
end QT
