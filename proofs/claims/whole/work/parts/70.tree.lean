/-! ### the reference's tree: joining -/
section QW
theorem sf_rareL {al cv : Nat → Int32} {w : Nat → Nat} {nd m : Nat} (hnd : nd ≤ 576) (hm : m < nd) (ham : al m ≠ 0) (hw : ∀ k, k < nd → al k ≠ 0 → cv k = nI (w k) ∧ w k ≤ 100000 ∧ w m ≤ w k ∧ (k < m → w m < w k)) :
    ∀ (d f x : Nat) (best : Int32), nd = x + d → d < f → ((x ≤ m ∧ (best = -1 ∨ ∃ k, k < x ∧ al k ≠ 0 ∧ best = nI k)) ∨ (m < x ∧ best = nI m)) → pX11_rarest_b4 576 576 al cv (nI nd) f best (nI x) = some (nI m) := by
  intro d
  induction d with
  | zero =>
    intro f x best hx hf h
    obtain ⟨f, rfl⟩ : ∃ z, f = z + 1 := ⟨f - 1, by omega⟩
    rw [pX11_rarest_b4]
    dsimp only
    rw [qf_le (by omega) (by omega), if_pos (by omega)]
    rcases h with h | h
    · omega
    · rw [h.2]
  | succ d ih =>
    intro f x best hx hf h
    obtain ⟨f, rfl⟩ : ∃ z, f = z + 1 := ⟨f - 1, by omega⟩
    rw [pX11_rarest_b4]
    dsimp only
    rw [qf_le (by omega) (by omega), if_neg (by omega), qf_out (by omega), if_neg (by omega), nI_clamp (by omega), nI_1]
    by_cases c1 : al x = 0
    · rw [if_pos c1]
      have hxm : x ≠ m := fun z => ham (z ▸ c1)
      refine ih f (x + 1) best (by omega) (by omega) ?_
      rcases h with h | h
      · exact Or.inl ⟨by omega, h.2.imp id (fun ⟨k, k1, k2, k3⟩ => ⟨k, by omega, k2, k3⟩)⟩
      · exact Or.inr ⟨by omega, h.2⟩
    rw [if_neg c1]
    obtain ⟨a1, a2, a3, a4⟩ := hw x (by omega) c1
    have hmm := hw m hm ham
    have hnew : x ≤ m → pX11_rarest_b4 576 576 al cv (nI nd) f (nI x) (nI (x + 1)) = some (nI m) := by
      intro hxm
      refine ih f (x + 1) (nI x) (by omega) (by omega) ?_
      by_cases z : x = m
      · exact Or.inr ⟨by omega, by rw [z]⟩
      · exact Or.inl ⟨by omega, Or.inr ⟨x, by omega, c1, rfl⟩⟩
    rcases h with ⟨h1, h2 | ⟨k, k1, k2, k3⟩⟩ | ⟨h1, h2⟩
    · rw [h2, if_pos (by decide)]
      exact hnew h1
    · obtain ⟨b1, b2, b3, b4⟩ := hw k (by omega) k2
      rw [k3, if_neg (nI_pos (by omega)), qf_o2 (by omega) (by omega), qf_out (by omega), if_neg (by omega), nI_clamp (by omega), a1, b1, qf_le (by omega) (by omega)]
      by_cases z : w k ≤ w x
      · rw [if_pos z]
        have hxm : x ≠ m := by
          intro e
          have := b4 (by omega)
          rw [e] at z
          omega
        exact ih f (x + 1) (nI k) (by omega) (by omega) (Or.inl ⟨by omega, Or.inr ⟨k, by omega, k2, rfl⟩⟩)
      · rw [if_neg z]
        exact hnew h1
    · rw [h2, if_neg (nI_pos (by omega)), qf_o2 (by omega) (by omega), qf_out (by omega), if_neg (by omega), nI_clamp (by omega), a1, hmm.1, qf_le (by omega) (by omega), if_pos a3]
      exact ih f (x + 1) (nI m) (by omega) (by omega) (Or.inr ⟨by omega, rfl⟩)
theorem sf_rarest {al cv : Nat → Int32} {w : Nat → Nat} {nd m : Nat} (hnd : nd ≤ 576) (hm : m < nd) (ham : al m ≠ 0) (hw : ∀ k, k < nd → al k ≠ 0 → cv k = nI (w k) ∧ w k ≤ 100000 ∧ w m ≤ w k ∧ (k < m → w m < w k)) : pX11_rarest 576 576 al cv (nI nd) = some (nI m) := by
  unfold pX11_rarest
  have := sf_rareL hnd hm ham hw nd fb_F 0 (-1) (by omega) (by unfold fb_F; omega) (Or.inl ⟨Nat.zero_le m, Or.inl rfl⟩)
  rw [nI_0] at this
  exact this
/-- where the reference keeps the class's x -/
def h_pi (S N : Nat) (so : Nat → Nat) (x : Nat) : Nat := if x < S then so x else N + (x - S)
theorem h_pi_s {S N x : Nat} {so : Nat → Nat} (h : x < S) : h_pi S N so x = so x := if_pos h
theorem h_pi_j {S N x : Nat} {so : Nat → Nat} (h : S ≤ x) : h_pi S N so x = N + (x - S) := if_neg (by omega)
variable {N S : Nat} {c so : Nat → Nat}
theorem h_so_inj (h : h_srt c N S so) {i i' : Nat} (hi : i < S) (hi' : i' < S) (e : so i = so i') : i = i' := by
  rcases Nat.lt_trichotomy i i' with w | w | w
  · have := h.2.1 i i' w hi'
    rw [e] at this
    omega
  · exact w
  · have := h.2.1 i' i w hi
    rw [e] at this
    omega
theorem h_pi_inj (h : h_srt c N S so) {x y : Nat} (e : h_pi S N so x = h_pi S N so y) : x = y := by
  by_cases w : x < S
  · have := (h.1 x w).1
    by_cases w2 : y < S
    · rw [h_pi_s w, h_pi_s w2] at e
      exact h_so_inj h w w2 e
    · rw [h_pi_s w, h_pi_j (by omega)] at e
      omega
  · by_cases w2 : y < S
    · have := (h.1 y w2).1
      rw [h_pi_j (by omega), h_pi_s w2] at e
      omega
    · rw [h_pi_j (by omega), h_pi_j (by omega)] at e
      omega
theorem h_pi_lt (h : h_srt c N S so) {x j : Nat} (hx : x < S + j) : h_pi S N so x < N + j := by
  by_cases w : x < S
  · have := (h.1 x w).1
    rw [h_pi_s w]; omega
  · rw [h_pi_j (by omega)]; omega
def h_rel (N S : Nat) (c so : Nat → Nat) (j a b : Nat) (W P : Nat → Nat) (cv al pa : Nat → Int32) : Prop :=
  (∀ x, x < S + j → cv (h_pi S N so x) = nI (W x)) ∧ (∀ u, h_unc S j a b u → al (h_pi S N so u) = 1 ∧ pa (h_pi S N so u) = -1) ∧
  (∀ x, h_con S a b x → al (h_pi S N so x) = 0 ∧ pa (h_pi S N so x) = nI (h_pi S N so (P x))) ∧ (∀ k, k < N → c k = 0 → al k = 0 ∧ pa k = -1) ∧ ∀ k, k < N → cv k = nI (c k)
theorem h_tie (h : h_srt c N S so) {j a b : Nat} {W : Nat → Nat} (h4 : ∀ i, i < S → W i = c (so i)) (hs : ∀ i i', i ≤ i' → i' < S → W i ≤ W i') {u : Nat} (hu : h_unc S j a b u) (hlt : h_pi S N so u < h_pi S N so (h_pk S j a b W)) : W (h_pk S j a b W) < W u := by
  unfold h_pk at hlt ⊢
  by_cases w : h_sg S j a b W
  · rw [if_pos w] at hlt ⊢
    rw [h_pi_s w.1] at hlt
    have ha := (h.1 a w.1).1
    rcases hu with hu | hu
    · rw [h_pi_s hu.2] at hlt
      by_cases e : u = a
      · subst e; omega
      · have := h.2.1 a u (by omega) hu.2
        rw [h4 a w.1, h4 u hu.2]
        omega
    · rw [h_pi_j (by omega)] at hlt
      omega
  · rw [if_neg w] at hlt ⊢
    rw [h_pi_j (x := S + b) (by omega)] at hlt
    rcases hu with hu | hu
    · have := hs a u hu.1 hu.2
      have : W (S + b) < W a := by
        apply Classical.byContradiction
        intro z
        exact w ⟨by omega, Or.inr (by omega)⟩
      omega
    · rw [h_pi_j (x := u) (by omega)] at hlt
      omega
/-- every place of the reference is one of the class's, or a symbol that does not come -/
theorem h_pi_on (h : h_srt c N S so) {j k : Nat} (hk : k < N + j) : (k < N ∧ c k = 0) ∨ ∃ x, x < S + j ∧ h_pi S N so x = k := by
  by_cases w : k < N
  · by_cases z : c k = 0
    · exact Or.inl ⟨w, z⟩
    · obtain ⟨i, i1, i2⟩ := h.2.2.1 k w (by omega)
      exact Or.inr ⟨i, by omega, by rw [h_pi_s i1, i2]⟩
  · exact Or.inr ⟨S + (k - N), by omega, by rw [h_pi_j (by omega)]; omega⟩
theorem sf_pickM (h : h_srt c N S so) {j a b : Nat} {W : Nat → Nat} {cv al : Nat → Int32} (hNj : N + j ≤ 576) (hb : ∀ x, x < S + j → W x ≤ 100000) (h4 : ∀ i, i < S → W i = c (so i)) (hs : ∀ i i', i ≤ i' → i' < S → W i ≤ W i') (hj : ∀ i i', i ≤ i' → i' < j → W (S + i) ≤ W (S + i')) (ha : a ≤ S) (hb2 : b ≤ j) (hne : a < S ∨ b < j)
    (r1 : ∀ x, x < S + j → cv (h_pi S N so x) = nI (W x)) (r2 : ∀ u, h_unc S j a b u → al (h_pi S N so u) = 1) (r3 : ∀ x, h_con S a b x → al (h_pi S N so x) = 0) (r4 : ∀ k, k < N → c k = 0 → al k = 0) :
    pX11_rarest 576 576 al cv (nI (N + j)) = some (nI (h_pi S N so (h_pk S j a b W))) := by
  obtain ⟨-, -, -, x4, x5, -, -⟩ := h_pick hs hj ha hb2 hne
  have hx : h_pk S j a b W < S + j := by omega
  refine sf_rarest (w := fun k => (cv k).toNatClampNeg) hNj (h_pi_lt h hx) (by rw [r2 _ x4]; decide) (fun k hk hal => ?_)
  rcases h_pi_on h hk with z | ⟨u, u1, rfl⟩
  · exact absurd (r4 k z.1 z.2) hal
  · have hu : h_unc S j a b u := by
      apply Classical.byContradiction
      intro z
      exact hal (r3 u (by omega))
    have e1 : ∀ x, x < S + j → (cv (h_pi S N so x)).toNatClampNeg = W x := by
      intro x hx
      have := hb x hx
      rw [r1 x hx, nI_clamp (by omega)]
    rw [e1 u u1, e1 _ hx]
    exact ⟨r1 u u1, hb u u1, x5 u hu, fun z => h_tie h h4 hs hu z⟩
set_option maxRecDepth 100000 in
theorem sf_treeL (hN : N ≤ 286) (hS : S ≤ N) (h : h_srt c N S so) (hB : q_sum c N ≤ 100000) {A : Nat} {to : Nat → Int32} {sg : Int32} :
    ∀ (d m j : Nat) (cv al pa : Nat → Int32), S = j + d + 1 → d < m → h_rel N S c so j (h_run S (fun i => c (so i)) j).1 (h_run S (fun i => c (so i)) j).2.1 (h_run S (fun i => c (so i)) j).2.2.1 (h_run S (fun i => c (so i)) j).2.2.2 cv al pa →
    ∃ cv' al' pa', pX11_tree_b74 576 576 576 A (nI N) m cv al pa to (nI (N + j)) sg (nI (S - j)) = pX11_tree_b176 576 576 A (nI N) fb_F cv' al' pa' to sg 0 0 ∧
      h_rel N S c so (S - 1) (h_run S (fun i => c (so i)) (S - 1)).1 (h_run S (fun i => c (so i)) (S - 1)).2.1 (h_run S (fun i => c (so i)) (S - 1)).2.2.1 (h_run S (fun i => c (so i)) (S - 1)).2.2.2 cv' al' pa' := by
  have hs0 : ∀ i i', i ≤ i' → i' < S → c (so i) ≤ c (so i') := by
    intro i i' h1 h2
    by_cases w : i = i'
    · rw [w]; exact Nat.le_refl _
    · have := h.2.1 i i' (by omega) h2
      omega
  have h1 : ∀ i, i < S → 1 ≤ c (so i) := fun i hi => (h.1 i hi).2
  have hBS : q_sum (fun i => c (so i)) S ≤ 100000 := by rw [h.2.2.2]; exact hB
  intro d
  induction d with
  | zero =>
    intro m j cv al pa hj hm hr
    obtain ⟨m, rfl⟩ : ∃ z, m = z + 1 := ⟨m - 1, by omega⟩
    rw [pX11_tree_b74]
    dsimp only
    rw [show (1 : Int32) = nI 1 from rfl, qf_le (by omega) (by omega), if_pos (by omega)]
    exact ⟨cv, al, pa, rfl, by rw [show S - 1 = j by omega]; exact hr⟩
  | succ d ih =>
    intro m j cv al pa hj hm hr
    obtain ⟨m, rfl⟩ : ∃ z, m = z + 1 := ⟨m - 1, by omega⟩
    have hinv := h_run_inv (W0 := fun i => c (so i)) hs0 h1 j (by omega)
    have hbd := h_bound (by omega) hinv hBS
    have hrun : h_run S (fun i => c (so i)) (j + 1) = h_st S j (h_run S (fun i => c (so i)) j) := rfl
    have hih := ih m (j + 1)
    rw [hrun] at hih
    unfold h_st at hih
    dsimp only at hih
    obtain ⟨⟨i1, i2, i3⟩, i4, i5, -, i7, -⟩ := hinv
    have hs : ∀ i i', i ≤ i' → i' < S → (h_run S (fun i => c (so i)) j).2.2.1 i ≤ (h_run S (fun i => c (so i)) j).2.2.1 i' := fun i i' h1 h2 => by rw [i4 i (by omega), i4 i' h2]; exact hs0 i i' h1 h2
    generalize (h_run S (fun i => c (so i)) j).1 = a at *
    generalize (h_run S (fun i => c (so i)) j).2.1 = b at *
    generalize (h_run S (fun i => c (so i)) j).2.2.1 = W at *
    generalize (h_run S (fun i => c (so i)) j).2.2.2 = P at *
    obtain ⟨r1, r2, r3, r4, r5⟩ := hr
    have q1 := sf_pickM (al := al) h (show N + j ≤ 576 by omega) hbd i4 hs i5 i2 i3 (by omega) r1 (fun u hu => (r2 u hu).1) (fun x hx => (r3 x hx).1) (fun k k1 k2 => (r4 k k1 k2).1)
    obtain ⟨x1, x2, x3, x4, x5, x6, x7⟩ := h_pick hs i5 i2 i3 (by omega)
    generalize h_pk S j a b W = x at *
    generalize h_a S j a b W = a1 at *
    generalize h_b S j a b W = b1 at *
    have hx : x < S + j := by omega
    have q2 := sf_pickM (al := upd al (h_pi S N so x) 0) h (show N + j ≤ 576 by omega) hbd i4 hs i5 x1 x2 (by omega) r1 (fun u hu => by
        have h2 := (x7 u).mp hu
        rw [pk_un (fun e => h2.2 (h_pi_inj h e))]
        exact (r2 u h2.1).1) (fun z hz => by
        by_cases w : z = x
        · subst w; exact pk_us
        · rw [pk_un (fun e => w (h_pi_inj h e))]
          exact (r3 z (((x6 z).mp hz).elim id (fun e => absurd e w))).1) (fun k k1 k2 => by
        by_cases w : k = h_pi S N so x
        · rw [w]; exact pk_us
        · rw [pk_un w]; exact (r4 k k1 k2).1)
    obtain ⟨y1, y2, y3, y4, y5, y6, y7⟩ := h_pick hs i5 x1 x2 (by omega)
    generalize h_pk S j a1 b1 W = y at *
    generalize h_a S j a1 b1 W = a2 at *
    generalize h_b S j a1 b1 W = b2 at *
    have y4' := (x7 y).mp y4
    have hy : y < S + j := by omega
    have px := h_pi_lt h hx
    have py := h_pi_lt h hy
    rw [pX11_tree_b74]
    dsimp only
    rw [show (1 : Int32) = nI 1 from rfl, qf_le (by omega) (by omega), if_neg (by omega), q1, Option.bind_some, qf_out (by omega), if_neg (by omega), nI_clamp (by omega), show vp_nar .boolean (0 : Int32) = 0 from rfl, q2, Option.bind_some]
    rw [qf_out (by omega), if_neg (by omega), qf_o2 (by omega) (by omega), qf_out (by omega), if_neg (by omega), qf_out (by omega), if_neg (by omega), qf_o2 (by omega) (by omega), qf_out (by omega), if_neg (by omega), qf_out (by omega), if_neg (by omega), qf_out (by omega), if_neg (by omega), nI_clamp (by omega), nI_clamp (by omega), r1 x hx, r1 y hy, nI_add, nI_add, show vp_nar .boolean (nI 1) = 1 from rfl]
    have hm1 : nI (S - j) + (-1) = nI (S - (j + 1)) := by
      obtain ⟨e, he⟩ : ∃ e, S - j = e + 1 := ⟨S - j - 1, by omega⟩
      rw [he, pk_m1]
      congr 1
      omega
    rw [show (-nI 1 : Int32) = -1 from rfl, hm1, Nat.add_assoc]
    have hxy : x ≠ y := fun e => y4'.2 e.symm
    have pn : ∀ z w, z ≠ w → h_pi S N so z ≠ h_pi S N so w := fun z w hzw e => hzw (h_pi_inj h e)
    have pj : h_pi S N so (S + j) = N + j := by rw [h_pi_j (by omega)]; omega
    have pl : ∀ z, z < S + j → h_pi S N so z ≠ N + j := fun z hz e => by have := h_pi_lt h hz; omega
    refine hih _ _ _ (by omega) (by omega) ⟨fun z hz => ?_, fun u hu => ?_, fun z hz => ?_, fun k k1 k2 => ?_, fun k k1 => ?_⟩
    · by_cases w : z = S + j
      · rw [w, pj, pk_us, q_up_s]
      · rw [pk_un (pl z (by omega)), q_up_n w]
        exact r1 z (by omega)
    · by_cases w : u = S + j
      · rw [w, pj, pk_us, pk_us]
        exact ⟨rfl, rfl⟩
      · have h2 := (y7 u).mp (by omega)
        have h3 := (x7 u).mp h2.1
        rw [pk_un (pl u (by omega)), pk_un (pn u y h2.2), pk_un (pn u x h3.2), pk_un (pl u (by omega)), pk_un (pn u y h2.2), pk_un (pn u x h3.2)]
        exact r2 u h3.1
    · by_cases w : z = y
      · subst w
        rw [pk_un (pl z hy), pk_us, pk_un (pl z hy), pk_us, q_up_s, pj]
        exact ⟨rfl, rfl⟩
      · by_cases w2 : z = x
        · subst w2
          rw [pk_un (pl z hx), pk_un (pn z y w), pk_us, pk_un (pl z hx), pk_un (pn z y w), pk_us, q_up_n w, q_up_s, pj]
          exact ⟨rfl, rfl⟩
        · have hz2 : h_con S a b z := by
            rcases (y6 z).mp hz with e | e
            · rcases (x6 z).mp e with e2 | e2
              · exact e2
              · exact absurd e2 w2
            · exact absurd e w
          rw [pk_un (pl z (by omega)), pk_un (pn z y w), pk_un (pn z x w2), pk_un (pl z (by omega)), pk_un (pn z y w), pk_un (pn z x w2), q_up_n w, q_up_n w2]
          exact r3 z hz2
    · have hk : ∀ z, z < S + j → k ≠ h_pi S N so z := by
        intro z hz e
        by_cases w : z < S
        · rw [h_pi_s w] at e
          have := (h.1 z w).2
          rw [← e] at this
          omega
        · rw [h_pi_j (by omega)] at e
          omega
      rw [pk_un (by omega), pk_un (hk y hy), pk_un (hk x hx), pk_un (by omega), pk_un (hk y hy), pk_un (hk x hx)]
      exact r4 k k1 k2
    · rw [pk_un (by omega)]
      exact r5 k k1
end QW
