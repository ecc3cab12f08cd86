/-! ### the reference's tree: its ends -/
section QX
variable {N S A : Nat} {c so : Nat → Nat}
theorem sf_t8 {cv to : Nat → Int32} {x3 : Int32} (hN : N ≤ 286) (hc : ∀ k, k < N → cv k = nI (c k) ∧ c k ≤ 100000) :
    ∀ (d m K : Nat) (al pa : Nat → Int32), N = K + d → d < m → (∀ k, k < K → al k = (if 0 < c k then 1 else 0) ∧ pa k = -1) →
    ∃ al' pa', pX11_tree_b8 576 576 576 A (nI N) m cv al pa to x3 (nI (q_cp c K)) (nI K) = pX11_tree_b74 576 576 576 A (nI N) fb_F cv al' pa' to x3 (nI (q_cp c N)) (nI (q_cp c N)) ∧ ∀ k, k < N → al' k = (if 0 < c k then 1 else 0) ∧ pa' k = -1 := by
  intro d
  induction d with
  | zero =>
    intro m K al pa hK hm h
    obtain ⟨m, rfl⟩ : ∃ z, m = z + 1 := ⟨m - 1, by omega⟩
    have : K = N := by omega
    subst this
    rw [pX11_tree_b8]
    dsimp only
    rw [if_pos (Int32.le_refl _)]
    exact ⟨al, pa, rfl, h⟩
  | succ d ih =>
    intro m K al pa hK hm h
    obtain ⟨m, rfl⟩ : ∃ z, m = z + 1 := ⟨m - 1, by omega⟩
    have hck := hc K (by omega)
    have hcp : q_cp c (K + 1) = q_cp c K + if 0 < c K then 1 else 0 := rfl
    rw [pX11_tree_b8]
    dsimp only
    unfold pX11_tree_b35
    rw [qf_le (by omega) (by omega), if_neg (by omega), qf_out (by omega), if_neg (by omega), nI_clamp (by omega), hck.1, qf_o2 (by omega) (by omega), qf_o2 (by omega) (by omega), qf_o2 (by omega) (by omega), qf_o2 (by omega) (by omega), qf_o2 (by omega) (by omega), qf_o2 (by omega) (by omega), pk_us, pk_us, show vp_nar .boolean (0 : Int32) = 0 from rfl, show vp_nar .boolean (1 : Int32) = 1 from rfl, if_pos rfl, if_neg (show ¬ (1 : Int32) = 0 by decide), nI_1]
    have hih : ∀ (q : Int32) (z : Nat), q = (if 0 < c K then 1 else 0) → z = q_cp c (K + 1) → ∃ al' pa', pX11_tree_b8 576 576 576 A (nI N) m cv (upd al K q) (upd pa K (-1)) to x3 (nI z) (nI (K + 1)) = pX11_tree_b74 576 576 576 A (nI N) fb_F cv al' pa' to x3 (nI (q_cp c N)) (nI (q_cp c N)) ∧ ∀ k, k < N → al' k = (if 0 < c k then 1 else 0) ∧ pa' k = -1 := by
      intro q z hq hz
      rw [hz]
      refine ih m (K + 1) _ _ (by omega) (by omega) (fun k hk => ?_)
      by_cases w : k = K
      · subst w
        rw [pk_us, pk_us, hq]
        exact ⟨rfl, rfl⟩
      · rw [pk_un w, pk_un w]
        exact h k (by omega)
    by_cases w : c K = 0
    · rw [w, if_pos (show nI 0 ≤ 0 by decide), show nI (q_cp c K) + 0 = nI (q_cp c K + 0) from nI_add _ 0]
      exact hih 0 _ (by rw [if_neg (by omega)]) (by rw [hcp, if_neg (by omega)])
    · rw [if_neg (nI_nle (by omega) (by omega)), nI_1]
      exact hih 1 _ (by rw [if_pos (by omega)]) (by rw [hcp, if_pos (by omega)])
theorem sf_climb {P : Nat → Nat} {r : Nat} {cv al pa to : Nat → Int32} {x4 x5 x6 : Int32} (K : (Nat → Int32) → (Nat → Int32) → (Nat → Int32) → (Nat → Int32) → Int32 → Int32 → Int32 → Option (Int32 × (Nat → Int32) × (Nat → Int32) × (Nat → Int32) × (Nat → Int32)))
    (hP : ∀ x, x < r → x < P x ∧ P x ≤ r) (hpi : ∀ x, x ≤ r → h_pi S N so x < 576) (hpa : ∀ x, x < r → pa (h_pi S N so x) = nI (h_pi S N so (P x))) (hroot : pa (h_pi S N so r) = -1) :
    ∀ (d m x7 x : Nat), r - x ≤ d → d < m → x ≤ r → ∃ m', pX11_tree_b194 576 576 A K m cv al pa to x4 x5 x6 (nI x7) (pa (h_pi S N so x)) = pX11_tree_b194 576 576 A K (m' + 1) cv al pa to x4 x5 x6 (nI (x7 + h_D P r x)) (-1) := by
  intro d
  induction d with
  | zero =>
    intro m x7 x hx hm hr
    obtain ⟨m, rfl⟩ : ∃ z, m = z + 1 := ⟨m - 1, by omega⟩
    have : x = r := by omega
    subst this
    rw [hroot, h_D_ge (Nat.le_refl _), Nat.add_zero]
    exact ⟨m, rfl⟩
  | succ d ih =>
    intro m x7 x hx hm hr
    by_cases w : x = r
    · subst w
      obtain ⟨m, rfl⟩ : ∃ z, m = z + 1 := ⟨m - 1, by omega⟩
      rw [hroot, h_D_ge (Nat.le_refl _), Nat.add_zero]
      exact ⟨m, rfl⟩
    · obtain ⟨m, rfl⟩ : ∃ z, m = z + 1 := ⟨m - 1, by omega⟩
      have h1 := hP x (by omega)
      have h2 := hpi (P x) h1.2
      rw [hpa x (by omega), pX11_tree_b194]
      dsimp only
      rw [if_neg (nI_pos (by omega)), qf_out (by omega), if_neg (by omega), nI_clamp (by omega), nI_1, h_D_lt (fun x hx => (hP x hx).1) (show x < r by omega)]
      obtain ⟨m', e⟩ := ih m (x7 + 1) (P x) (by omega) (by omega) h1.2
      exact ⟨m', by rw [e, show x7 + 1 + h_D P r (P x) = x7 + (h_D P r (P x) + 1) by omega]⟩
theorem sf_t176 {cv al pa : Nat → Int32} {x4 : Int32} {f : Nat → Nat} (hN : N ≤ 286) (hA : N ≤ A) (hA2 : A ≤ 80000) (hf : ∀ k, k < N → f k ≤ 600)
    (hst : ∀ k, k < N → ∀ K to x5, pX11_tree_b194 576 576 A K fb_F cv al pa to x4 x5 (nI k) 0 (pa k) = pX11_tree_b239 A K cv al pa to x4 x5 (nI k) (nI (f k)) (nI k)) :
    ∀ (d m k mx : Nat) (to : Nat → Int32), N = k + d → d < m → mx ≤ 600 → (∀ i, i < k → to i = nI (f i)) →
    ∃ mx' to', pX11_tree_b176 576 576 A (nI N) m cv al pa to x4 (nI mx) (nI k) = some (nI mx', cv, al, pa, to') ∧ (∀ i, i < N → to' i = nI (f i)) ∧ mx' ≤ 600 ∧ ∀ L, mx' ≤ L ↔ mx ≤ L ∧ ∀ i, k ≤ i → i < N → f i ≤ L := by
  intro d
  induction d with
  | zero =>
    intro m k mx to hk hm hmx h
    obtain ⟨m, rfl⟩ : ∃ z, m = z + 1 := ⟨m - 1, by omega⟩
    rw [pX11_tree_b176]
    dsimp only
    rw [qf_le (by omega) (by omega), if_pos (by omega)]
    exact ⟨mx, to, rfl, fun i hi => h i (by omega), hmx, fun L => ⟨fun z => ⟨z, fun i i1 i2 => by omega⟩, fun z => z.1⟩⟩
  | succ d ih =>
    intro m k mx to hk hm hmx h
    obtain ⟨m, rfl⟩ : ∃ z, m = z + 1 := ⟨m - 1, by omega⟩
    have hfk := hf k (by omega)
    rw [pX11_tree_b176]
    dsimp only
    rw [qf_le (by omega) (by omega), if_neg (by omega), qf_out (by omega), if_neg (by omega), nI_clamp (by omega), hst k (by omega)]
    unfold pX11_tree_b239
    rw [qf_out (by omega), if_neg (by omega), qf_out (by omega), if_neg (by omega), nI_clamp (by omega), pk_us, qf_le (by omega) (by omega), qf_o2 (by omega) (by omega), nI_1]
    have hto : ∀ i, i < k + 1 → upd to k (nI (f k)) i = nI (f i) := by
      intro i hi
      by_cases w : i = k
      · subst w; exact pk_us
      · rw [pk_un w]; exact h i (by omega)
    by_cases w : f k ≤ mx
    · rw [if_pos w]
      obtain ⟨mx', to', e1, e2, e3, e4⟩ := ih m (k + 1) mx _ (by omega) (by omega) hmx hto
      refine ⟨mx', to', e1, e2, e3, fun L => (e4 L).trans ⟨fun z => ⟨z.1, fun i i1 i2 => ?_⟩, fun z => ⟨z.1, fun i i1 i2 => z.2 i (by omega) i2⟩⟩⟩
      by_cases q : i = k
      · subst q; have := z.1; omega
      · exact z.2 i (by omega) i2
    · rw [if_neg w]
      obtain ⟨mx', to', e1, e2, e3, e4⟩ := ih m (k + 1) (f k) _ (by omega) (by omega) hfk hto
      refine ⟨mx', to', e1, e2, e3, fun L => (e4 L).trans ⟨fun z => ⟨by have := z.1; omega, fun i i1 i2 => ?_⟩, fun z => ⟨z.2 k (Nat.le_refl k) (by omega), fun i i1 i2 => z.2 i (by omega) i2⟩⟩⟩
      by_cases q : i = k
      · subst q; exact z.1
      · exact z.2 i (by omega) i2
set_option maxRecDepth 100000 in
theorem sf_tree {cv al pa to : Nat → Int32} (hN : N ≤ 286) (hA : N ≤ A) (hA2 : A ≤ 80000) (hc : ∀ k, k < N → cv k = nI (c k)) (hsum : q_sum c N ≤ 100000) (h : h_srt c N S so) (hS : S = q_cp c N) :
    ∃ (mx : Nat) (cv' al' pa' to' : Nat → Int32) (f : Nat → Nat), pX11_tree 576 576 576 A (nI N) cv al pa to = some (nI mx, cv', al', pa', to') ∧ (∀ k, k < N → cv' k = nI (c k)) ∧ (∀ k, k < N → to' k = nI (f k) ∧ f k ≤ 600) ∧ (∀ L, mx ≤ L ↔ ∀ k, k < N → f k ≤ L) ∧ mx ≤ 600 ∧
      (∀ k, k < N → c k = 0 → f k = 0) ∧ (S = 1 → f (so 0) = 1) ∧ (2 ≤ S → ∀ i, i < S → f (so i) = h_D (h_run S (fun i => c (so i)) (S - 1)).2.2.2 (2 * S - 2) i) := by
  have hcb : ∀ k, k < N → cv k = nI (c k) ∧ c k ≤ 100000 := fun k hk => ⟨hc k hk, by have := q_sum_el (f := c) (k := 0) (i := k) (n := N) (by omega) hk; omega⟩
  have hSN : S ≤ N := by rw [hS]; exact q_cp_le c N
  obtain ⟨al1, pa1, e1, e2⟩ := sf_t8 (A := A) (to := to) (x3 := nI N) hN hcb N fb_F 0 al pa (by omega) (by unfold fb_F; omega) (fun k hk => absurd hk (Nat.not_lt_zero k))
  unfold pX11_tree
  rw [show q_cp c 0 = 0 from rfl, nI_0] at e1
  rw [e1, ← hS]
  have hidx : ∀ k, ∃ i, k < N → 0 < c k → i < S ∧ so i = k := by
    intro k
    by_cases w : k < N ∧ 0 < c k
    · obtain ⟨i, i1, i2⟩ := h.2.2.1 k w.1 w.2
      exact ⟨i, fun _ _ => ⟨i1, i2⟩⟩
    · exact ⟨0, fun h1 h2 => absurd ⟨h1, h2⟩ w⟩
  obtain ⟨idx, hidx⟩ := Classical.axiomOfChoice hidx
  have hend : ∀ {cv1 al1 pa1 : Nat → Int32} {f : Nat → Nat}, (∀ k, k < N → f k ≤ 600) → (∀ k, k < N → ∀ K to x5, pX11_tree_b194 576 576 A K fb_F cv1 al1 pa1 to (nI S) x5 (nI k) 0 (pa1 k) = pX11_tree_b239 A K cv1 al1 pa1 to (nI S) x5 (nI k) (nI (f k)) (nI k)) →
      ∃ mx to', pX11_tree_b176 576 576 A (nI N) fb_F cv1 al1 pa1 to (nI S) 0 0 = some (nI mx, cv1, al1, pa1, to') ∧ (∀ i, i < N → to' i = nI (f i)) ∧ mx ≤ 600 ∧ ∀ L, mx ≤ L ↔ ∀ i, i < N → f i ≤ L := by
    intro cv1 al1 pa1 f hf hst
    obtain ⟨mx, to', z1, z2, z3, z4⟩ := sf_t176 hN hA hA2 hf hst N fb_F 0 0 to (by omega) (by unfold fb_F; omega) (by omega) (fun i hi => absurd hi (Nat.not_lt_zero i))
    rw [nI_0] at z1
    exact ⟨mx, to', z1, z2, z3, fun L => (z4 L).trans ⟨fun q i hi => q.2 i (Nat.zero_le i) hi, fun q => ⟨Nat.zero_le L, fun i _ hi => q i hi⟩⟩⟩
  by_cases hS1 : S ≤ 1
  · have e3 : pX11_tree_b74 576 576 576 A (nI N) fb_F cv al1 pa1 to (nI N) (nI S) (nI S) = pX11_tree_b176 576 576 A (nI N) fb_F cv al1 pa1 to (nI S) 0 0 := by
      rw [show pX11_tree_b74 576 576 576 A (nI N) fb_F = pX11_tree_b74 576 576 576 A (nI N) (4294967295 + 1) from rfl, pX11_tree_b74]
      dsimp only
      rw [show (1 : Int32) = nI 1 from rfl, qf_le (by omega) (by omega), if_pos hS1]
    have hst : ∀ k, k < N → ∀ K to x5, pX11_tree_b194 576 576 A K fb_F cv al1 pa1 to (nI S) x5 (nI k) 0 (pa1 k) = pX11_tree_b239 A K cv al1 pa1 to (nI S) x5 (nI k) (nI (if c k = 0 then 0 else 1)) (nI k) := by
      intro k hk K to x5
      rw [(e2 k hk).2, show fb_F = 4294967295 + 1 from rfl, pX11_tree_b194]
      dsimp only
      rw [if_pos (by decide)]
      have hck := hcb k hk
      by_cases w : c k = 0
      · rw [if_pos w, qf_out (by omega), if_neg (show ¬ 576 ≤ k by omega), nI_clamp (by omega), hck.1, w, if_pos (show nI 0 ≤ 0 by decide), ite_self]
        rfl
      · have hS2 : S = 1 := by
          have := hidx k hk (by omega)
          omega
        rw [if_neg w, hS2, if_pos (show nI 1 = (1 : Int32) from rfl), qf_out (by omega), if_neg (by omega), nI_clamp (by omega), hck.1, if_neg (nI_nle (by omega) (by omega))]
        rfl
    obtain ⟨mx, to', z1, z2, z3, z4⟩ := hend (f := fun k => if c k = 0 then 0 else 1) (fun k hk => by split <;> omega) hst
    rw [e3, z1]
    refine ⟨mx, cv, al1, pa1, to', fun k => if c k = 0 then 0 else 1, rfl, hc, fun k hk => ⟨z2 k hk, by dsimp only; split <;> omega⟩, z4, z3, fun k hk w => if_pos w, fun w => ?_, fun w => by omega⟩
    have := (h.1 0 (by omega)).2
    exact if_neg (by omega)
  · have hrel : h_rel N S c so 0 (h_run S (fun i => c (so i)) 0).1 (h_run S (fun i => c (so i)) 0).2.1 (h_run S (fun i => c (so i)) 0).2.2.1 (h_run S (fun i => c (so i)) 0).2.2.2 cv al1 pa1 := by
      rw [h_run]
      dsimp only
      refine ⟨fun x hx => ?_, fun u hu => ?_, fun x hx => by omega, fun k hk w => ?_, hc⟩
      · rw [h_pi_s (by omega)]
        exact hc _ (h.1 x (by omega)).1
      · have hu2 : u < S := by omega
        rw [h_pi_s hu2]
        have := h.1 u hu2
        have e := e2 _ this.1
        rw [if_pos this.2] at e
        exact e
      · have e := e2 k hk
        rw [if_neg (by omega)] at e
        exact e
    obtain ⟨cv2, al2, pa2, t1, t2⟩ := sf_treeL (A := A) (to := to) (sg := nI S) hN hSN h hsum (S - 1) fb_F 0 cv al1 pa1 (by omega) (by unfold fb_F; omega) hrel
    rw [Nat.add_zero, Nat.sub_zero] at t1
    have hs0 : ∀ i i', i ≤ i' → i' < S → c (so i) ≤ c (so i') := by
      intro i i' h1 h2
      by_cases w : i = i'
      · rw [w]; exact Nat.le_refl _
      · have := h.2.1 i i' (by omega) h2
        omega
    have hinv := h_run_inv (W0 := fun i => c (so i)) hs0 (fun i hi => (h.1 i hi).2) (S - 1) (by omega)
    have he := h_end (by omega) hinv
    have i7 := hinv.2.2.2.2.1
    rw [he.1, he.2] at i7 t2
    obtain ⟨r1, r2, r3, r4, r5⟩ := t2
    generalize (h_run S (fun i => c (so i)) (S - 1)).2.2.2 = P at *
    have hP : ∀ x, x < 2 * S - 2 → x < P x ∧ P x ≤ 2 * S - 2 := by
      intro x hx
      have := i7 x (by omega)
      omega
    have hpi : ∀ x, x ≤ 2 * S - 2 → h_pi S N so x < 576 := by
      intro x hx
      have := h_pi_lt h (x := x) (j := S - 1) (by omega)
      omega
    have hDb : ∀ i, h_D P (2 * S - 2) i ≤ 600 := by
      intro i
      have : h_D P (2 * S - 2) i ≤ 2 * S - 2 - i := h_D_le _ i
      omega
    have hS1' : ¬ nI S = (1 : Int32) := by
      rw [show (1 : Int32) = nI 1 from rfl, nI_eq (by omega) (by omega)]
      omega
    have hst : ∀ k, k < N → ∀ K to x5, pX11_tree_b194 576 576 A K fb_F cv2 al2 pa2 to (nI S) x5 (nI k) 0 (pa2 k) = pX11_tree_b239 A K cv2 al2 pa2 to (nI S) x5 (nI k) (nI (if c k = 0 then 0 else h_D P (2 * S - 2) (idx k))) (nI k) := by
      intro k hk K to x5
      by_cases w : c k = 0
      · rw [(r4 k hk w).2, if_pos w, show fb_F = 4294967295 + 1 from rfl, pX11_tree_b194]
        dsimp only
        rw [if_pos (by decide), if_neg hS1']
        rfl
      · have hi := hidx k hk (by omega)
        rw [if_neg w]
        obtain ⟨m', e⟩ := sf_climb (A := A) (x4 := nI S) (x5 := x5) (x6 := nI k) (cv := cv2) (al := al2) (pa := pa2) (to := to) K hP hpi (fun x hx => (r3 x (by omega)).2) (r2 (2 * S - 2) (by omega)).2 (2 * S - 2) fb_F 0 (idx k) (by omega) (by unfold fb_F; omega) (by omega)
        rw [h_pi_s hi.1, hi.2, nI_0, Nat.zero_add] at e
        rw [e, pX11_tree_b194]
        dsimp only
        rw [if_pos (by decide), if_neg hS1']
    obtain ⟨mx, to', z1, z2, z3, z4⟩ := hend (f := fun k => if c k = 0 then 0 else h_D P (2 * S - 2) (idx k)) (fun k hk => by have := hDb (idx k); split <;> omega) hst
    rw [t1, z1]
    refine ⟨mx, cv2, al2, pa2, to', fun k => if c k = 0 then 0 else h_D P (2 * S - 2) (idx k), rfl, r5, fun k hk => ⟨z2 k hk, by dsimp only; have := hDb (idx k); split <;> omega⟩, z4, z3, fun k hk w => if_pos w, fun w => by omega, fun _ i hi => ?_⟩
    have hh := h.1 i hi
    have hi2 := hidx (so i) hh.1 hh.2
    dsimp only
    rw [if_neg (by omega), h_so_inj h hi2.1 hi hi2.2]
end QX
