/-! ### depths: the class; how deep at most -/
section QU
variable {S : Nat}
theorem qf_o2 {α : Type} {a n : Nat} (ha : a < 2 ^ 31) (hn : a < n) {x y : α} : (if nI a < 0 ∨ n ≤ a then x else y) = y := if_neg (fun w => w.elim (nI_pos ha) (fun z => by omega))
def h_dep (P : Nat → Nat) (r : Nat) : Nat → Nat → Nat
  | 0, _ => 0
  | f + 1, x => if x < r then h_dep P r f (P x) + 1 else 0
theorem h_dep_eq {P : Nat → Nat} {r : Nat} (hP : ∀ x, x < r → x < P x) : ∀ f f' x, r - x ≤ f → r - x ≤ f' → h_dep P r f x = h_dep P r f' x := by
  intro f
  induction f with
  | zero =>
    intro f' x h1 h2
    cases f' with
    | zero => rfl
    | succ f' => rw [h_dep, h_dep, if_neg (by omega)]
  | succ f ih =>
    intro f' x h1 h2
    cases f' with
    | zero => rw [h_dep, h_dep, if_neg (by omega)]
    | succ f' =>
      rw [h_dep, h_dep]
      by_cases c : x < r
      · have := hP x c
        rw [if_pos c, if_pos c, ih f' (P x) (by omega) (by omega)]
      · rw [if_neg c, if_neg c]
def h_D (P : Nat → Nat) (r x : Nat) : Nat := h_dep P r (r - x) x
theorem h_D_lt {P : Nat → Nat} {r x : Nat} (hP : ∀ x, x < r → x < P x) (hx : x < r) : h_D P r x = h_D P r (P x) + 1 := by
  unfold h_D
  obtain ⟨f, hf⟩ : ∃ f, r - x = f + 1 := ⟨r - x - 1, by omega⟩
  rw [hf, h_dep, if_pos hx]
  have := hP x hx
  rw [h_dep_eq hP f (r - P x) (P x) (by omega) (by omega)]
theorem h_D_ge {P : Nat → Nat} {r x : Nat} (hx : r ≤ x) : h_D P r x = 0 := by
  unfold h_D
  rw [show r - x = 0 by omega, h_dep]
theorem h_D_le {P : Nat → Nat} {r : Nat} : ∀ f x, h_dep P r f x ≤ f := by
  intro f
  induction f with
  | zero => intro x; rw [h_dep]; exact Nat.le_refl 0
  | succ f ih =>
    intro x
    rw [h_dep]
    have := ih (P x)
    split <;> omega
set_option maxRecDepth 100000 in
theorem sf_deepL {P : Nat → Nat} {r : Nat} {wv av : Nat → Int32} (hP : ∀ x, x < r → x < P x ∧ P x ≤ r) (hr : r < 572) (hav : ∀ z, z < r → av z = nI (P z)) :
    ∀ (d m mx : Nat) (dv : Nat → Int32), d ≤ r → d < m → mx ≤ 600 → (∀ z, d ≤ z → z ≤ r → dv z = nI (h_D P r z)) →
    ∃ mx' dv', pX3_deepest_b63 572 572 m wv av dv (nI mx) (nI d - 1) = some (nI mx', wv, av, dv') ∧ mx' ≤ 600 ∧ (∀ z, z ≤ r → dv' z = nI (h_D P r z)) ∧ ∀ L, mx' ≤ L ↔ mx ≤ L ∧ ∀ z, z < d → h_D P r z ≤ L := by
  intro d
  induction d with
  | zero =>
    intro m mx dv hd hm hmx hdv
    obtain ⟨m, rfl⟩ : ∃ z, m = z + 1 := ⟨m - 1, by omega⟩
    rw [pX3_deepest_b63]
    dsimp only
    rw [if_pos (show nI 0 - 1 < 0 by decide)]
    exact ⟨mx, dv, rfl, hmx, fun z hz => hdv z (by omega) hz, fun L => ⟨fun h => ⟨h, fun z hz => by omega⟩, fun h => h.1⟩⟩
  | succ d ih =>
    intro m mx dv hd hm hmx hdv
    obtain ⟨m, rfl⟩ : ∃ z, m = z + 1 := ⟨m - 1, by omega⟩
    have h1 := hP d (by omega)
    have hD := h_D_lt (fun x hx => (hP x hx).1) (show d < r by omega)
    have hDl : h_D P r d ≤ r - d := h_D_le (r - d) d
    rw [pX3_deepest_b63]
    dsimp only
    rw [nI_pred, if_neg (nI_pos (by omega)), qf_out (by omega), if_neg (by omega), nI_clamp (by omega), hav d (by omega), qf_out (by omega), if_neg (by omega), qf_o2 (by omega) (by omega), qf_o2 (by omega) (by omega), nI_clamp (by omega), hdv (P d) (by omega) h1.2, nI_1, ← hD, pk_us, qf_lt (by omega) (by omega)]
    have hm1 : nI d + (-1) = nI d - 1 := by
      rw [show (-1 : Int32) = 0 - 1 from rfl]
      grind
    have hmax : (if mx < h_D P r d then nI (h_D P r d) else nI mx) = nI (max mx (h_D P r d)) := by
      by_cases c : mx < h_D P r d
      · rw [if_pos c]; congr 1; omega
      · rw [if_neg c]; congr 1; omega
    rw [hm1, hmax]
    obtain ⟨mx', dv', e1, e2, e3, e4⟩ := ih m (max mx (h_D P r d)) (upd dv d (nI (h_D P r d))) (by omega) (by omega) (by omega) (fun z z1 z2 => by
      by_cases w : z = d
      · subst w; exact pk_us
      · rw [pk_un w]; exact hdv z (by omega) z2)
    refine ⟨mx', dv', e1, e2, e3, fun L => (e4 L).trans ⟨fun h => ⟨by omega, fun z hz => ?_⟩, fun h => ⟨?_, fun z hz => h.2 z (by omega)⟩⟩⟩
    · by_cases w : z = d
      · subst w; omega
      · exact h.2 z (by omega)
    · have := h.2 d (by omega)
      omega
theorem sf_loadL {so W0 : Nat → Nat} {sov cv av dv : Nat → Int32} (hS : S ≤ 286) (hso : ∀ i, i < S → sov i = nI (so i) ∧ so i < 286 ∧ cv (so i) = nI (W0 i)) :
    ∀ (d m i : Nat) (wv : Nat → Int32), S = i + d → d < m → (∀ z, z < i → wv z = nI (W0 z)) →
    ∃ wv', (∀ z, z < S → wv' z = nI (W0 z)) ∧ ∀ m0, pX3_deepest_b2 286 286 572 572 572 (nI S) sov cv m wv av dv (nI i) = pX3_deepest_b2 286 286 572 572 572 (nI S) sov cv (m0 + 1) wv' av dv (nI S) := by
  intro d
  induction d with
  | zero =>
    intro m i wv hi hm hw
    obtain ⟨m, rfl⟩ : ∃ z, m = z + 1 := ⟨m - 1, by omega⟩
    have : i = S := by omega
    subst this
    refine ⟨wv, hw, fun m0 => ?_⟩
    rw [pX3_deepest_b2, pX3_deepest_b2]
    dsimp only
    rw [if_pos (Int32.le_refl _), if_pos (Int32.le_refl _)]
  | succ d ih =>
    intro m i wv hi hm hw
    obtain ⟨m, rfl⟩ : ∃ z, m = z + 1 := ⟨m - 1, by omega⟩
    obtain ⟨a1, a2, a3⟩ := hso i (by omega)
    obtain ⟨wv', e1, e2⟩ := ih m (i + 1) (upd wv i (nI (W0 i))) (by omega) (by omega) (fun z hz => by
      by_cases w : z = i
      · subst w; exact pk_us
      · rw [pk_un w]; exact hw z (by omega))
    refine ⟨wv', e1, fun m0 => ?_⟩
    rw [pX3_deepest_b2]
    dsimp only
    rw [qf_le (by omega) (by omega), if_neg (by omega), qf_out (by omega), if_neg (by omega), nI_clamp (by omega), a1, qf_out (by omega), if_neg (by omega), qf_o2 (by omega) (by omega), nI_clamp (by omega), a3, nI_1]
    exact e2 m0
set_option maxRecDepth 100000 in
theorem sf_deepest {so W0 : Nat → Nat} {sov cv wv av dv : Nat → Int32} (hS2 : 2 ≤ S) (hS : S ≤ 286) (hs0 : ∀ i i', i ≤ i' → i' < S → W0 i ≤ W0 i') (h1 : ∀ i, i < S → 1 ≤ W0 i) (hB : q_sum W0 S ≤ 100000) (hso : ∀ i, i < S → sov i = nI (so i) ∧ so i < 286 ∧ cv (so i) = nI (W0 i)) :
    ∃ mx wv' av' dv', pX3_deepest 286 286 572 572 572 (nI S) sov cv wv av dv = some (nI mx, wv', av', dv') ∧ mx ≤ 600 ∧ (∀ z, z < S → dv' z = nI (h_D (h_run S W0 (S - 1)).2.2.2 (2 * S - 2) z)) ∧ ∀ L, mx ≤ L ↔ ∀ z, z < 2 * S - 2 → h_D (h_run S W0 (S - 1)).2.2.2 (2 * S - 2) z ≤ L := by
  obtain ⟨wv1, w1, w2⟩ := sf_loadL (av := av) (dv := dv) hS hso S fb_F 0 wv (by omega) (by unfold fb_F; omega) (fun z hz => absurd hz (Nat.not_lt_zero z))
  have w3 := w2 0
  rw [nI_0] at w3
  unfold pX3_deepest
  rw [w3, pX3_deepest_b2]
  dsimp only
  rw [if_pos (Int32.le_refl _)]
  obtain ⟨wv2, av2, j1, j2⟩ := sf_joinL hS hs0 h1 hB (S - 1) fb_F 0 wv1 av (by omega) (by unfold fb_F; omega) (fun z hz => w1 z (by omega)) (fun z hz => by
    rw [h_run] at hz
    dsimp only at hz
    omega)
  have hinv := h_run_inv hs0 h1 (S - 1) (by omega)
  have he := h_end hS2 hinv
  rw [he.1, he.2] at j2
  have j3 : pX3_join 572 572 (nI S) wv1 av = some (wv2, av2) := by
    rw [h_run] at j1
    dsimp only at j1
    rw [nI_0, Nat.add_zero] at j1
    exact j1
  rw [j3, Option.bind_some, show (2 : Int32) = nI 2 from rfl, pk_mul, pk_sub (by omega), if_neg (nI_pos (by omega)), qf_out (by omega), if_neg (by omega), nI_clamp (by omega)]
  have i7 := hinv.2.2.2.2.1
  rw [he.1, he.2] at i7
  have hP : ∀ x, x < 2 * S - 2 → x < (h_run S W0 (S - 1)).2.2.2 x ∧ (h_run S W0 (S - 1)).2.2.2 x ≤ 2 * S - 2 := by
    intro x hx
    have := i7 x (by omega)
    omega
  obtain ⟨mx, dv3, e1, e2, e3, e4⟩ := sf_deepL (wv := wv2) (av := av2) hP (by omega) (fun z hz => j2 z (by omega)) (2 * S - 2) fb_F 0 (upd dv (2 * S - 2) 0) (Nat.le_refl _) (by unfold fb_F; omega) (by omega) (fun z z1 z2 => by
    have : z = 2 * S - 2 := by omega
    rw [this, pk_us, h_D_ge (Nat.le_refl _)]
    rfl)
  rw [nI_0] at e1
  rw [e1]
  exact ⟨mx, wv2, av2, dv3, rfl, e2, fun z hz => e3 z (by omega), fun L => (e4 L).trans ⟨fun h => h.2, fun h => ⟨Nat.zero_le L, h⟩⟩⟩
theorem h_leaf {W0 : Nat → Nat} {L : Nat} (hS2 : 2 ≤ S) (hs0 : ∀ i i', i ≤ i' → i' < S → W0 i ≤ W0 i') (h1 : ∀ i, i < S → 1 ≤ W0 i) (h : ∀ z, z < S → h_D (h_run S W0 (S - 1)).2.2.2 (2 * S - 2) z ≤ L) :
    ∀ z, z < 2 * S - 2 → h_D (h_run S W0 (S - 1)).2.2.2 (2 * S - 2) z ≤ L := by
  have hinv := h_run_inv hs0 h1 (S - 1) (by omega)
  have he := h_end hS2 hinv
  have i7 := hinv.2.2.2.2.1
  have i8 := hinv.2.2.2.2.2.1
  rw [he.1, he.2] at i7 i8
  have hP : ∀ x, x < 2 * S - 2 → x < (h_run S W0 (S - 1)).2.2.2 x := fun x hx => (i7 x (by omega)).2.2
  intro z
  induction z using Nat.strongRecOn with
  | _ z ih =>
    intro hz
    by_cases c : z < S
    · exact h z c
    · obtain ⟨x, y, x1, -, x2, -⟩ := i8 (z - S) (by omega)
      have x3 := (i7 x x1).2.2
      have x4 := ih x (by omega) (by omega)
      rw [h_D_lt hP (by omega), x2, show S + (z - S) = z by omega] at x4
      omega
def h_g : Nat → Nat → Nat → Nat
  | 0, _, B => B
  | e + 1, A, B => h_g e B (A + B)
theorem h_g_mono : ∀ e A B A' B', A ≤ A' → B ≤ B' → h_g e A B ≤ h_g e A' B' := by
  intro e
  induction e with
  | zero => intro A B A' B' _ h; exact h
  | succ e ih => intro A B A' B' h1 h2; rw [h_g, h_g]; exact ih _ _ _ _ h2 (by omega)
theorem h_g_up {A B : Nat} (hAB : A ≤ B) : ∀ e e', e ≤ e' → h_g e A B ≤ h_g e' A B := by
  intro e e'
  induction e' generalizing A B with
  | zero => intro h; rw [show e = 0 by omega]; exact Nat.le_refl _
  | succ e' ih =>
    intro h
    by_cases c : e = e' + 1
    · rw [c]; exact Nat.le_refl _
    · rw [h_g]
      have := ih (A := B) (B := A + B) (by omega) (by omega)
      have := h_g_mono e A B B (A + B) hAB (by omega)
      omega
theorem h_deep {W0 : Nat → Nat} (hS2 : 2 ≤ S) (hs0 : ∀ i i', i ≤ i' → i' < S → W0 i ≤ W0 i') (h1 : ∀ i, i < S → 1 ≤ W0 i) {e z : Nat} (hz : z < S) (he : e + 1 ≤ h_D (h_run S W0 (S - 1)).2.2.2 (2 * S - 2) z) : h_g e 1 2 ≤ q_sum W0 S := by
  have hinv := h_run_inv hs0 h1 (S - 1) (by omega)
  have hend := h_end hS2 hinv
  obtain ⟨-, i4, -, -, i7, i8, i9, i10, i12, i11⟩ := hinv
  rw [hend.1, hend.2] at i7 i8 i9 i12 i11
  generalize (h_run S W0 (S - 1)).2.2.1 = W at *
  generalize (h_run S W0 (S - 1)).2.2.2 = P at *
  have hP : ∀ x, x < 2 * S - 2 → x < P x := fun x hx => (i7 x (by omega)).2.2
  have hroot : W (2 * S - 2) = q_sum W0 S := by
    rw [← q_sum_congr S i4]
    obtain ⟨s, hs⟩ : ∃ s, S = s + 2 := ⟨S - 2, by omega⟩
    rw [show S - 1 = (S - 2) + 1 by omega, q_sum] at i11
    rw [show S + (S - 2) = 2 * S - 2 by omega] at i11
    omega
  have key : ∀ e x A B, x < 2 * S - 2 → e + 1 = h_D P (2 * S - 2) x → A ≤ W x → B ≤ W (P x) → h_g e A B ≤ W (2 * S - 2) := by
    intro e
    induction e with
    | zero =>
      intro x A B hx h2 hA hB
      rw [h_g]
      have h3 := i7 x (by omega)
      rw [h_D_lt hP hx] at h2
      have : P x = 2 * S - 2 := by
        apply Classical.byContradiction
        intro w
        rw [h_D_lt hP (show P x < 2 * S - 2 by omega)] at h2
        omega
      rw [this] at hB
      exact hB
    | succ e ih =>
      intro x A B hx h2 hA hB
      rw [h_g]
      have h3 := i7 x (by omega)
      rw [h_D_lt hP hx] at h2
      have hlt : P x < 2 * S - 2 := by
        apply Classical.byContradiction
        intro w
        rw [h_D_ge (by omega)] at h2
        omega
      have := i9 x (by omega) (by omega)
      exact ih (P x) B (A + B) hlt (by omega) hB (by omega)
  obtain ⟨e', he'⟩ : ∃ e', h_D P (2 * S - 2) z = e' + 1 := ⟨h_D P (2 * S - 2) z - 1, by omega⟩
  have a1 := i10 z (by omega)
  have a2 := i12 z (by omega)
  have := key e' z 1 2 (by omega) he'.symm a1 (by omega)
  have := h_g_up (A := 1) (B := 2) (by omega) e e' (by omega)
  omega
end QU
