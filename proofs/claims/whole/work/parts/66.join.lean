/-! ### joining the two rarest, again and again: in numbers -/
section QS
def q_up (f : Nat → Nat) (k x : Nat) : Nat → Nat := fun i => if i = k then x else f i
theorem q_up_s {f : Nat → Nat} {k x : Nat} : q_up f k x k = x := if_pos rfl
theorem q_up_n {f : Nat → Nat} {k x j : Nat} (h : j ≠ k) : q_up f k x j = f j := if_neg h
abbrev h_sg (S J a b : Nat) (W : Nat → Nat) : Prop := a < S ∧ (J ≤ b ∨ W a ≤ W (S + b))
def h_pk (S J a b : Nat) (W : Nat → Nat) : Nat := if h_sg S J a b W then a else S + b
def h_a (S J a b : Nat) (W : Nat → Nat) : Nat := if h_sg S J a b W then a + 1 else a
def h_b (S J a b : Nat) (W : Nat → Nat) : Nat := if h_sg S J a b W then b else b + 1
abbrev h_con (S a b x : Nat) : Prop := x < a ∨ (S ≤ x ∧ x < S + b)
abbrev h_unc (S J a b u : Nat) : Prop := (a ≤ u ∧ u < S) ∨ (S + b ≤ u ∧ u < S + J)
theorem h_pick {S J a b : Nat} {W : Nat → Nat} (hs : ∀ i i', i ≤ i' → i' < S → W i ≤ W i') (hj : ∀ i i', i ≤ i' → i' < J → W (S + i) ≤ W (S + i')) (ha : a ≤ S) (hb : b ≤ J) (hne : a < S ∨ b < J) :
    h_a S J a b W ≤ S ∧ h_b S J a b W ≤ J ∧ h_a S J a b W + h_b S J a b W = a + b + 1 ∧ h_unc S J a b (h_pk S J a b W) ∧ (∀ u, h_unc S J a b u → W (h_pk S J a b W) ≤ W u) ∧
    (∀ z, h_con S (h_a S J a b W) (h_b S J a b W) z ↔ h_con S a b z ∨ z = h_pk S J a b W) ∧ (∀ u, h_unc S J (h_a S J a b W) (h_b S J a b W) u ↔ h_unc S J a b u ∧ u ≠ h_pk S J a b W) := by
  unfold h_a h_b h_pk
  by_cases c : h_sg S J a b W
  · rw [if_pos c, if_pos c, if_pos c]
    refine ⟨by omega, hb, by omega, Or.inl ⟨Nat.le_refl a, c.1⟩, ?_, fun z => by omega, fun u => by omega⟩
    rintro u (hu | hu)
    · exact hs a u hu.1 hu.2
    · rcases c.2 with w | w
      · omega
      · have := hj b (u - S) (by omega) (by omega)
        rw [show S + (u - S) = u by omega] at this
        omega
  · rw [if_neg c, if_neg c, if_neg c]
    have hbJ : b < J := by
      apply Classical.byContradiction
      intro w
      exact c ⟨by omega, Or.inl (by omega)⟩
    refine ⟨ha, by omega, by omega, Or.inr ⟨Nat.le_refl _, by omega⟩, ?_, fun z => by omega, fun u => by omega⟩
    rintro u (hu | hu)
    · have h1 : W (S + b) ≤ W a := by
        apply Classical.byContradiction
        intro w
        exact c ⟨by omega, Or.inr (by omega)⟩
      have := hs a u hu.1 hu.2
      omega
    · have := hj b (u - S) (by omega) (by omega)
      rw [show S + (u - S) = u by omega] at this
      exact this
/-- one joining -/
def h_st (S J : Nat) (s : Nat × Nat × (Nat → Nat) × (Nat → Nat)) : Nat × Nat × (Nat → Nat) × (Nat → Nat) :=
  (h_a S J (h_a S J s.1 s.2.1 s.2.2.1) (h_b S J s.1 s.2.1 s.2.2.1) s.2.2.1, h_b S J (h_a S J s.1 s.2.1 s.2.2.1) (h_b S J s.1 s.2.1 s.2.2.1) s.2.2.1,
    q_up s.2.2.1 (S + J) (s.2.2.1 (h_pk S J s.1 s.2.1 s.2.2.1) + s.2.2.1 (h_pk S J (h_a S J s.1 s.2.1 s.2.2.1) (h_b S J s.1 s.2.1 s.2.2.1) s.2.2.1)),
    q_up (q_up s.2.2.2 (h_pk S J s.1 s.2.1 s.2.2.1) (S + J)) (h_pk S J (h_a S J s.1 s.2.1 s.2.2.1) (h_b S J s.1 s.2.1 s.2.2.1) s.2.2.1) (S + J))
def h_run (S : Nat) (W0 : Nat → Nat) : Nat → Nat × Nat × (Nat → Nat) × (Nat → Nat)
  | 0 => (0, 0, W0, fun _ => 0)
  | j + 1 => h_st S j (h_run S W0 j)
/-- what holds after j joinings -/
def h_inv (S : Nat) (W0 : Nat → Nat) (j a b : Nat) (W P : Nat → Nat) : Prop :=
  (a + b = 2 * j ∧ a ≤ S ∧ b ≤ j) ∧ (∀ i, i < S → W i = W0 i) ∧ (∀ i i', i ≤ i' → i' < j → W (S + i) ≤ W (S + i')) ∧ (∀ x u, h_con S a b x → h_unc S j a b u → W x ≤ W u) ∧
  (∀ x, h_con S a b x → S ≤ P x ∧ P x < S + j ∧ x < P x) ∧ (∀ i, i < j → ∃ x y, h_con S a b x ∧ h_con S a b y ∧ P x = S + i ∧ P y = S + i ∧ W (S + i) = W x + W y) ∧
  (∀ x, h_con S a b x → h_con S a b (P x) → W (P x) + W x ≤ W (P (P x))) ∧ (∀ x, x < S + j → 1 ≤ W x) ∧ (∀ x, h_con S a b x → W x + 1 ≤ W (P x)) ∧
  q_sum (fun i => W (S + i)) j = q_sum W a + q_sum (fun i => W (S + i)) b
theorem q_sum_congr {f g : Nat → Nat} : ∀ n, (∀ i, i < n → f i = g i) → q_sum f n = q_sum g n := by
  intro n
  induction n with
  | zero => intro _; rfl
  | succ n ih => intro h; rw [q_sum, q_sum, ih (fun i hi => h i (by omega)), h n (by omega)]
theorem h_sumup {S J a b : Nat} {W : Nat → Nat} : q_sum W (h_a S J a b W) + q_sum (fun i => W (S + i)) (h_b S J a b W) = q_sum W a + q_sum (fun i => W (S + i)) b + W (h_pk S J a b W) := by
  unfold h_a h_b h_pk
  by_cases c : h_sg S J a b W
  · rw [if_pos c, if_pos c, if_pos c, q_sum]; omega
  · rw [if_neg c, if_neg c, if_neg c, q_sum]; omega
set_option maxRecDepth 100000 in
theorem h_step {S : Nat} {W0 : Nat → Nat} (hs0 : ∀ i i', i ≤ i' → i' < S → W0 i ≤ W0 i') {j a b : Nat} {W P : Nat → Nat} (hj : j + 1 < S) (h : h_inv S W0 j a b W P) :
    h_inv S W0 (j + 1) (h_st S j (a, b, W, P)).1 (h_st S j (a, b, W, P)).2.1 (h_st S j (a, b, W, P)).2.2.1 (h_st S j (a, b, W, P)).2.2.2 := by
  obtain ⟨⟨i1, i2, i3⟩, i4, i5, i6, i7, i8, i9, i10, i12, i11⟩ := h
  have hs : ∀ i i', i ≤ i' → i' < S → W i ≤ W i' := fun i i' h1 h2 => by rw [i4 i (by omega), i4 i' h2]; exact hs0 i i' h1 h2
  have p1 := h_pick hs i5 i2 i3 (by omega)
  have q1 := h_sumup (S := S) (J := j) (a := a) (b := b) (W := W)
  unfold h_st
  dsimp only
  generalize h_pk S j a b W = x at p1 q1 ⊢
  generalize h_a S j a b W = a1 at p1 q1 ⊢
  generalize h_b S j a b W = b1 at p1 q1 ⊢
  obtain ⟨x1, x2, x3, x4, x5, x6, x7⟩ := p1
  have p2 := h_pick hs i5 x1 x2 (by omega)
  have q2 := h_sumup (S := S) (J := j) (a := a1) (b := b1) (W := W)
  generalize h_pk S j a1 b1 W = y at p2 q2 ⊢
  generalize h_a S j a1 b1 W = a2 at p2 q2 ⊢
  generalize h_b S j a1 b1 W = b2 at p2 q2 ⊢
  obtain ⟨y1, y2, y3, y4, y5, y6, y7⟩ := p2
  have y4' := (x7 y).mp y4
  have hxy := x5 y y4'.1
  have hcon : ∀ z, h_con S a2 b2 z ↔ h_con S a b z ∨ z = x ∨ z = y := by
    intro z
    rw [y6, x6, or_assoc]
  have hunc : ∀ u, h_unc S j a2 b2 u → h_unc S j a b u ∧ u ≠ x ∧ u ≠ y := by
    intro u hu
    have h1 := (y7 u).mp hu
    have h2 := (x7 u).mp h1.1
    exact ⟨h2.1, h2.2, h1.2⟩
  have hx : x < S + j := by omega
  have hy : y < S + j := by omega
  have hW : ∀ z, z < S + j → q_up W (S + j) (W x + W y) z = W z := fun z hz => q_up_n (by omega)
  have hP : ∀ z, z ≠ x → z ≠ y → q_up (q_up P x (S + j)) y (S + j) z = P z := fun z h1 h2 => by rw [q_up_n h2, q_up_n h1]
  have hPx : q_up (q_up P x (S + j)) y (S + j) x = S + j := by rw [q_up_n (fun z => y4'.2 z.symm), q_up_s]
  have hPy : q_up (q_up P x (S + j)) y (S + j) y = S + j := q_up_s
  have hconb : ∀ z, h_con S a b z → z < S + j ∧ z ≠ x ∧ z ≠ y := by
    intro z hz
    refine ⟨by omega, ?_, ?_⟩
    · rintro rfl; omega
    · rintro rfl; omega
  have hWn : q_up W (S + j) (W x + W y) (S + j) = W x + W y := q_up_s
  refine ⟨⟨by omega, y1, by omega⟩, fun i hi => by rw [hW i (by omega)]; exact i4 i hi, ?_, ?_, ?_, ?_, ?_, ?_, ?_, ?_⟩
  · intro i i' h1 h2
    by_cases c : i' = j
    · subst c
      rw [hWn]
      by_cases c2 : i = i'
      · subst c2; rw [hWn]; exact Nat.le_refl _
      · obtain ⟨x', y', z1, z2, z3, z4, z5⟩ := i8 i (by omega)
        rw [hW (S + i) (by omega), z5]
        have := i6 x' x z1 x4
        have := i6 y' y z2 y4'.1
        omega
    · rw [hW (S + i) (by omega), hW (S + i') (by omega)]
      exact i5 i i' h1 (by omega)
  · intro z u hz hu
    have hz2 : z < S + j := by
      rcases (hcon z).mp hz with w | w | w
      · exact (hconb z w).1
      · rw [w]; exact hx
      · rw [w]; exact hy
    rw [hW z hz2]
    have key : ∀ u, h_unc S j a2 b2 u → W z ≤ W u := by
      intro u hu
      have h1 := hunc u hu
      rcases (hcon z).mp hz with w | w | w
      · exact i6 z u w h1.1
      · rw [w]; exact x5 u h1.1
      · rw [w]; exact y5 u ((x7 u).mpr ⟨h1.1, h1.2.1⟩)
    by_cases c : u = S + j
    · subst c
      rw [hWn]
      rcases (hcon z).mp hz with w | w | w
      · have := i6 z x w x4; omega
      · rw [w]; omega
      · rw [w]; omega
    · rw [hW u (by omega)]
      exact key u (by omega)
  · intro z hz
    rcases (hcon z).mp hz with w | w | w
    · have := hconb z w
      rw [hP z this.2.1 this.2.2]
      have := i7 z w
      omega
    · rw [w, hPx]; omega
    · rw [w, hPy]; omega
  · intro i hi
    by_cases c : i = j
    · subst c
      exact ⟨x, y, (hcon x).mpr (Or.inr (Or.inl rfl)), (hcon y).mpr (Or.inr (Or.inr rfl)), hPx, hPy, by rw [hWn, hW x hx, hW y hy]⟩
    · obtain ⟨x', y', z1, z2, z3, z4, z5⟩ := i8 i (by omega)
      have h1 := hconb x' z1
      have h2 := hconb y' z2
      exact ⟨x', y', (hcon x').mpr (Or.inl z1), (hcon y').mpr (Or.inl z2), by rw [hP x' h1.2.1 h1.2.2]; exact z3, by rw [hP y' h2.2.1 h2.2.2]; exact z4, by rw [hW _ (by omega), hW _ h1.1, hW _ h2.1]; exact z5⟩
  · intro z hz hz2
    rcases (hcon z).mp hz with w | w | w
    · have h1 := hconb z w
      rw [hP z h1.2.1 h1.2.2] at hz2 ⊢
      have h7 := i7 z w
      rw [hW z h1.1, hW (P z) (by omega)]
      rcases (hcon (P z)).mp hz2 with w2 | w2 | w2
      · have h2 := hconb _ w2
        rw [hP _ h2.2.1 h2.2.2]
        have h8 := i7 _ w2
        rw [hW _ (by omega)]
        exact i9 z w w2
      · rw [w2, hPx, hWn]
        have := i6 z y w y4'.1
        omega
      · rw [w2, hPy, hWn]
        have := i6 z x w x4
        omega
    · rw [w, hPx] at hz2
      exfalso
      omega
    · rw [w, hPy] at hz2
      exfalso
      omega
  · intro z hz
    by_cases c : z = S + j
    · subst c
      rw [hWn]
      have := i10 x hx
      omega
    · rw [hW z (by omega)]
      exact i10 z (by omega)
  · intro z hz
    have a1 := i10 x hx
    have a2 := i10 y hy
    rcases (hcon z).mp hz with w | w | w
    · have h1 := hconb z w
      have h7 := i7 z w
      rw [hP z h1.2.1 h1.2.2, hW z h1.1, hW (P z) (by omega)]
      exact i12 z w
    · rw [w, hPx, hWn, hW x hx]; omega
    · rw [w, hPy, hWn, hW y hy]; omega
  · rw [q_sum]
    rw [hWn, q_sum_congr j (fun i hi => hW (S + i) (by omega)), q_sum_congr a2 (fun i hi => hW i (by omega)), q_sum_congr b2 (fun i hi => hW (S + i) (by omega))]
    omega
theorem h_run_inv {S : Nat} {W0 : Nat → Nat} (hs0 : ∀ i i', i ≤ i' → i' < S → W0 i ≤ W0 i') (h1 : ∀ i, i < S → 1 ≤ W0 i) : ∀ j, j < S → h_inv S W0 j (h_run S W0 j).1 (h_run S W0 j).2.1 (h_run S W0 j).2.2.1 (h_run S W0 j).2.2.2 := by
  intro j
  induction j with
  | zero =>
    intro _
    rw [h_run]
    dsimp only
    exact ⟨by omega, fun _ _ => rfl, fun i i' _ h => by omega, fun x u h _ => by omega, fun x h => by omega, fun i h => by omega, fun x h _ => by omega, fun x h => h1 x (by omega), fun x h => by omega, rfl⟩
  | succ j ih =>
    intro hj
    rw [h_run]
    exact h_step hs0 hj (ih (by omega))
theorem q_sum_le {f : Nat → Nat} {k : Nat} : ∀ n, k ≤ n → q_sum f k ≤ q_sum f n := by
  intro n
  induction n with
  | zero => intro h; rw [show k = 0 by omega]; exact Nat.le_refl _
  | succ n ih =>
    intro h
    by_cases c : k = n + 1
    · rw [c]; exact Nat.le_refl _
    · have := ih (by omega); rw [q_sum]; omega
theorem q_sum_el {f : Nat → Nat} {k i n : Nat} (h1 : k ≤ i) (h2 : i < n) : q_sum f k + f i ≤ q_sum f n := by
  have a := q_sum_le (f := f) i h1
  have b := q_sum_le (f := f) n (show i + 1 ≤ n by omega)
  rw [q_sum] at b
  omega
theorem h_bound {S B : Nat} {W0 : Nat → Nat} {j a b : Nat} {W P : Nat → Nat} (hj : j < S) (h : h_inv S W0 j a b W P) (hB : q_sum W0 S ≤ B) : ∀ z, z < S + j → W z ≤ B := by
  obtain ⟨⟨i1, i2, i3⟩, i4, i5, i6, i7, i8, i9, i10, i12, i11⟩ := h
  have hS : q_sum W S = q_sum W0 S := q_sum_congr S i4
  have ha := q_sum_le (f := W) S i2
  have hu : ∀ u, h_unc S j a b u → W u ≤ B := by
    rintro u (hu | hu)
    · have := q_sum_el (f := W) hu.1 hu.2
      omega
    · have := q_sum_el (f := fun i => W (S + i)) (k := b) (i := u - S) (n := j) (by omega) (by omega)
      rw [show S + (u - S) = u by omega] at this
      omega
  intro z hz
  by_cases c : h_unc S j a b z
  · exact hu z c
  · have : ∃ u, h_unc S j a b u := by
      by_cases w : a < S
      · exact ⟨a, Or.inl ⟨Nat.le_refl a, w⟩⟩
      · exact ⟨S + b, Or.inr ⟨Nat.le_refl _, by omega⟩⟩
    obtain ⟨u, hu2⟩ := this
    have := i6 z u (by omega) hu2
    have := hu u hu2
    omega
theorem h_end {S : Nat} {W0 : Nat → Nat} {a b : Nat} {W P : Nat → Nat} (hS : 2 ≤ S) (h : h_inv S W0 (S - 1) a b W P) : a = S ∧ b = S - 2 := by
  obtain ⟨⟨i1, i2, i3⟩, i4, i5, i6, i7, -⟩ := h
  have : b ≠ S - 1 := by
    intro w
    have := i7 (S + (S - 2)) (by omega)
    omega
  omega
end QS
