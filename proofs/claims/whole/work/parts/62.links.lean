/-! ### slots, links, one search -/
section QO
variable {R TN n ch En : Nat} {v tv : Nat → Int32} {t : Nat → Nat}
theorem q_ofN (x : Int32) : x = nI x.toBitVec.toNat := Int32.toBitVec_inj.mp (BitVec.eq_of_toNat_eq (by rw [pk_tn x.toBitVec.isLt]))
def q_slotI (a b c : Int32) : Int32 := (((((((a <<< ((16 : Int32) &&& 31)) ||| (b <<< ((8 : Int32) &&& 31))) ||| c) * (-1640531535 : Int32))).toUInt32 >>> (((20 : Int32)).toUInt32 &&& Int32.toUInt32 31)).toInt32)
def q_slot (t : Nat → Nat) (q : Nat) : Nat := (q_slotI (nI (t q)) (nI (t (q + 1))) (nI (t (q + 2)))).toBitVec.toNat
theorem q_slot_lt (t : Nat → Nat) (q : Nat) : q_slot t q < 4096 := by
  unfold q_slot q_slotI
  rw [pk_ushr _ _ 20 (by decide)]
  generalize (((nI (t q) <<< ((16 : Int32) &&& 31)) ||| (nI (t (q + 1)) <<< ((8 : Int32) &&& 31))) ||| nI (t (q + 2))) * (-1640531535 : Int32) = x
  have := x.toBitVec.isLt
  omega
theorem q_slot_like {p j : Nat} (h : q_like t p j) : q_slot t j = q_slot t p := by
  obtain ⟨h1, h2, h3⟩ := h
  unfold q_slot
  rw [h1, h2, h3]
theorem sf_gett (hR : R ≤ 80000) (hn : n ≤ R) (h : q_by n v tv t) {q : Nat} (hq : q < n) : pX6_get R (nI n) v (nI q) = some (nI (t q)) := by
  unfold pX6_get
  obtain ⟨a1, a2, _⟩ := h q hq
  rw [if_neg (nI_pos (by omega)), qf_le (by omega) (by omega), if_neg (by omega), qf_out (by omega), if_neg (by omega), nI_clamp (by omega), a2, yb_and a1]
theorem sf_slot (hR : R ≤ 80000) (hn : n ≤ R) (h : q_by n v tv t) {q : Nat} (hq : q + 2 < n) : pX4_slot R (nI n) v (nI q) = some (nI (q_slot t q)) := by
  unfold pX4_slot
  rw [nI_1, show (2 : Int32) = nI 2 from rfl, nI_add, sf_gett hR hn h (by omega), Option.bind_some, sf_gett hR hn h (by omega), Option.bind_some, sf_gett hR hn h (by omega), Option.bind_some]
  exact congrArg some (q_ofN _)
def q_mix (t : Nat → Nat) (q : Nat) : Nat := (t q * 331 + t (q + 1) * 37 + t (q + 2)) % 4096
theorem q_mix_lt (t : Nat → Nat) (q : Nat) : q_mix t q < 4096 := Nat.mod_lt _ (by omega)
theorem q_mix_like {p j : Nat} (h : q_like t p j) : q_mix t j = q_mix t p := by
  obtain ⟨h1, h2, h3⟩ := h
  unfold q_mix
  rw [h1, h2, h3]
theorem sf_mixed (hT : n ≤ TN) (hTN : TN ≤ 80000) (h : q_by n v tv t) {q : Nat} (hq : q + 2 < n) : pX11_mixed TN tv (nI q) = some (nI (q_mix t q)) := by
  unfold pX11_mixed
  obtain ⟨a1, _, a3⟩ := h q (by omega)
  obtain ⟨b1, _, b3⟩ := h (q + 1) (by omega)
  obtain ⟨c1, _, c3⟩ := h (q + 2) (by omega)
  rw [nI_1, show (2 : Int32) = nI 2 from rfl, nI_add, qf_out (by omega), if_neg (by omega), qf_out (by omega), if_neg (by omega), qf_out (by omega), if_neg (by omega), nI_clamp (by omega), nI_clamp (by omega), nI_clamp (by omega), a3, b3, c3,
    show (331 : Int32) = nI 331 from rfl, show (37 : Int32) = nI 37 from rfl, show (4096 : Int32) = nI 4096 from rfl, pk_mul, pk_mul, nI_add, nI_add, pk_rem (by omega) (by omega) (by omega)]
  rfl
theorem q_prev_new (s : Nat → Nat) (q : Nat) : q_prev s (q + 1) (s q) (q + 1) := ⟨Nat.le_refl _, fun j h1 h2 => by omega, fun _ => rfl⟩
theorem q_prev_old {s : Nat → Nat} {q x r : Nat} (h : q_prev s q x r) (hx : s q ≠ x) : q_prev s (q + 1) x r := by
  obtain ⟨h1, h2, h3⟩ := h
  refine ⟨by omega, fun j j1 j2 => ?_, h3⟩
  by_cases c : j = q
  · rw [c]; exact hx
  · exact h2 j j1 (by omega)
theorem q_prev_0 (s : Nat → Nat) (x : Nat) : q_prev s 0 x 0 := ⟨Nat.le_refl 0, fun j _ h => absurd h (Nat.not_lt_zero j), fun h => absurd h (Nat.lt_irrefl 0)⟩
/-- the class's matcher: lk places are linked -/
def q_mt (t : Nat → Nat) (lk : Nat) (lat ev : Nat → Int32) : Prop := (∀ x, x < 4096 → ∃ r, lat x = nI r ∧ q_prev (q_slot t) lk x r) ∧ q_chC (q_slot t) lk ev
/-- the reference's -/
def q_mm (t : Nat → Nat) (at_ : Nat) (hd ev : Nat → Int32) : Prop := (∀ x, x < 4096 → ∃ r, hd x = nI r - 1 ∧ q_prev (q_mix t) at_ x r) ∧ q_chM (q_mix t) at_ ev
theorem q_mt_congr {t t' : Nat → Nat} {lk : Nat} {lat ev : Nat → Int32} (h : q_mt t lk lat ev) (he : ∀ j, j < lk + 2 → t j = t' j) : q_mt t' lk lat ev := by
  have hs : ∀ q, q < lk → q_slot t' q = q_slot t q := by
    intro q hq
    unfold q_slot
    rw [he q (by omega), he (q + 1) (by omega), he (q + 2) (by omega)]
  have hp : ∀ q x r, q ≤ lk → q_prev (q_slot t) q x r → q_prev (q_slot t') q x r := by
    rintro q x r hq ⟨h1, h2, h3⟩
    exact ⟨h1, fun j j1 j2 => by rw [hs j (by omega)]; exact h2 j j1 j2, fun z => by rw [hs (r - 1) (by omega)]; exact h3 z⟩
  refine ⟨fun x hx => ?_, fun q hq => ?_⟩
  · obtain ⟨r, r1, r2⟩ := h.1 x hx
    exact ⟨r, r1, hp lk x r (Nat.le_refl _) r2⟩
  · obtain ⟨r, r1, r2⟩ := h.2 q hq
    exact ⟨r, r1, by rw [hs q hq]; exact hp q _ r (by omega) r2⟩
theorem q_mt0 (t : Nat → Nat) {lat ev : Nat → Int32} (h : ∀ x, x < 4096 → lat x = 0) : q_mt t 0 lat ev := ⟨fun x hx => ⟨0, by rw [h x hx]; rfl, q_prev_0 _ _⟩, fun q hq => absurd hq (Nat.not_lt_zero q)⟩
theorem q_mm0 (t : Nat → Nat) {hd ev : Nat → Int32} (h : ∀ x, x < 4096 → hd x = -1) : q_mm t 0 hd ev := ⟨fun x hx => ⟨0, by rw [h x hx]; rfl, q_prev_0 _ _⟩, fun q hq => absurd hq (Nat.not_lt_zero q)⟩
theorem sf_linkL (hR : R ≤ 80000) (hn : n ≤ R) (h : q_by n v tv t) (hEn : n ≤ En) (hEn2 : En ≤ 80000) : ∀ (d m lk : Nat) (lat ev : Nat → Int32), n - 2 = lk + d → d < m → q_mt t lk lat ev →
    ∃ lat' ev', pX4_link_b0 R 4096 En (nI n) v m (nI lk) lat ev = some (nI (n - 2), lat', ev') ∧ q_mt t (n - 2) lat' ev' := by
  intro d
  induction d with
  | zero =>
    intro m lk lat ev hd hm hq
    obtain ⟨m, rfl⟩ : ∃ z, m = z + 1 := ⟨m - 1, by omega⟩
    rw [pX4_link_b0]
    dsimp only
    rw [show (3 : Int32) = nI 3 from rfl, nI_add, qf_lt (by omega) (by omega), if_pos (by omega)]
    exact ⟨lat, ev, by rw [show lk = n - 2 by omega], by rw [show n - 2 = lk by omega]; exact hq⟩
  | succ d ih =>
    intro m lk lat ev hd hm hq
    obtain ⟨m, rfl⟩ : ∃ z, m = z + 1 := ⟨m - 1, by omega⟩
    rw [pX4_link_b0]
    dsimp only
    have hsl := q_slot_lt t lk
    rw [show (3 : Int32) = nI 3 from rfl, nI_add, qf_lt (by omega) (by omega), if_neg (by omega), sf_slot hR hn h (by omega), Option.bind_some, qf_out (by omega), if_neg (by omega), qf_out (by omega), if_neg (by omega), qf_out (by omega), if_neg (by omega), nI_clamp (by omega), nI_clamp (by omega), nI_1]
    refine ih m (lk + 1) _ _ (by omega) (by omega) ⟨fun x hx => ?_, fun q hq2 => ?_⟩
    · by_cases c : x = q_slot t lk
      · subst c
        exact ⟨lk + 1, pk_us, q_prev_new _ _⟩
      · obtain ⟨r, r1, r2⟩ := hq.1 x hx
        exact ⟨r, by rw [pk_un c, r1], q_prev_old r2 (fun z => c z.symm)⟩
    · by_cases c : q = lk
      · subst c
        obtain ⟨r, r1, r2⟩ := hq.1 _ hsl
        exact ⟨r, by rw [pk_us, r1], r2⟩
      · obtain ⟨r, r1, r2⟩ := hq.2 q (by omega)
        exact ⟨r, by rw [pk_un c, r1], r2⟩
theorem sf_note (hT : n ≤ TN) (hTN : TN ≤ 80000) (h : q_by n v tv t) (hEn : n ≤ En) (hEn2 : En ≤ 80000) {a : Nat} (ha : a ≤ n) {hd ev : Nat → Int32} (hq : q_mm t (min a (n - 2)) hd ev) :
    ∃ hd' ev', pX11_note TN 4096 En (nI n) tv (nI a) hd ev = some (hd', ev') ∧ q_mm t (min (a + 1) (n - 2)) hd' ev' := by
  unfold pX11_note
  rw [show (2 : Int32) = nI 2 from rfl, nI_add, qf_le (by omega) (by omega)]
  by_cases c : n ≤ a + 2
  · rw [if_pos c]
    exact ⟨hd, ev, rfl, by rw [show min (a + 1) (n - 2) = min a (n - 2) by omega]; exact hq⟩
  · have hml := q_mix_lt t a
    rw [show min a (n - 2) = a by omega] at hq
    rw [if_neg c, sf_mixed hT hTN h (by omega), Option.bind_some, qf_out (by omega), if_neg (by omega), qf_out (by omega), if_neg (by omega), qf_out (by omega), if_neg (by omega), nI_clamp (by omega), nI_clamp (by omega), show min (a + 1) (n - 2) = a + 1 by omega]
    refine ⟨_, _, rfl, fun x hx => ?_, fun q hq2 => ?_⟩
    · by_cases c : x = q_mix t a
      · subst c
        exact ⟨a + 1, by rw [pk_us, nI_pred], q_prev_new _ _⟩
      · obtain ⟨r, r1, r2⟩ := hq.1 x hx
        exact ⟨r, by rw [pk_un c, r1], q_prev_old r2 (fun z => c z.symm)⟩
    · by_cases c : q = a
      · subst c
        obtain ⟨r, r1, r2⟩ := hq.1 _ hml
        exact ⟨r, by rw [pk_us, r1], r2⟩
      · obtain ⟨r, r1, r2⟩ := hq.2 q (by omega)
        exact ⟨r, by rw [pk_un c, r1], r2⟩
/-- the match of a place: its length and its distance; length 0: none -/
def q_res (t : Nat → Nat) (n ch p : Nat) : Nat × Nat := if n - p < 3 then (0, 0) else q_scan t p (min 258 (n - p)) ch p 0 (0, 0)
theorem q_res_fit (t : Nat → Nat) (n ch p : Nat) : q_fit p (min 258 (n - p)) (q_res t n ch p) := by
  unfold q_res
  split
  · exact Or.inl rfl
  · exact q_scan_fit t p _ ch (by omega) p 0 (0, 0) (Nat.le_refl p) (Or.inl rfl)
set_option maxRecDepth 100000 in
theorem sf_findC (hR : R ≤ 80000) (hn : n ≤ R) (h : q_by n v tv t) (hEn : n ≤ En) (hEn2 : En ≤ 80000) (hc1 : 1 ≤ ch) (hc64 : ch ≤ 64) {lat ev : Nat → Int32} (hq : q_mt t (n - 2) lat ev) {p : Nat} (hp : p < n) (dist : Int32) :
    ∃ dd, pX4_find En R (nI ch) (nI n) ev v (nI p) dist = some (nI (q_res t n ch p).1, dd) ∧ ((q_res t n ch p).1 ≠ 0 → dd = nI (q_res t n ch p).2) := by
  have hmost : (if nI n - nI p < (258 : Int32) then nI n - nI p else (258 : Int32)) = nI (min 258 (n - p)) := by
    rw [pk_sub (by omega), show (258 : Int32) = nI 258 from rfl, qf_lt (by omega) (by omega)]
    by_cases c : n - p < 258
    · rw [if_pos c]; congr 1; omega
    · rw [if_neg c]; congr 1; omega
  unfold pX4_find q_res
  rw [hmost, show (3 : Int32) = nI 3 from rfl, qf_le (by omega) (by omega)]
  by_cases c : n - p < 3
  · rw [if_neg (by omega), if_pos c]
    exact ⟨dist, rfl, fun z => absurd rfl z⟩
  · rw [if_pos (by omega), if_neg c, qf_out (by omega), if_neg (by omega), nI_clamp (by omega)]
    obtain ⟨r, y1, y2, y3, y4⟩ := hq.2 p (by omega)
    rw [y1, q_scan_skip t p _ ch r p 0 (0, 0) y2 (fun j j1 j2 w => y3 j j1 j2 (q_slot_like w))]
    have := sf_findL (p := p) (most := min 258 (n - p)) (ch := ch) (s := q_slot t) (En := En) hR hn h (by omega) (by omega) hc64 (fun j w => q_slot_like w) (fun q hq2 => hq.2 q (by omega)) (by omega) hEn2 p fb_F r 0 0 (0, 0) dist y2 (by unfold fb_F; omega) y2 y4 (by omega) (by omega) (by dsimp only; omega) (fun z => absurd rfl z)
    rw [nI_0] at this
    exact this
set_option maxRecDepth 100000 in
theorem sf_longest (hT : n ≤ TN) (hTN : TN ≤ 80000) (h : q_by n v tv t) (hEn : n ≤ En) (hEn2 : En ≤ 80000) (hc1 : 1 ≤ ch) (hc64 : ch ≤ 64) {hd ev : Nat → Int32} {p : Nat} (hq : q_mm t (min p (n - 2)) hd ev) (hp : p < n) :
    pX11_longest TN 4096 En (nI ch) (nI n) tv hd ev (nI p) = some (q_best p (q_res t n ch p), nI (q_res t n ch p).1) := by
  unfold pX11_longest q_res
  rw [show (2 : Int32) = nI 2 from rfl, nI_add, qf_le (by omega) (by omega)]
  by_cases c : n - p < 3
  · rw [if_pos (by omega), if_pos c, show fb_F = 4294967295 + 1 from rfl, pX11_longest_b35]
    dsimp only
    rw [if_pos (by decide)]
    rfl
  · rw [if_neg (by omega), if_neg c, sf_mixed hT hTN h (by omega), Option.bind_some]
    have hml := q_mix_lt t p
    rw [qf_out (by omega), if_neg (by omega), nI_clamp (by omega)]
    rw [show min p (n - 2) = p by omega] at hq
    obtain ⟨r, y1, y2, y3, y4⟩ := hq.1 _ hml
    rw [y1, q_scan_skip t p _ ch r p 0 (0, 0) y2 (fun j j1 j2 w => y3 j j1 j2 (q_mix_like w))]
    have := sf_longL (p := p) (most := min 258 (n - p)) (ch := ch) (s := q_mix t) (En := En) hT hTN h (by omega) rfl (by omega) hc64 (fun j w => q_mix_like w) hq.2 (by omega) hEn2 p fb_F r 0 (0, 0) y2 (by unfold fb_F; omega) y2 y4 (by omega) (by dsimp only; omega)
    rw [nI_0] at this
    exact this
end QO
