/-! ### the reference's prepare: its loops -/
section RK
def q_sy2 (L D : Nat → Nat) (j : Nat) : Nat := if L j = 0 then D j else 257 + q_lS (L j)
abbrev q_tks (T : Nat) (L D : Nat → Nat) (ls ds : Nat → Int32) : Prop := ∀ j, j < T → (ls j = nI (L j) ∧ ds j = nI (D j)) ∧ ((L j = 0 ∧ D j < 256) ∨ (3 ≤ L j ∧ L j ≤ 258 ∧ 1 ≤ D j ∧ D j ≤ 32768))
theorem sf_clearL : ∀ (d m i : Nat) (ov : Nat → Int32), 288 = i + d → d < m → (∀ s, s < i → ov s = 0) → ∃ ov', pX11_clearOften_b2 288 m ov (nI i) = some ov' ∧ ∀ s, s < 288 → ov' s = 0 := by
  intro d
  induction d with
  | zero =>
    intro m i ov hi hm h
    obtain ⟨m, rfl⟩ : ∃ z, m = z + 1 := ⟨m - 1, by omega⟩
    rw [pX11_clearOften_b2]
    dsimp only
    rw [show (288 : Int32) = nI 288 from rfl, qf_le (by omega) (by omega), if_pos (by omega)]
    exact ⟨ov, rfl, fun s hs => h s (by omega)⟩
  | succ d ih =>
    intro m i ov hi hm h
    obtain ⟨m, rfl⟩ : ∃ z, m = z + 1 := ⟨m - 1, by omega⟩
    rw [pX11_clearOften_b2]
    dsimp only
    rw [show (288 : Int32) = nI 288 from rfl, qf_le (by omega) (by omega), if_neg (by omega), qf_out (by omega), if_neg (by omega), nI_clamp (by omega), nI_1]
    refine ih m (i + 1) _ (by omega) (by omega) (fun s hs => ?_)
    by_cases w : s = i
    · subst w; rw [pk_us]
    · rw [pk_un w]; exact h s (by omega)
theorem sf_clear (ov : Nat → Int32) : ∃ ov', pX11_clearOften 288 ov = some ov' ∧ ∀ s, s < 288 → ov' s = 0 := by
  unfold pX11_clearOften
  have := sf_clearL 288 fb_F 0 ov (by omega) (by unfold fb_F; omega) (fun s hs => absurd hs (Nat.not_lt_zero s))
  rw [nI_0] at this
  exact this
variable {T : Nat} {L D : Nat → Nat} {hd ev ls ds ct al pa SL DL ts tn LL SC DC LC : Nat → Int32} {fo : Int32}
theorem q_cnt_up {g : Nat → Nat} {of : Nat → Int32} {N y : Nat} {a : Nat → Nat} (h : ∀ s, s < N → of s = nI (a s)) : ∀ s, s < N → upd of y (of y + 1) s = if s = y then of y + 1 else nI (a s) := by
  intro s hs
  by_cases w : s = y
  · subst w; rw [pk_us, if_pos rfl]
  · rw [pk_un w, if_neg w, h s hs]
theorem sf_oftS {ro : Nat → Int32} (hT : T ≤ 70000) (h : q_tks T L D ls ds) : ∀ (d m i : Nat) (of : Nat → Int32), T = i + d → d < m → (∀ s, s < 286 → of s = nI ((if s = 256 then 1 else 0) + q_sum (fun j => if q_sy2 L D j = s then 1 else 0) i)) →
    ∃ of' z, (∀ s, s < 286 → of' s = nI ((if s = 256 then 1 else 0) + q_sum (fun j => if q_sy2 L D j = s then 1 else 0) T)) ∧ pX11_prepare_b19 70000 70000 288 576 576 576 288 288 320 320 320 288 288 288 288 m (nI T) fo hd ev ls ds of ct al pa SL DL ro ts tn LL SC DC LC (nI i) = pX11_prepare_b19 70000 70000 288 576 576 576 288 288 320 320 320 288 288 288 288 (z + 1) (nI T) fo hd ev ls ds of' ct al pa SL DL ro ts tn LL SC DC LC (nI T) := by
  intro d
  induction d with
  | zero =>
    intro m i of hi hm ho
    have e : i = T := by omega
    subst e
    exact ⟨of, m - 1, ho, by rw [show m - 1 + 1 = m by omega]⟩
  | succ d ih =>
    intro m i of hi hm ho
    obtain ⟨m, rfl⟩ : ∃ z, m = z + 1 := ⟨m - 1, by omega⟩
    obtain ⟨⟨h1, h2⟩, h3⟩ := h i (by omega)
    have key : ∀ y, q_sy2 L D i = y → y < 286 → ∃ of' z, (∀ s, s < 286 → of' s = nI ((if s = 256 then 1 else 0) + q_sum (fun j => if q_sy2 L D j = s then 1 else 0) T)) ∧ pX11_prepare_b62 288 (pX11_prepare_b19 70000 70000 288 576 576 576 288 288 320 320 320 288 288 288 288 m) (nI T) fo hd ev ls ds of ct al pa SL DL ro ts tn LL SC DC LC (nI i) (nI y) = pX11_prepare_b19 70000 70000 288 576 576 576 288 288 320 320 320 288 288 288 288 (z + 1) (nI T) fo hd ev ls ds of' ct al pa SL DL ro ts tn LL SC DC LC (nI T) := by
      intro y hy hy2
      unfold pX11_prepare_b62
      rw [qf_out (by omega), if_neg (by omega), nI_clamp (by omega), qf_o2 (by omega) (by omega), nI_1]
      refine ih m (i + 1) _ (by omega) (by omega) (fun s hs => ?_)
      rw [q_sum, hy]
      by_cases w : s = y
      · subst w; rw [pk_us, ho s hs, nI_1, if_pos rfl, Nat.add_assoc]
      · rw [pk_un w, ho s hs, if_neg (show ¬ y = s from fun z => w z.symm), Nat.add_zero]
    rw [pX11_prepare_b19]
    dsimp only
    rw [qf_le (by omega) (by omega), if_neg (by omega), qf_out (by omega), if_neg (by omega), nI_clamp (by omega), h1, h2]
    rcases h3 with ⟨c1, c2⟩ | ⟨c1, c2, c3, c4⟩
    · rw [c1, if_pos (show nI 0 = (0 : Int32) from rfl), qf_o2 (by omega) (by omega)]
      exact key (D i) (by unfold q_sy2; rw [if_pos c1]) (by omega)
    · obtain ⟨-, l1, l2, -, -⟩ := sf_lS c1 c2
      rw [if_neg (nI_ne0 (by omega) (by omega)), qf_o2 (by omega) (by omega), l1, Option.bind_some, show (257 : Int32) = nI 257 from rfl, nI_add]
      exact key _ (by unfold q_sy2; rw [if_neg (by omega)]) (by omega)
theorem sf_oftD {ro : Nat → Int32} (hT : T ≤ 70000) (h : q_tks T L D ls ds) : ∀ (d m i : Nat) (of : Nat → Int32), T = i + d → d < m → (∀ s, s < 30 → of s = nI (q_sum (fun j => if L j ≠ 0 ∧ q_dS (D j) = s then 1 else 0) i)) →
    ∃ of' z, (∀ s, s < 30 → of' s = nI (q_sum (fun j => if L j ≠ 0 ∧ q_dS (D j) = s then 1 else 0) T)) ∧ pX11_prepare_b92 70000 70000 288 576 576 576 288 288 320 320 320 288 288 288 288 m (nI T) fo hd ev ls ds of ct al pa SL DL ro ts tn LL SC DC LC (nI i) = pX11_prepare_b92 70000 70000 288 576 576 576 288 288 320 320 320 288 288 288 288 (z + 1) (nI T) fo hd ev ls ds of' ct al pa SL DL ro ts tn LL SC DC LC (nI T) := by
  intro d
  induction d with
  | zero =>
    intro m i of hi hm ho
    have e : i = T := by omega
    subst e
    exact ⟨of, m - 1, ho, by rw [show m - 1 + 1 = m by omega]⟩
  | succ d ih =>
    intro m i of hi hm ho
    obtain ⟨m, rfl⟩ : ∃ z, m = z + 1 := ⟨m - 1, by omega⟩
    obtain ⟨⟨h1, h2⟩, h3⟩ := h i (by omega)
    rw [pX11_prepare_b92]
    dsimp only
    rw [qf_le (by omega) (by omega), if_neg (by omega), qf_out (by omega), if_neg (by omega), nI_clamp (by omega), h1, h2, nI_1]
    rcases h3 with ⟨c1, c2⟩ | ⟨c1, c2, c3, c4⟩
    · rw [c1, if_pos (show nI 0 ≤ (0 : Int32) by decide)]
      refine ih m (i + 1) _ (by omega) (by omega) (fun s hs => ?_)
      rw [q_sum, if_neg (fun z => z.1 c1), ho s hs, Nat.add_zero]
    · obtain ⟨-, l1, l2, -, -⟩ := sf_dS c3 c4
      rw [if_neg (nI_nle (by omega) (by omega)), qf_o2 (by omega) (by omega), l1, Option.bind_some, qf_out (by omega), if_neg (by omega), nI_clamp (by omega), qf_o2 (by omega) (by omega)]
      refine ih m (i + 1) _ (by omega) (by omega) (fun s hs => ?_)
      rw [q_sum]
      by_cases w : s = q_dS (D i)
      · rw [w, pk_us, ho _ (by omega), nI_1, if_pos ⟨by omega, rfl⟩]
      · rw [pk_un w, ho s hs, if_neg (fun z => w z.2.symm), Nat.add_zero]
theorem sf_rowS {of : Nat → Int32} {S : Nat} {x : Int32} (hS : S ≤ 286) : ∀ (d m i : Nat) (ro : Nat → Int32), S = i + d → d < m → (∀ j, j < i → ro j = SL j) →
    ∃ ro' z, (∀ j, j < S → ro' j = SL j) ∧ pX11_prepare_b178 70000 70000 288 576 576 576 288 288 320 320 320 288 288 288 288 m (nI T) fo (nI S) x hd ev ls ds of ct al pa SL DL ro ts tn LL SC DC LC (nI i) = pX11_prepare_b178 70000 70000 288 576 576 576 288 288 320 320 320 288 288 288 288 (z + 1) (nI T) fo (nI S) x hd ev ls ds of ct al pa SL DL ro' ts tn LL SC DC LC (nI S) := by
  intro d
  induction d with
  | zero =>
    intro m i ro hi hm ho
    have e : i = S := by omega
    subst e
    exact ⟨ro, m - 1, ho, by rw [show m - 1 + 1 = m by omega]⟩
  | succ d ih =>
    intro m i ro hi hm ho
    obtain ⟨m, rfl⟩ : ∃ z, m = z + 1 := ⟨m - 1, by omega⟩
    rw [pX11_prepare_b178]
    dsimp only
    rw [qf_le (by omega) (by omega), if_neg (by omega), qf_out (by omega), if_neg (by omega), nI_clamp (by omega), qf_o2 (by omega) (by omega), nI_1]
    refine ih m (i + 1) _ (by omega) (by omega) (fun j hj => ?_)
    by_cases w : j = i
    · subst w; rw [pk_us]
    · rw [pk_un w]; exact ho j (by omega)
theorem sf_rowD {of : Nat → Int32} {S Dn : Nat} (hS : S ≤ 286) (hD : Dn ≤ 30) : ∀ (d m i : Nat) (ro : Nat → Int32), Dn = i + d → d < m → (∀ j, j < S → ro j = SL j) → (∀ j, j < i → ro (S + j) = DL j) →
    ∃ ro' z, (∀ j, j < S → ro' j = SL j) ∧ (∀ j, j < Dn → ro' (S + j) = DL j) ∧ pX11_prepare_b206 70000 70000 288 576 576 576 288 288 320 320 320 288 288 288 288 m (nI T) fo (nI S) (nI Dn) hd ev ls ds of ct al pa SL DL ro ts tn LL SC DC LC (nI i) = pX11_prepare_b206 70000 70000 288 576 576 576 288 288 320 320 320 288 288 288 288 (z + 1) (nI T) fo (nI S) (nI Dn) hd ev ls ds of ct al pa SL DL ro' ts tn LL SC DC LC (nI Dn) := by
  intro d
  induction d with
  | zero =>
    intro m i ro hi hm h0 ho
    have e : i = Dn := by omega
    subst e
    exact ⟨ro, m - 1, h0, ho, by rw [show m - 1 + 1 = m by omega]⟩
  | succ d ih =>
    intro m i ro hi hm h0 ho
    obtain ⟨m, rfl⟩ : ∃ z, m = z + 1 := ⟨m - 1, by omega⟩
    rw [pX11_prepare_b206]
    dsimp only
    rw [qf_le (by omega) (by omega), if_neg (by omega), qf_out (by omega), if_neg (by omega), nI_clamp (by omega), nI_add, qf_out (by omega), if_neg (by omega), nI_clamp (by omega), nI_1]
    refine ih m (i + 1) _ (by omega) (by omega) (fun j hj => ?_) (fun j hj => ?_)
    · rw [pk_un (by omega)]; exact h0 j hj
    · by_cases w : j = i
      · subst w; rw [pk_us]
      · rw [pk_un (by omega)]; exact ho j (by omega)
theorem sf_oftC {ro : Nat → Int32} {k : Nat} {cs : Nat → Nat} {x y : Int32} (hk : k ≤ 320) (hc : ∀ j, j < k → ts j = nI (cs j) ∧ cs j < 19) : ∀ (d m i : Nat) (of : Nat → Int32), k = i + d → d < m → (∀ s, s < 19 → of s = nI (q_sum (fun j => if cs j = s then 1 else 0) i)) →
    ∃ of' z, (∀ s, s < 19 → of' s = nI (q_sum (fun j => if cs j = s then 1 else 0) k)) ∧ pX11_prepare_b256 70000 70000 288 576 576 576 288 288 320 288 288 288 288 m (nI T) (nI k) fo x y hd ev ls ds of ct al pa SL DL ro ts tn LL SC DC LC (nI i) = pX11_prepare_b256 70000 70000 288 576 576 576 288 288 320 288 288 288 288 (z + 1) (nI T) (nI k) fo x y hd ev ls ds of' ct al pa SL DL ro ts tn LL SC DC LC (nI k) := by
  intro d
  induction d with
  | zero =>
    intro m i of hi hm ho
    have e : i = k := by omega
    subst e
    exact ⟨of, m - 1, ho, by rw [show m - 1 + 1 = m by omega]⟩
  | succ d ih =>
    intro m i of hi hm ho
    obtain ⟨m, rfl⟩ : ∃ z, m = z + 1 := ⟨m - 1, by omega⟩
    obtain ⟨h1, h2⟩ := hc i (by omega)
    rw [pX11_prepare_b256]
    dsimp only
    rw [qf_le (by omega) (by omega), if_neg (by omega), qf_out (by omega), if_neg (by omega), nI_clamp (by omega), h1, qf_out (by omega), if_neg (by omega), nI_clamp (by omega), qf_o2 (by omega) (by omega), nI_1]
    refine ih m (i + 1) _ (by omega) (by omega) (fun s hs => ?_)
    rw [q_sum]
    by_cases w : s = cs i
    · rw [w, pk_us, ho _ (by omega), nI_1, if_pos rfl]
    · rw [pk_un w, ho s hs, if_neg (fun z => w z.symm), Nat.add_zero]
def q_fo (i : Nat) : Nat := (fb_ord i).toNatClampNeg
theorem q_fo_b : ∀ i, i < 19 → fb_ord i = nI (q_fo i) ∧ q_fo i < 19 := by decide +kernel
def q_hh (f : Nat → Nat) : Nat → Nat
  | 0 => 0
  | d + 1 => if d + 1 ≤ 4 then d + 1 else if f (q_fo d) = 0 then q_hh f d else d + 1
theorem q_hh_b (f : Nat → Nat) : ∀ d, 4 ≤ d → 4 ≤ q_hh f d ∧ q_hh f d ≤ d := by
  intro d
  induction d with
  | zero => intro h; omega
  | succ d ih =>
    intro h
    rw [q_hh]
    by_cases w : d + 1 ≤ 4
    · rw [if_pos w]; omega
    · rw [if_neg w]
      have := ih (by omega)
      split <;> omega
theorem sf_hhM {of ro : Nat → Int32} {k : Nat} {f : Nat → Nat} {x y z : Int32} (hf : ∀ s, s < 19 → LL s = nI (f s) ∧ f s ≤ 15) : ∀ (d m : Nat), d ≤ 19 → 4 ≤ d → d < m →
    pX11_prepare_b303 70000 70000 288 288 320 288 288 288 288 m (nI T) x fo y z (nI d) hd ev ls ds of ct al pa SL DL ro ts tn LL SC DC LC = pX11_prepare_b341 70000 70000 288 288 320 288 288 288 288 (nI T) x fo y z (nI (q_hh f d)) hd ev ls ds of ct al pa SL DL ro ts tn LL SC DC LC := by
  intro d
  induction d with
  | zero => intro m h1 h2; omega
  | succ d ih =>
    intro m h1 h2 hm
    obtain ⟨m, rfl⟩ : ∃ z, m = z + 1 := ⟨m - 1, by omega⟩
    rw [pX11_prepare_b303]
    dsimp only
    rw [show (4 : Int32) = nI 4 from rfl, qf_le (by omega) (by omega), q_hh]
    by_cases w : d + 1 ≤ 4
    · rw [if_pos w, if_pos w]
    · obtain ⟨o1, o2⟩ := q_fo_b d (by omega)
      obtain ⟨f1, f2⟩ := hf _ o2
      rw [if_neg w, if_neg w, nI_pred, q_ordM d (by omega), Option.bind_some, o1, qf_out (by omega), if_neg (by omega), nI_clamp (by omega), f1]
      by_cases c : f (q_fo d) = 0
      · rw [c, if_pos (show nI 0 = (0 : Int32) from rfl), if_pos rfl]
        exact ih m (by omega) (by omega) (by omega)
      · rw [if_neg (nI_ne0 (by omega) (by omega)), if_neg c]
theorem sf_sumC {of ro : Nat → Int32} {k : Nat} {cs f : Nat → Nat} {x y z : Int32} {b0 : Nat} (hk : k ≤ 320) (hc : ∀ j, j < k → ts j = nI (cs j) ∧ cs j < 19) (hf : ∀ s, s < 19 → LL s = nI (f s) ∧ f s ≤ 15) : ∀ (d m i : Nat), k = i + d → d < m →
    pX11_prepare_b405 70000 70000 288 288 320 288 m (nI T) (nI k) fo x y z hd ev ls ds of ct al pa SL DL ro ts tn LL SC DC LC (nI (b0 + q_sum (fun j => f (cs j) + q_nb (cs j)) i)) (nI i) = pX11_prepare_b445 70000 70000 288 288 fb_F (nI T) (nI k) fo x y z hd ev ls ds of ct al pa SL DL ro ts tn LL SC DC LC (nI (b0 + q_sum (fun j => f (cs j) + q_nb (cs j)) k)) 0 := by
  intro d
  induction d with
  | zero =>
    intro m i hi hm
    obtain ⟨m, rfl⟩ : ∃ z, m = z + 1 := ⟨m - 1, by omega⟩
    rw [pX11_prepare_b405]
    dsimp only
    rw [qf_le (by omega) (by omega), if_pos (by omega), show i = k by omega]
  | succ d ih =>
    intro m i hi hm
    obtain ⟨m, rfl⟩ : ∃ z, m = z + 1 := ⟨m - 1, by omega⟩
    obtain ⟨h1, h2⟩ := hc i (by omega)
    obtain ⟨f1, f2⟩ := hf _ h2
    rw [pX11_prepare_b405]
    dsimp only
    rw [qf_le (by omega) (by omega), if_neg (by omega), qf_out (by omega), if_neg (by omega), nI_clamp (by omega), h1, qf_out (by omega), if_neg (by omega), nI_clamp (by omega), qf_o2 (by omega) (by omega), q_nb2 _ h2, Option.bind_some, f1, nI_add, nI_add, nI_1, Nat.add_assoc]
    exact ih m (i + 1) (by omega) (by omega)
theorem sf_sumT {of ro : Nat → Int32} {x y z w : Int32} {b0 : Nat} {fs fd : Nat → Nat} (hT : T ≤ 70000) (h : q_tks T L D ls ds) (hss : ∀ s, s < 286 → SL s = nI (fs s)) (hdd : ∀ s, s < 30 → DL s = nI (fd s)) : ∀ (d m i : Nat), T = i + d → d < m →
    pX11_prepare_b445 70000 70000 288 288 m (nI T) w fo x y z hd ev ls ds of ct al pa SL DL ro ts tn LL SC DC LC (nI (b0 + q_sum (q_tb L D fs fd) i)) (nI i) = some (nI (b0 + q_sum (q_tb L D fs fd) T), nI T, w, fo, x, y, z, hd, ev, ls, ds, of, ct, al, pa, SL, DL, ro, ts, tn, LL, SC, DC, LC) := by
  intro d
  induction d with
  | zero =>
    intro m i hi hm
    obtain ⟨m, rfl⟩ : ∃ z, m = z + 1 := ⟨m - 1, by omega⟩
    rw [pX11_prepare_b445]
    dsimp only
    rw [qf_le (by omega) (by omega), if_pos (by omega), show i = T by omega]
  | succ d ih =>
    intro m i hi hm
    obtain ⟨m, rfl⟩ : ∃ z, m = z + 1 := ⟨m - 1, by omega⟩
    obtain ⟨⟨h1, h2⟩, h3⟩ := h i (by omega)
    have key : pX11_bitsOf 70000 70000 288 288 ls ds SL DL (nI i) = some (nI (q_tb L D fs fd i)) := by
      unfold pX11_bitsOf q_tb
      rw [qf_out (by omega), if_neg (by omega), nI_clamp (by omega), h1, h2]
      rcases h3 with ⟨c1, c2⟩ | ⟨c1, c2, c3, c4⟩
      · rw [c1, if_pos (show nI 0 = (0 : Int32) from rfl), if_pos rfl, qf_o2 (by omega) (by omega), qf_out (by omega), if_neg (by omega), nI_clamp (by omega), hss _ (by omega)]
      · obtain ⟨-, l1, l2, -, -⟩ := sf_lS c1 c2
        obtain ⟨-, d1, d2, -, -⟩ := sf_dS c3 c4
        rw [if_neg (nI_ne0 (by omega) (by omega)), if_neg (show ¬ L i = 0 by omega), qf_o2 (by omega) (by omega), l1, Option.bind_some, qf_o2 (by omega) (by omega), d1, Option.bind_some, show (257 : Int32) = nI 257 from rfl, nI_add, qf_out (by omega), if_neg (by omega), nI_clamp (by omega), q_lb2 _ l2, Option.bind_some, qf_o2 (by omega) (by omega), nI_clamp (by omega), q_db2 _ d2, Option.bind_some, hss _ (by omega), hdd _ (by omega), nI_add, nI_add, nI_add]
    rw [pX11_prepare_b445]
    dsimp only
    rw [qf_le (by omega) (by omega), if_neg (by omega), key, Option.bind_some, nI_add, nI_1, Nat.add_assoc]
    exact ih m (i + 1) (by omega) (by omega)
end RK
