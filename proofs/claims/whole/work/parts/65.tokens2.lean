/-! ### tokens of the reference; gather whole -/
section QR
variable {R TN n ch En Ln : Nat} {v tv : Nat → Int32} {t : Nat → Nat}
theorem sf_noteL (hT : n ≤ TN) (hTN : TN ≤ 80000) (h : q_by n v tv t) (hEn : n ≤ En) (hEn2 : En ≤ 80000) {a N : Nat} (ha : a + N ≤ n) (K : Int32 → Int32 → (Nat → Int32) → (Nat → Int32) → (Nat → Int32) → (Nat → Int32) → Int32 → Option (Int32 × Int32 × (Nat → Int32) × (Nat → Int32) × (Nat → Int32) × (Nat → Int32))) {tk fo : Int32} {ls ds : Nat → Int32} :
    ∀ (d m k : Nat) (hd ev : Nat → Int32), N = k + d → d < m → q_mm t (min (a + k) (n - 2)) hd ev →
    ∃ hd' ev', pX11_findTokens_b112 4096 TN En (nI n) tv K m tk fo hd ev ls ds (nI a) (nI N) (nI k) = K tk fo hd' ev' ls ds (nI (a + N)) ∧ q_mm t (min (a + N) (n - 2)) hd' ev' := by
  intro d
  induction d with
  | zero =>
    intro m k hd ev hk hm hq
    obtain ⟨m, rfl⟩ : ∃ z, m = z + 1 := ⟨m - 1, by omega⟩
    rw [pX11_findTokens_b112]
    dsimp only
    rw [qf_le (by omega) (by omega), if_pos (by omega), nI_add]
    exact ⟨hd, ev, rfl, by rw [show N = k by omega]; exact hq⟩
  | succ d ih =>
    intro m k hd ev hk hm hq
    obtain ⟨m, rfl⟩ : ∃ z, m = z + 1 := ⟨m - 1, by omega⟩
    rw [pX11_findTokens_b112]
    dsimp only
    obtain ⟨hd1, ev1, e1, e2⟩ := sf_note (a := a + k) hT hTN h hEn hEn2 (by omega) hq
    rw [qf_le (by omega) (by omega), if_neg (by omega), nI_add, e1, Option.bind_some, nI_1]
    exact ih m (k + 1) hd1 ev1 (by omega) (by omega) e2
set_option maxRecDepth 100000 in
theorem sf_tokL (hT : n ≤ TN) (hTN : TN ≤ 80000) (h : q_by n v tv t) (hEn : n ≤ En) (hEn2 : En ≤ 80000) (hLn : n ≤ Ln) (hc1 : 1 ≤ ch) (hc64 : ch ≤ 64) {T : Nat} (hT0 : q_T t n ch T) :
    ∀ (d m i : Nat) (fo : Int32) (hd ev ls ds : Nat → Int32), T = i + d → d < m → q_mm t (min (q_pos t n ch i) (n - 2)) hd ev → (∀ j, j < i → ls j = nI (q_L t n ch j) ∧ ds j = nI (q_D t n ch j)) →
    ∃ fo' hd' ev' ls' ds', pX11_findTokens_b29 4096 TN En Ln Ln (nI ch) (nI n) tv m (nI i) fo hd ev ls ds (nI (q_pos t n ch i)) = some (nI T, fo', hd', ev', ls', ds') ∧ ∀ j, j < T → ls' j = nI (q_L t n ch j) ∧ ds' j = nI (q_D t n ch j) := by
  intro d
  induction d with
  | zero =>
    intro m i fo hd ev ls ds hi hm hq hg
    obtain ⟨m, rfl⟩ : ∃ z, m = z + 1 := ⟨m - 1, by omega⟩
    have hiT : i = T := by omega
    subst hiT
    rw [pX11_findTokens_b29]
    dsimp only
    rw [hT0.2.1, if_pos (Int32.le_refl _)]
    exact ⟨fo, hd, ev, ls, ds, rfl, hg⟩
  | succ d ih =>
    intro m i fo hd ev ls ds hi hm hq hg
    obtain ⟨m, rfl⟩ : ∃ z, m = z + 1 := ⟨m - 1, by omega⟩
    have hTn := hT0.1
    have hp := hT0.2.2 i (by omega)
    rw [pX11_findTokens_b29]
    dsimp only
    rw [qf_le (by omega) (by omega), if_neg (by omega), sf_longest (En := En) hT hTN h hEn hEn2 hc1 hc64 hq hp, Option.bind_some]
    dsimp only
    have htok := q_tok (ch := ch) h hp
    have hL : (q_res t n ch (q_pos t n ch i)).1 = q_L t n ch i := rfl
    have hfit := q_res_fit t n ch (q_pos t n ch i)
    unfold q_best pX11_findTokens_b55 pX11_findTokens_b73 pX11_findTokens_b98
    rw [hL]
    by_cases c : q_L t n ch i = 0
    · have hD : q_D t n ch i = t (q_pos t n ch i) := by unfold q_D; rw [if_pos c]
      have hp1 : q_pos t n ch (i + 1) = q_pos t n ch i + 1 := by rw [q_pos]; unfold q_adv; rw [hL, if_pos c]
      rw [if_pos c, if_neg (by decide), if_neg (by decide), qf_out (by omega), if_neg (by omega), if_neg (by decide), qf_out (by omega), if_neg (by omega), qf_out (by omega), if_neg (by omega), nI_clamp (by omega), nI_clamp (by omega), nI_1, (h _ hp).2.2, show (1 : Int32) = nI 1 from rfl]
      obtain ⟨hd1, ev1, e1, e2⟩ := sf_noteL (a := q_pos t n ch i) (N := 1) hT hTN h hEn hEn2 (by omega) (pX11_findTokens_b29 4096 TN En Ln Ln (nI ch) (nI n) tv m) (tk := nI (i + 1)) (fo := nI (q_L t n ch i)) (ls := upd ls i 0) (ds := upd ds i (nI (t (q_pos t n ch i)))) 1 fb_F 0 hd ev (by omega) (by unfold fb_F; omega) hq
      rw [nI_0] at e1
      rw [e1, ← hp1]
      refine ih m (i + 1) _ hd1 ev1 _ _ (by omega) (by omega) (by rw [hp1]; exact e2) (fun j hj => ?_)
      by_cases w : j = i
      · subst w
        rw [pk_us, pk_us, c, hD]
        exact ⟨rfl, rfl⟩
      · rw [pk_un w, pk_un w]
        exact hg j (by omega)
    · have htk : 3 ≤ q_L t n ch i ∧ q_L t n ch i ≤ 258 ∧ 1 ≤ q_D t n ch i ∧ q_D t n ch i ≤ 32768 := htok.elim (fun z => absurd z.1 c) id
      have hD : q_D t n ch i = (q_res t n ch (q_pos t n ch i)).2 := by unfold q_D; rw [if_neg c]
      have hp1 : q_pos t n ch (i + 1) = q_pos t n ch i + q_L t n ch i := by rw [q_pos]; unfold q_adv; rw [hL, if_neg c]
      have hadv := q_adv_b t (ch := ch) hp
      have hle : q_pos t n ch i + q_L t n ch i ≤ n := by
        unfold q_adv at hadv
        rw [hL, if_neg c] at hadv
        exact hadv.2
      have hDp : q_D t n ch i ≤ q_pos t n ch i := by
        rw [hD]
        rcases hfit with z | z
        · exact absurd z c
        · exact z.2.2.2.1
      rw [← hD, if_neg c, if_pos (nI_pos' (by omega)), if_pos (nI_pos' (by omega)), qf_out (by omega), if_neg (by omega), if_pos (nI_pos' (by omega)), pk_sub (by omega), qf_out (by omega), if_neg (by omega), nI_clamp (by omega), nI_1, show q_pos t n ch i - (q_pos t n ch i - q_D t n ch i) = q_D t n ch i by omega]
      obtain ⟨hd1, ev1, e1, e2⟩ := sf_noteL (a := q_pos t n ch i) (N := q_L t n ch i) hT hTN h hEn hEn2 hle (pX11_findTokens_b29 4096 TN En Ln Ln (nI ch) (nI n) tv m) (tk := nI (i + 1)) (fo := nI (q_L t n ch i)) (ls := upd ls i (nI (q_L t n ch i))) (ds := upd ds i (nI (q_D t n ch i))) (q_L t n ch i) fb_F 0 hd ev (by omega) (by unfold fb_F; omega) hq
      rw [nI_0] at e1
      rw [e1, ← hp1]
      refine ih m (i + 1) _ hd1 ev1 _ _ (by omega) (by omega) (by rw [hp1]; exact e2) (fun j hj => ?_)
      by_cases w : j = i
      · subst w
        rw [pk_us, pk_us]
        exact ⟨rfl, rfl⟩
      · rw [pk_un w, pk_un w]
        exact hg j (by omega)
theorem sf_headsL {C Tz : Int32} {fo : Int32} {ev ls ds : Nat → Int32} : ∀ (d m x : Nat) (hd : Nat → Int32), 4096 = x + d → d < m → (∀ j, j < x → hd j = -1) →
    ∃ hd', pX11_findTokens_b2 4096 TN En Ln Ln C Tz tv m fo hd ev ls ds (nI x) = pX11_findTokens_b29 4096 TN En Ln Ln C Tz tv fb_F 0 fo hd' ev ls ds 0 ∧ ∀ j, j < 4096 → hd' j = -1 := by
  intro d
  induction d with
  | zero =>
    intro m x hd hx hm hg
    obtain ⟨m, rfl⟩ : ∃ z, m = z + 1 := ⟨m - 1, by omega⟩
    rw [pX11_findTokens_b2]
    dsimp only
    rw [show (4096 : Int32) = nI 4096 from rfl, qf_le (by omega) (by omega), if_pos (by omega)]
    exact ⟨hd, rfl, fun j hj => hg j (by omega)⟩
  | succ d ih =>
    intro m x hd hx hm hg
    obtain ⟨m, rfl⟩ : ∃ z, m = z + 1 := ⟨m - 1, by omega⟩
    rw [pX11_findTokens_b2]
    dsimp only
    rw [show (4096 : Int32) = nI 4096 from rfl, qf_le (by omega) (by omega), if_neg (by omega), qf_out (by omega), if_neg (by omega), nI_clamp (by omega), nI_1]
    refine ih m (x + 1) _ (by omega) (by omega) (fun j hj => ?_)
    by_cases w : j = x
    · subst w; exact pk_us
    · rw [pk_un w]; exact hg j (by omega)
theorem sf_tokensM (hT : n ≤ TN) (hTN : TN ≤ 80000) (h : q_by n v tv t) (hEn : n ≤ En) (hEn2 : En ≤ 80000) (hLn : n ≤ Ln) (hc1 : 1 ≤ ch) (hc64 : ch ≤ 64) {T : Nat} (hT0 : q_T t n ch T) (fo : Int32) (hd ev ls ds : Nat → Int32) :
    ∃ fo' hd' ev' ls' ds', pX11_findTokens 4096 TN En Ln Ln (nI ch) (nI n) tv fo hd ev ls ds = some (nI T, fo', hd', ev', ls', ds') ∧ ∀ j, j < T → ls' j = nI (q_L t n ch j) ∧ ds' j = nI (q_D t n ch j) := by
  unfold pX11_findTokens
  obtain ⟨hd1, e1, e2⟩ := sf_headsL (TN := TN) (En := En) (Ln := Ln) (tv := tv) (C := nI ch) (Tz := nI n) (fo := fo) (ev := ev) (ls := ls) (ds := ds) 4096 fb_F 0 hd (by omega) (by unfold fb_F; omega) (fun j hj => absurd hj (Nat.not_lt_zero j))
  rw [nI_0] at e1
  rw [e1]
  have hTn := hT0.1
  have hF : T < fb_F := by unfold fb_F; omega
  generalize fb_F = F at hF ⊢
  have := sf_tokL (En := En) (Ln := Ln) hT hTN h hEn hEn2 hLn hc1 hc64 hT0 T F 0 fo hd1 ev ls ds (by omega) hF (by rw [q_pos, Nat.zero_min]; exact q_mm0 t e2) (fun j hj => absurd hj (Nat.not_lt_zero j))
  rw [q_pos, nI_0] at this
  exact this
theorem sf_gather (hR : R ≤ 80000) (hn : n ≤ R) (h : q_by n v tv t) (hc1 : 1 ≤ ch) (hc64 : ch ≤ 64) {lat ev : Nat → Int32} {lk : Nat} (hlk : lk ≤ n - 2) (hq : q_mt t lk lat ev) {T : Nat} (hT : q_T t n ch T) (sc dc tok : Nat → Int32) (len dist : Int32) :
    ∃ len' dist' sc' dc' tok' lat' ev', pX8_gather 286 30 R 4096 R R (nI ch) (nI n) v sc dc (nI lk) len dist lat ev tok =
      some (nI T, nI (q_nm t n ch T), nI (q_nx t n ch T), sc', dc', nI (n - 2), len', dist', lat', ev', tok') ∧ q_gth t n ch T sc' dc' tok' ∧ q_mt t (n - 2) lat' ev' := by
  unfold pX8_gather
  obtain ⟨sc1, a1, a2, -⟩ := sf_fill (n := 286) 0 sc (by omega)
  obtain ⟨dc1, b1, b2, -⟩ := sf_fill (n := 30) 0 dc (by omega)
  unfold pX4_link
  obtain ⟨lat1, ev1, l1, l2⟩ := sf_linkL (En := R) hR hn h hn hR (n - 2 - lk) fb_F lk lat ev (by omega) (by unfold fb_F; omega) hq
  rw [a1, Option.bind_some, b1, Option.bind_some, show (256 : Int32) = nI 256 from rfl, qf_out (by omega), if_neg (by omega), l1, Option.bind_some, nI_clamp (by omega)]
  dsimp only
  have hTn := hT.1
  have hF : T < fb_F := by unfold fb_F; omega
  generalize fb_F = F at hF ⊢
  obtain ⟨len2, dist2, sc2, dc2, tok2, z1, z2⟩ := sf_gathL hR hn h hc1 hc64 l2 hT (lk := nI (n - 2)) T F 0 len dist (upd sc1 256 1) dc1 tok (by omega) hF ⟨fun s hs => by
      by_cases w : s = 256
      · subst w; rw [pk_us, if_pos rfl]; rfl
      · rw [pk_un w, if_neg w, a2 s hs]; rfl, fun s hs => by rw [b2 s hs]; rfl, fun j hj => absurd hj (Nat.not_lt_zero j)⟩
  exact ⟨len2, dist2, sc2, dc2, tok2, lat1, ev1, z1, z2, l2⟩
end QR
