/-! ### tokens: class and reference -/
section QQ
variable {R TN n ch En : Nat} {v tv : Nat → Int32} {t : Nat → Nat}
def q_sum (g : Nat → Nat) : Nat → Nat
  | 0 => 0
  | i + 1 => q_sum g i + g i
def q_adv (t : Nat → Nat) (n ch p : Nat) : Nat := if (q_res t n ch p).1 = 0 then 1 else (q_res t n ch p).1
def q_pos (t : Nat → Nat) (n ch : Nat) : Nat → Nat
  | 0 => 0
  | i + 1 => q_pos t n ch i + q_adv t n ch (q_pos t n ch i)
def q_L (t : Nat → Nat) (n ch i : Nat) : Nat := (q_res t n ch (q_pos t n ch i)).1
def q_D (t : Nat → Nat) (n ch i : Nat) : Nat := if q_L t n ch i = 0 then t (q_pos t n ch i) else (q_res t n ch (q_pos t n ch i)).2
/-- T is how many tokens there are -/
def q_T (t : Nat → Nat) (n ch T : Nat) : Prop := T ≤ n ∧ q_pos t n ch T = n ∧ ∀ i, i < T → q_pos t n ch i < n
theorem q_adv_b (t : Nat → Nat) {n ch p : Nat} (hp : p < n) : 1 ≤ q_adv t n ch p ∧ p + q_adv t n ch p ≤ n := by
  unfold q_adv
  have := q_res_fit t n ch p
  split
  · omega
  · rename_i c
    rcases this with w | w
    · exact absurd w c
    · omega
theorem q_T_ex (t : Nat → Nat) (n ch : Nat) : ∃ T, q_T t n ch T := by
  have h1 : ∀ i, (∀ j, j < i → q_pos t n ch j < n) → i ≤ q_pos t n ch i := by
    intro i
    induction i with
    | zero => intro _; exact Nat.zero_le _
    | succ i ih =>
      intro h
      have := ih (fun j hj => h j (by omega))
      have := (q_adv_b t (ch := ch) (h i (by omega))).1
      rw [q_pos]
      omega
  have h2 : ∃ k, n ≤ q_pos t n ch k := by
    apply Classical.byContradiction
    intro w
    have w2 : ∀ k, q_pos t n ch k < n := fun k => Classical.byContradiction (fun z => w ⟨k, by omega⟩)
    have := h1 n (fun j _ => w2 j)
    have := w2 n
    omega
  obtain ⟨T, hT1, hT2⟩ := pk_least (fun k => n ≤ q_pos t n ch k) h2
  have h3 : ∀ i, i < T → q_pos t n ch i < n := fun i hi => Nat.not_le.mp (hT2 i hi)
  have h4 : q_pos t n ch T ≤ n := by
    cases T with
    | zero => rw [q_pos]; exact Nat.zero_le n
    | succ T =>
      rw [q_pos]
      exact (q_adv_b t (h3 T (by omega))).2
  have h5 := h1 T h3
  exact ⟨T, by omega, by omega, h3⟩
theorem q_tok (h : q_by n v tv t) {i : Nat} (hi : q_pos t n ch i < n) : (q_L t n ch i = 0 ∧ q_D t n ch i < 256) ∨ (3 ≤ q_L t n ch i ∧ q_L t n ch i ≤ 258 ∧ 1 ≤ q_D t n ch i ∧ q_D t n ch i ≤ 32768) := by
  have := q_res_fit t n ch (q_pos t n ch i)
  unfold q_D
  by_cases c : q_L t n ch i = 0
  · rw [if_pos c]
    exact Or.inl ⟨c, (h _ hi).1⟩
  · rw [if_neg c]
    rcases this with w | w
    · exact absurd w c
    · right
      unfold q_L
      omega
/-- a token's symbol, as it is counted -/
def q_sy (t : Nat → Nat) (n ch i : Nat) : Nat := if q_L t n ch i = 0 then q_D t n ch i else 257 + q_lS (q_L t n ch i)
def q_ns (t : Nat → Nat) (n ch s : Nat) (i : Nat) : Nat := q_sum (fun j => if q_sy t n ch j = s then 1 else 0) i
def q_nd (t : Nat → Nat) (n ch s : Nat) (i : Nat) : Nat := q_sum (fun j => if q_L t n ch j ≠ 0 ∧ q_dS (q_D t n ch j) = s then 1 else 0) i
def q_nm (t : Nat → Nat) (n ch : Nat) (i : Nat) : Nat := q_sum (fun j => if q_L t n ch j = 0 then 0 else 1) i
def q_nx (t : Nat → Nat) (n ch : Nat) (i : Nat) : Nat := q_sum (fun j => if q_L t n ch j = 0 then 0 else q_lb (q_lS (q_L t n ch j)) + q_db (q_dS (q_D t n ch j))) i
def q_gth (t : Nat → Nat) (n ch i : Nat) (sc dc tok : Nat → Int32) : Prop :=
  (∀ s, s < 286 → sc s = nI ((if s = 256 then 1 else 0) + q_ns t n ch s i)) ∧ (∀ s, s < 30 → dc s = nI (q_nd t n ch s i)) ∧ ∀ j, j < i → tok j = nI (q_L t n ch j * 65536 + q_D t n ch j)
theorem q_gth_ns {i s : Nat} : q_ns t n ch s (i + 1) = q_ns t n ch s i + if q_sy t n ch i = s then 1 else 0 := rfl
theorem q_gth_nd {i s : Nat} : q_nd t n ch s (i + 1) = q_nd t n ch s i + if q_L t n ch i ≠ 0 ∧ q_dS (q_D t n ch i) = s then 1 else 0 := rfl
theorem q_gth_nm {i : Nat} : q_nm t n ch (i + 1) = q_nm t n ch i + if q_L t n ch i = 0 then 0 else 1 := rfl
theorem q_gth_nx {i : Nat} : q_nx t n ch (i + 1) = q_nx t n ch i + if q_L t n ch i = 0 then 0 else q_lb (q_lS (q_L t n ch i)) + q_db (q_dS (q_D t n ch i)) := rfl
theorem q_orS {a b : Nat} (hb : b < 65536) (ha : a < 32768) : (nI a <<< ((16 : Int32) &&& 31)) ||| nI b = nI (a * 65536 + b) := by
  rw [pk_shlN _ 16 (by decide) (by omega), nx_or, Nat.or_comm, ← nx_or, q_orN (j := 16) hb, Nat.add_comm]
set_option maxRecDepth 100000 in
theorem sf_gathL (hR : R ≤ 80000) (hn : n ≤ R) (h : q_by n v tv t) (hc1 : 1 ≤ ch) (hc64 : ch ≤ 64) {lat ev : Nat → Int32} (hq : q_mt t (n - 2) lat ev) {T : Nat} (hT : q_T t n ch T) {lk : Int32} :
    ∀ (d m i : Nat) (len dist : Int32) (sc dc tok : Nat → Int32), T = i + d → d < m → q_gth t n ch i sc dc tok →
    ∃ len' dist' sc' dc' tok', pX8_gather_b51 286 30 R R R (nI ch) (nI n) v m (nI i) (nI (q_nm t n ch i)) (nI (q_nx t n ch i)) sc dc lk len dist lat ev tok (nI (q_pos t n ch i)) (nI i) =
      some (nI T, nI (q_nm t n ch T), nI (q_nx t n ch T), sc', dc', lk, len', dist', lat, ev, tok') ∧ q_gth t n ch T sc' dc' tok' := by
  intro d
  induction d with
  | zero =>
    intro m i len dist sc dc tok hi hm hg
    obtain ⟨m, rfl⟩ : ∃ z, m = z + 1 := ⟨m - 1, by omega⟩
    have hiT : i = T := by omega
    subst hiT
    rw [pX8_gather_b51]
    dsimp only
    have := hT.1
    rw [qf_le (by omega) (by omega), hT.2.1, if_pos (Int32.le_refl _), ite_self]
    exact ⟨len, dist, sc, dc, tok, rfl, hg⟩
  | succ d ih =>
    intro m i len dist sc dc tok hi hm hg
    obtain ⟨m, rfl⟩ : ∃ z, m = z + 1 := ⟨m - 1, by omega⟩
    have hTn := hT.1
    have hp := hT.2.2 i (by omega)
    rw [pX8_gather_b51]
    dsimp only
    rw [qf_le (by omega) (by omega), if_neg (by omega), qf_le (by omega) (by omega), if_neg (by omega)]
    obtain ⟨dd, e1, e2⟩ := sf_findC (En := R) hR hn h hn hR hc1 hc64 hq hp dist
    rw [e1, Option.bind_some]
    dsimp only
    have htok := q_tok (ch := ch) h hp
    have hL : (q_res t n ch (q_pos t n ch i)).1 = q_L t n ch i := rfl
    rw [hL] at e1 e2 ⊢
    obtain ⟨g1, g2, g3⟩ := hg
    by_cases c : q_L t n ch i = 0
    · have hD : q_D t n ch i = t (q_pos t n ch i) := by unfold q_D; rw [if_pos c]
      have ht := (h _ hp).1
      have hs : q_sy t n ch i = t (q_pos t n ch i) := by unfold q_sy; rw [if_pos c, hD]
      rw [c, nI_0, if_pos (by decide), sf_gett hR hn h hp, Option.bind_some]
      unfold pX8_addByte
      rw [qf_out (by omega), if_neg (by omega), qf_out (by omega), if_neg (by omega), qf_out (by omega), if_neg (by omega), Option.bind_some]
      dsimp only
      rw [nI_clamp (by omega), nI_clamp (by omega), nI_1, nI_1]
      have hm1 : q_nm t n ch (i + 1) = q_nm t n ch i := by rw [q_gth_nm, if_pos c, Nat.add_zero]
      have hb1 : q_nx t n ch (i + 1) = q_nx t n ch i := by rw [q_gth_nx, if_pos c, Nat.add_zero]
      have hp1 : q_pos t n ch (i + 1) = q_pos t n ch i + 1 := by rw [q_pos]; unfold q_adv; rw [hL, if_pos c]
      rw [← hm1, ← hb1, ← hp1]
      refine ih m (i + 1) _ _ _ _ _ (by omega) (by omega) ⟨fun s hs2 => ?_, fun s hs2 => ?_, fun j hj => ?_⟩
      · rw [q_gth_ns, hs]
        by_cases w : s = t (q_pos t n ch i)
        · subst w
          rw [pk_us, g1 _ hs2, nI_1, if_pos rfl, Nat.add_assoc]
        · rw [pk_un w, g1 s hs2, if_neg (show ¬ t (q_pos t n ch i) = s from fun z => w z.symm), Nat.add_zero]
      · rw [q_gth_nd, if_neg (fun z => z.1 c), g2 s hs2, Nat.add_zero]
      · by_cases w : j = i
        · subst w
          rw [pk_us, c, hD, Nat.zero_mul, Nat.zero_add]
        · rw [pk_un w]
          exact g3 j (by omega)
    · have htk : 3 ≤ q_L t n ch i ∧ q_L t n ch i ≤ 258 ∧ 1 ≤ q_D t n ch i ∧ q_D t n ch i ≤ 32768 := htok.elim (fun z => absurd z.1 c) id
      have hD : q_D t n ch i = (q_res t n ch (q_pos t n ch i)).2 := by unfold q_D; rw [if_neg c]
      have hs : q_sy t n ch i = 257 + q_lS (q_L t n ch i) := by unfold q_sy; rw [if_neg c]
      have hdd : dd = nI (q_D t n ch i) := by rw [hD]; exact e2 c
      obtain ⟨l1, -, l3, -⟩ := sf_lS htk.1 htk.2.1
      obtain ⟨d1, -, d3, -⟩ := sf_dS htk.2.2.1 htk.2.2.2
      rw [if_neg (nI_nle (by omega) (by omega)), hdd]
      unfold pX8_addMatch
      rw [qf_out (by omega), if_neg (by omega), l1, Option.bind_some, d1, Option.bind_some, show (257 : Int32) = nI 257 from rfl, nI_add, qf_out (by omega), if_neg (by omega), qf_out (by omega), if_neg (by omega), qf_out (by omega), if_neg (by omega), qf_out (by omega), if_neg (by omega), q_lb1 _ l3, Option.bind_some, q_db1 _ d3, Option.bind_some, Option.bind_some]
      dsimp only
      rw [nI_clamp (by omega), nI_clamp (by omega), nI_clamp (by omega), nI_1, nI_1, nI_add, nI_add, nI_add, q_orS (by omega) (by omega)]
      have hm1 : q_nm t n ch (i + 1) = q_nm t n ch i + 1 := by rw [q_gth_nm, if_neg c]
      have hb1 : q_nx t n ch (i + 1) = q_nx t n ch i + (q_lb (q_lS (q_L t n ch i)) + q_db (q_dS (q_D t n ch i))) := by rw [q_gth_nx, if_neg c]
      have hp1 : q_pos t n ch (i + 1) = q_pos t n ch i + q_L t n ch i := by rw [q_pos]; unfold q_adv; rw [hL, if_neg c]
      rw [← hm1, ← hb1, ← hp1]
      refine ih m (i + 1) _ _ _ _ _ (by omega) (by omega) ⟨fun s hs2 => ?_, fun s hs2 => ?_, fun j hj => ?_⟩
      · rw [q_gth_ns, hs]
        by_cases w : s = 257 + q_lS (q_L t n ch i)
        · subst w
          rw [pk_us, g1 _ hs2, nI_1, if_pos rfl, Nat.add_assoc]
        · rw [pk_un w, g1 s hs2, if_neg (show ¬ 257 + q_lS (q_L t n ch i) = s from fun z => w z.symm), Nat.add_zero]
      · rw [q_gth_nd]
        by_cases w : s = q_dS (q_D t n ch i)
        · subst w
          rw [pk_us, g2 _ hs2, nI_1, if_pos ⟨c, rfl⟩]
        · rw [pk_un w, g2 s hs2, if_neg (fun z => w z.2.symm), Nat.add_zero]
      · by_cases w : j = i
        · subst w
          rw [pk_us]
        · rw [pk_un w]
          exact g3 j (by omega)
end QQ
