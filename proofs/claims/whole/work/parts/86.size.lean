/-! ### the size in bits -/
section RM
theorem sf_nb25 {c : Nat → Nat} {cct : Nat → Int32} (hct : ∀ s, s < 19 → cct s = nI (c s)) (m b : Nat) : pX7_bits_b25 19 cct (m + 4) (nI b) 16 = some (nI (b + c 16 * 2 + c 17 * 3 + c 18 * 7)) := by
  rw [show (16 : Int32) = nI 16 from rfl, show m + 4 = m + 3 + 1 from rfl, pX7_bits_b25]
  dsimp only
  rw [show (18 : Int32) = nI 18 from rfl, qf_lt (by omega) (by omega), if_neg (by omega), qf_out (by omega), if_neg (by omega), nI_clamp (by omega), show pX7_numberBitsOf (nI 16) = some (nI 2) from rfl, Option.bind_some, hct 16 (by omega), pk_mul, nI_add, nI_1, show m + 3 = m + 2 + 1 from rfl, pX7_bits_b25]
  dsimp only
  rw [show (18 : Int32) = nI 18 from rfl, qf_lt (by omega) (by omega), if_neg (by omega), qf_out (by omega), if_neg (by omega), nI_clamp (by omega), show pX7_numberBitsOf (nI (16 + 1)) = some (nI 3) from rfl, Option.bind_some, show 16 + 1 = 17 from rfl, hct 17 (by omega), pk_mul, nI_add, nI_1, show m + 2 = m + 1 + 1 from rfl, pX7_bits_b25]
  dsimp only
  rw [show (18 : Int32) = nI 18 from rfl, qf_lt (by omega) (by omega), if_neg (by omega), qf_out (by omega), if_neg (by omega), nI_clamp (by omega), show pX7_numberBitsOf (nI (17 + 1)) = some (nI 7) from rfl, Option.bind_some, show 17 + 1 = 18 from rfl, hct 18 (by omega), pk_mul, nI_add, nI_1, pX7_bits_b25]
  dsimp only
  rw [show (18 : Int32) = nI 18 from rfl, qf_lt (by omega) (by omega), if_pos (by omega)]
theorem q_nb19 (c : Nat → Nat) : q_sum (fun s => c s * q_nb s) 19 = c 16 * 2 + c 17 * 3 + c 18 * 7 := by
  have e : ∀ n, n ≤ 16 → q_sum (fun s => c s * q_nb s) n = 0 := by
    intro n
    induction n with
    | zero => intro _; rfl
    | succ n ih =>
      intro hn
      rw [q_sum, ih (by omega)]
      have : q_nb n = 0 := by unfold q_nb; rw [if_neg (by omega), if_neg (by omega), if_neg (by omega)]
      rw [this]; rfl
  rw [q_sum, q_sum, q_sum, e 16 (by omega), show q_nb 16 = 2 from rfl, show q_nb 17 = 3 from rfl, show q_nb 18 = 7 from rfl, Nat.zero_add]
def q_sd (L D : Nat → Nat) (j : Nat) : Nat := if L j = 0 then 30 else q_dS (D j)
abbrev q_shape (T : Nat) (L D : Nat → Nat) : Prop := ∀ j, j < T → ((L j = 0 ∧ D j < 256) ∨ (3 ≤ L j ∧ L j ≤ 258 ∧ 1 ≤ D j ∧ D j ≤ 32768))
theorem q_shape_s {T : Nat} {L D : Nat → Nat} (h : q_shape T L D) {j : Nat} (hj : j < T) : q_sy2 L D j < 286 ∧ q_sd L D j < 31 := by
  unfold q_sy2 q_sd
  rcases h j hj with ⟨c1, c2⟩ | ⟨c1, c2, c3, c4⟩
  · rw [if_pos c1, if_pos c1]; omega
  · obtain ⟨-, -, l2, -, -⟩ := sf_lS c1 c2
    obtain ⟨-, -, d2, -, -⟩ := sf_dS c3 c4
    rw [if_neg (by omega), if_neg (by omega)]; omega
theorem q_sd_eq {L D : Nat → Nat} {s j : Nat} (hs : s < 30) : (if L j ≠ 0 ∧ q_dS (D j) = s then 1 else 0) = if q_sd L D j = s then 1 else 0 := by
  unfold q_sd
  by_cases w : L j = 0
  · rw [if_neg (fun z => z.1 w), if_pos w, if_neg (by omega)]
  · rw [if_neg w]
    by_cases y : q_dS (D j) = s
    · rw [if_pos ⟨w, y⟩, if_pos y]
    · rw [if_neg (fun z => y z.2), if_neg y]
theorem q_ssum {T : Nat} {L D : Nat → Nat} (h : q_shape T L D) : q_sum (fun s => (if s = 256 then 1 else 0) + q_sum (fun j => if q_sy2 L D j = s then 1 else 0) T) 286 = T + 1 := by
  rw [q_sum_add, q_cesum (fun j hj => (q_shape_s h hj).1), show q_sum (fun s => if s = 256 then 1 else 0) 286 = 1 by decide +kernel, Nat.add_comm]
theorem q_dsum {T : Nat} {L D : Nat → Nat} (h : q_shape T L D) : q_sum (fun s => q_sum (fun j => if L j ≠ 0 ∧ q_dS (D j) = s then 1 else 0) T) 30 ≤ T := by
  rw [q_sum_congr 30 (g := fun s => q_sum (fun j => if q_sd L D j = s then 1 else 0) T) (fun s hs => q_sum_congr T (fun j _ => q_sd_eq hs))]
  have e := q_cesum (N := 31) (k := T) (cs := q_sd L D) (fun j hj => (q_shape_s h hj).2)
  have := q_sum_le (f := fun s => q_sum (fun j => if q_sd L D j = s then 1 else 0) T) 31 (show 30 ≤ 31 by omega)
  omega
theorem q_e3 {T : Nat} {L D fs : Nat → Nat} (h : q_shape T L D) : q_sum (fun s => ((if s = 256 then 1 else 0) + q_sum (fun j => if q_sy2 L D j = s then 1 else 0) T) * fs s) 286 = fs 256 + q_sum (fun j => fs (q_sy2 L D j)) T := by
  rw [q_sum_congr 286 (g := fun s => (if 256 = s then 1 else 0) * fs s + q_sum (fun j => if q_sy2 L D j = s then 1 else 0) T * fs s) (fun s _ => by
    rw [Nat.add_mul]
    by_cases w : s = 256
    · rw [if_pos w, if_pos w.symm]
    · rw [if_neg w, if_neg (fun z => w z.symm)]), q_sum_add, q_sum_one1, if_pos (by omega), q_exch T (fun j hj => (q_shape_s h hj).1)]
theorem q_e4 {T : Nat} {L D fd : Nat → Nat} (h : q_shape T L D) : q_sum (fun s => q_sum (fun j => if L j ≠ 0 ∧ q_dS (D j) = s then 1 else 0) T * fd s) 30 = q_sum (fun j => if L j = 0 then 0 else fd (q_dS (D j))) T := by
  have e := q_exch (N := 31) (f := fun s => if s < 30 then fd s else 0) (sy := q_sd L D) T (fun j hj => (q_shape_s h hj).2)
  rw [q_sum] at e
  rw [q_sum_congr 30 (g := fun s => q_sum (fun j => if q_sd L D j = s then 1 else 0) T * if s < 30 then fd s else 0) (fun s hs => by rw [if_pos hs, q_sum_congr T (fun j _ => q_sd_eq hs)])]
  rw [if_neg (show ¬ 30 < 30 by omega), Nat.mul_zero, Nat.add_zero] at e
  rw [e]
  refine q_sum_congr T (fun j hj => ?_)
  unfold q_sd
  rcases h j hj with ⟨c1, c2⟩ | ⟨c1, c2, c3, c4⟩
  · rw [if_pos c1, if_pos c1, if_neg (by omega)]
  · obtain ⟨-, -, d2, -, -⟩ := sf_dS c3 c4
    rw [if_neg (show ¬ L j = 0 by omega), if_neg (show ¬ L j = 0 by omega), if_pos d2]
theorem q_e5 {T : Nat} {L D fs fd : Nat → Nat} : q_sum (q_tb L D fs fd) T = q_sum (fun j => fs (q_sy2 L D j)) T + q_sum (fun j => if L j = 0 then 0 else fd (q_dS (D j))) T + q_sum (fun j => if L j = 0 then 0 else q_lb (q_lS (L j)) + q_db (q_dS (D j))) T := by
  rw [← q_sum_add, ← q_sum_add]
  refine q_sum_congr T (fun j _ => ?_)
  unfold q_tb q_sy2
  by_cases w : L j = 0
  · simp only [if_pos w]; omega
  · simp only [if_neg w]; omega
/-- the told block's bits -/
def q_B3 (T k H : Nat) (L D cs fl fs fd : Nat → Nat) : Nat := 17 + 3 * H + fs 256 + q_sum (fun j => fl (cs j) + q_nb (cs j)) k + q_sum (q_tb L D fs fd) T
theorem sf_tbits {T k H : Nat} {L D cs fl fs fd : Nat → Nat} {tl cct sl sc dl dc : Nat → Int32} (h : q_shape T L D) (hcs : ∀ j, j < k → cs j < 19)
    (hsl : ∀ s, s < 286 → sl s = nI (fs s) ∧ sc s = nI ((if s = 256 then 1 else 0) + q_sum (fun j => if q_sy2 L D j = s then 1 else 0) T))
    (hdl : ∀ s, s < 30 → dl s = nI (fd s) ∧ dc s = nI (q_sum (fun j => if L j ≠ 0 ∧ q_dS (D j) = s then 1 else 0) T))
    (htl : ∀ s, s < 19 → tl s = nI (fl s) ∧ cct s = nI (q_sum (fun j => if cs j = s then 1 else 0) k)) :
    pX5_toldBits 19 19 286 286 30 30 (nI H) tl cct (nI (q_sum (fun j => if L j = 0 then 0 else q_lb (q_lS (L j)) + q_db (q_dS (D j))) T)) sl sc dl dc = some (nI (q_B3 T k H L D cs fl fs fd)) := by
  unfold pX5_toldBits pX7_bits
  rw [sf_bitsFor (by omega) htl, Option.bind_some, show (14 : Int32) = nI 14 from rfl, show (3 : Int32) = nI 3 from rfl, pk_mul, nI_add, nI_add, show fb_F = 4294967292 + 4 from rfl, sf_nb25 (fun s hs => (htl s hs).2), Option.bind_some, sf_bitsFor (by omega) hsl, Option.bind_some, sf_bitsFor (by omega) hdl, Option.bind_some, nI_add, nI_add, nI_add, nI_add]
  have e1 := q_exch (N := 19) (f := fl) (sy := cs) k hcs
  have e2 := q_exch (N := 19) (f := q_nb) (sy := cs) k hcs
  have e2' := q_nb19 (fun s => q_sum (fun j => if cs j = s then 1 else 0) k)
  have e3 := q_e3 (fs := fs) h
  have e4 := q_e4 (fd := fd) h
  have e5 := q_e5 (T := T) (L := L) (D := D) (fs := fs) (fd := fd)
  have e6 := q_sum_add (f := fun j => fl (cs j)) (g := fun j => q_nb (cs j)) k
  unfold q_B3
  congr 2
  omega
end RM
