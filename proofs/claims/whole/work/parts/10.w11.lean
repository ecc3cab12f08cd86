theorem dX6_repeat_0 : decode cX6_repeat 0 = .ok (.iload_n 1, 1) := by decide +kernel
theorem dX6_repeat_1 : decode cX6_repeat 1 = .ok (.iconst 1, 1) := by decide +kernel
theorem dX6_repeat_2 : decode cX6_repeat 2 = .ok (.if_icmp .lt 25, 3) := by decide +kernel
theorem dX6_repeat_5 : decode cX6_repeat 5 = .ok (.iload_n 1, 1) := by decide +kernel
theorem dX6_repeat_6 : decode cX6_repeat 6 = .ok (.aload_n 0, 1) := by decide +kernel
theorem dX6_repeat_7 : decode cX6_repeat 7 = .ok (.getfield 15, 3) := by decide +kernel
theorem dX6_repeat_10 : decode cX6_repeat 10 = .ok (.if_icmp .gt 17, 3) := by decide +kernel
theorem dX6_repeat_13 : decode cX6_repeat 13 = .ok (.iload_n 2, 1) := by decide +kernel
theorem dX6_repeat_14 : decode cX6_repeat 14 = .ok (.aload_n 0, 1) := by decide +kernel
theorem dX6_repeat_15 : decode cX6_repeat 15 = .ok (.getfield 9, 3) := by decide +kernel
theorem dX6_repeat_18 : decode cX6_repeat 18 = .ok (.arraylength, 1) := by decide +kernel
theorem dX6_repeat_19 : decode cX6_repeat 19 = .ok (.aload_n 0, 1) := by decide +kernel
theorem dX6_repeat_20 : decode cX6_repeat 20 = .ok (.getfield 15, 3) := by decide +kernel
theorem dX6_repeat_23 : decode cX6_repeat 23 = .ok (.isub, 1) := by decide +kernel
theorem dX6_repeat_24 : decode cX6_repeat 24 = .ok (.if_icmp .le 5, 3) := by decide +kernel
theorem dX6_repeat_27 : decode cX6_repeat 27 = .ok (.iconst 0, 1) := by decide +kernel
theorem dX6_repeat_28 : decode cX6_repeat 28 = .ok (.ireturn, 1) := by decide +kernel
theorem dX6_repeat_29 : decode cX6_repeat 29 = .ok (.iconst 0, 1) := by decide +kernel
theorem dX6_repeat_30 : decode cX6_repeat 30 = .ok (.istore_n 3, 1) := by decide +kernel
theorem dX6_repeat_31 : decode cX6_repeat 31 = .ok (.iload_n 3, 1) := by decide +kernel
theorem dX6_repeat_32 : decode cX6_repeat 32 = .ok (.iload_n 2, 1) := by decide +kernel
theorem dX6_repeat_33 : decode cX6_repeat 33 = .ok (.if_icmp .ge 39, 3) := by decide +kernel
theorem dX6_repeat_36 : decode cX6_repeat 36 = .ok (.aload_n 0, 1) := by decide +kernel
theorem dX6_repeat_37 : decode cX6_repeat 37 = .ok (.getfield 9, 3) := by decide +kernel
theorem dX6_repeat_40 : decode cX6_repeat 40 = .ok (.aload_n 0, 1) := by decide +kernel
theorem dX6_repeat_41 : decode cX6_repeat 41 = .ok (.getfield 15, 3) := by decide +kernel
theorem dX6_repeat_44 : decode cX6_repeat 44 = .ok (.aload_n 0, 1) := by decide +kernel
theorem dX6_repeat_45 : decode cX6_repeat 45 = .ok (.getfield 9, 3) := by decide +kernel
theorem dX6_repeat_48 : decode cX6_repeat 48 = .ok (.aload_n 0, 1) := by decide +kernel
theorem dX6_repeat_49 : decode cX6_repeat 49 = .ok (.getfield 15, 3) := by decide +kernel
theorem dX6_repeat_52 : decode cX6_repeat 52 = .ok (.iload_n 1, 1) := by decide +kernel
theorem dX6_repeat_53 : decode cX6_repeat 53 = .ok (.isub, 1) := by decide +kernel
theorem dX6_repeat_54 : decode cX6_repeat 54 = .ok (.baload, 1) := by decide +kernel
theorem dX6_repeat_55 : decode cX6_repeat 55 = .ok (.bastore, 1) := by decide +kernel
theorem dX6_repeat_56 : decode cX6_repeat 56 = .ok (.aload_n 0, 1) := by decide +kernel
theorem dX6_repeat_57 : decode cX6_repeat 57 = .ok (.dup, 1) := by decide +kernel
theorem dX6_repeat_58 : decode cX6_repeat 58 = .ok (.getfield 15, 3) := by decide +kernel
theorem dX6_repeat_61 : decode cX6_repeat 61 = .ok (.iconst 1, 1) := by decide +kernel
theorem dX6_repeat_62 : decode cX6_repeat 62 = .ok (.iadd, 1) := by decide +kernel
theorem dX6_repeat_63 : decode cX6_repeat 63 = .ok (.putfield 15, 3) := by decide +kernel
theorem dX6_repeat_66 : decode cX6_repeat 66 = .ok (.iinc 3 1, 3) := by decide +kernel
theorem dX6_repeat_69 : decode cX6_repeat 69 = .ok (.goto (-38), 3) := by decide +kernel
theorem dX6_repeat_72 : decode cX6_repeat 72 = .ok (.iconst 1, 1) := by decide +kernel
theorem dX6_repeat_73 : decode cX6_repeat 73 = .ok (.ireturn, 1) := by decide +kernel
def pX6_repeat_b31 (o_bytes_n : Nat) (x1 : Int32) (x2 : Int32)  : Nat → Int32 → (Nat → Int32) → Int32 → Option (Int32 × Int32 × (Nat → Int32))
  | 0 => fun _ _ _ => none
  | n + 1 => fun o_size o_bytes_v x3 =>
  if x2 ≤ x3 then
  (some ((1 : Int32), o_size, o_bytes_v))
  else
  (if (o_size - x1) < 0 ∨ o_bytes_n ≤ ((o_size - x1)).toNatClampNeg then none else
  if o_size < 0 ∨ o_bytes_n ≤ (o_size).toNatClampNeg then none else
  (pX6_repeat_b31 o_bytes_n x1 x2 n) (o_size + (1 : Int32)) (upd o_bytes_v (o_size).toNatClampNeg (vp_nar .byte (o_bytes_v ((o_size - x1)).toNatClampNeg))) (x3 + (1 : Int32)))
def pX6_repeat (o_bytes_n : Nat) (x1 : Int32) (x2 : Int32)  (o_size : Int32) (o_bytes_v : Nat → Int32) : Option (Int32 × Int32 × (Nat → Int32)) :=
  if x1 < (1 : Int32) then
  (some ((0 : Int32), o_size, o_bytes_v))
  else
  (if o_size < x1 then
  (some ((0 : Int32), o_size, o_bytes_v))
  else
  (if x2 ≤ ((Int32.ofNat o_bytes_n) - o_size) then
  (pX6_repeat_b31 o_bytes_n x1 x2 fb_F o_size o_bytes_v (0 : Int32))
  else
  (some ((0 : Int32), o_size, o_bytes_v))))
theorem hdX6_repeat : yX6_repeat.cls = RX6 ∧ yX6_repeat.cls ≠ "java/lang/invoke/MethodHandle" ∧ yX6_repeat.cls ≠ "java/lang/invoke/VarHandle" ∧ (parseMethodDescriptor yX6_repeat.desc).map (fun d => d.parameters.length) = some 2 := by decide +kernel
set_option maxHeartbeats 8000000 in
set_option maxRecDepth 100000 in
theorem mX6_repeat (l : Launch) (dC : Nat → ClassId) (dI : Nat → Nat → Nat) (o : Nat) (o_bytes : Nat) (o_bytes_c : ClassId) (o_bytes_n : Nat) (o_size : Int32) (o_bytes_v : Nat → Int32) (x1 : Int32) (x2 : Int32) (sz : Nat) (u : Int32 × Int32 × (Nat → Int32)) (h : pX6_repeat o_bytes_n x1 x2 o_size o_bytes_v = some u) : Met l yX6_repeat (Cond.code yX6_repeat cX6_repeat 4 (some .boolean) :: fb_tb) ({ frames := 0, cells := 0, slots := 0, locals := 0 }) (fb_Pc (dC, dI) [.ref o, .int x1, .int x2] sz [(o_bytes_c, .byte)] [(o, .inr (6, [.ref o_bytes, .int o_size])), (o_bytes, .inl (o_bytes_c, o_bytes_n, .inl o_bytes_v))]) (fb_Qi (dC, dI) u.1 [(o, .inr (6, [.ref o_bytes, .int u.2.1])), (o_bytes, .inl (o_bytes_c, o_bytes_n, .inl u.2.2))] (va_A [(o, .inr (6, [.ref o_bytes, .int o_size])), (o_bytes, .inl (o_bytes_c, o_bytes_n, .inl o_bytes_v))] sz)) 0 0 (va_A [(o, .inr (6, [.ref o_bytes, .int o_size])), (o_bytes, .inl (o_bytes_c, o_bytes_n, .inl o_bytes_v))] sz) := by
  refine fb_meti (ty := .boolean) (by decide) (Nat.le_of_ble_eq_true rfl) (fun p e s m args below meth c A Q ls H hx hb hml hown hts hP hK hN hZ hD hA hS hret hl => ?_)
  replace hl : lv_has ls 4 [(0, .ref o), (1, .int x1), (2, .int x2)] := hl
  have wB31 : ∀ n : Nat, ∀ (o_size : Int32) (o_bytes_v : Nat → Int32) (x3 : Int32) (H : Heap) (locs : List Loc) (ls : Array Slot), va_P (dC, dI) fb_cl [(o, .inr (6, [.ref o_bytes, .int o_size])), (o_bytes, .inl (o_bytes_c, o_bytes_n, .inl o_bytes_v))] H → va_D A [(o, .inr (6, [.ref o_bytes, .int o_size])), (o_bytes, .inl (o_bytes_c, o_bytes_n, .inl o_bytes_v))] → va_S A s.heap H locs → lv_has ls 4 [(0, .ref o), (1, .int x1), (2, .int x2), (3, .int x3)] → pX6_repeat_b31 o_bytes_n x1 x2 n o_size o_bytes_v x3 = some u → W p l e ({ frames := 0, cells := 0, slots := 0, locals := 0 }) s m args below meth c H locs 0 0 Q (F0 m 31 ls []) := by
    intro n
    induction n with
    | zero => intro o_size o_bytes_v x3 H locs ls hP hD hS hl h; cases h
    | succ n ih =>
      intro o_size o_bytes_v x3 H locs ls hP hD hS hl h
      rw [pX6_repeat_b31] at h
      refine lv_iload_n hx hb dX6_repeat_31 rfl (lv_at hl 3 rfl) ?_
      refine lv_iload_n hx hb dX6_repeat_32 rfl (lv_at hl 2 rfl) ?_
      refine lv_icmp_ge (tgt := 72) hx hb dX6_repeat_33 (by decide) (fun c1 => ?_) (fun c1 => ?_)
      · replace h := fb_t c1 h
        refine lv_iconst (v := (1 : Int32)) hx hb dX6_repeat_72 (by decide) ?_
        have hu := Option.some.inj h
        exact hret _ _ _ _ _ dX6_repeat_73 rfl (by rw [← hu]) (by rw [← hu]; exact hP) (by rw [← hu]; exact hD) hS
      · replace h := fb_f c1 h
        refine lv_aload_n hx hb dX6_repeat_36 rfl (lv_at hl 0 rfl) ?_
        refine va_get (D := (dC, dI)) (ci := 6) (v := .ref o_bytes) (C := RX6) (T := TX6) (N := 2) hx hb hts i_X6 hown hK hP 0 rfl rfl 0 (by decide) (hts _ k_102) (fun _ h9 => h9) rfl dX6_repeat_37 ?_
        refine lv_aload_n hx hb dX6_repeat_40 rfl (lv_at hl 0 rfl) ?_
        refine va_get (D := (dC, dI)) (ci := 6) (v := .int o_size) (C := RX6) (T := TX6) (N := 2) hx hb hts i_X6 hown hK hP 0 rfl rfl 1 (by decide) (hts _ k_106) (fun _ h9 => h9) rfl dX6_repeat_41 ?_
        refine lv_aload_n hx hb dX6_repeat_44 rfl (lv_at hl 0 rfl) ?_
        refine va_get (D := (dC, dI)) (ci := 6) (v := .ref o_bytes) (C := RX6) (T := TX6) (N := 2) hx hb hts i_X6 hown hK hP 0 rfl rfl 0 (by decide) (hts _ k_102) (fun _ h9 => h9) rfl dX6_repeat_45 ?_
        refine lv_aload_n hx hb dX6_repeat_48 rfl (lv_at hl 0 rfl) ?_
        refine va_get (D := (dC, dI)) (ci := 6) (v := .int o_size) (C := RX6) (T := TX6) (N := 2) hx hb hts i_X6 hown hK hP 0 rfl rfl 1 (by decide) (hts _ k_106) (fun _ h9 => h9) rfl dX6_repeat_49 ?_
        refine lv_iload_n hx hb dX6_repeat_52 rfl (lv_at hl 1 rfl) ?_
        refine lv_isub hx hb dX6_repeat_53 ?_
        obtain ⟨g2, h⟩ := fb_g h
        refine va_bald hx hb hK hP 1 0 rfl rfl g2 dX6_repeat_54 ?_
        obtain ⟨g3, h⟩ := fb_g h
        refine va_bast hx hb hK hP hD hS 1 0 rfl rfl g3 dX6_repeat_55 (fun H locs hP hD hS => ?_)
        replace hP : va_P (dC, dI) fb_cl [(o, .inr (6, [.ref o_bytes, .int o_size])), (o_bytes, .inl (o_bytes_c, o_bytes_n, .inl (upd o_bytes_v (o_size).toNatClampNeg (vp_nar .byte (o_bytes_v ((o_size - x1)).toNatClampNeg)))))] H := hP
        replace hD : va_D A [(o, .inr (6, [.ref o_bytes, .int o_size])), (o_bytes, .inl (o_bytes_c, o_bytes_n, .inl (upd o_bytes_v (o_size).toNatClampNeg (vp_nar .byte (o_bytes_v ((o_size - x1)).toNatClampNeg)))))] := hD
        refine lv_aload_n hx hb dX6_repeat_56 rfl (lv_at hl 0 rfl) ?_
        refine lv_dup hx hb dX6_repeat_57 rfl ?_
        refine va_get (D := (dC, dI)) (ci := 6) (v := .int o_size) (C := RX6) (T := TX6) (N := 2) hx hb hts i_X6 hown hK hP 0 rfl rfl 1 (by decide) (hts _ k_106) (fun _ h9 => h9) rfl dX6_repeat_58 ?_
        refine lv_iconst (v := (1 : Int32)) hx hb dX6_repeat_61 (by decide) ?_
        refine lv_iadd hx hb dX6_repeat_62 ?_
        refine va_put (D := (dC, dI)) (ci := 6) (v := .int (o_size + (1 : Int32))) (ty := .int) (C := RX6) (T := TX6) (N := 2) hx hb hts i_X6 tyX6 tyX6_ok nmX6 hown hK hP hD hS 0 rfl rfl 1 (by decide) (hts _ k_106) (fun _ h9 => h9) rfl (by decide +kernel) rfl rfl (Nat.le_of_ble_eq_true rfl) dX6_repeat_63 (fun H locs hP hD hS => ?_)
        replace hP : va_P (dC, dI) fb_cl [(o, .inr (6, [.ref o_bytes, .int (o_size + (1 : Int32))])), (o_bytes, .inl (o_bytes_c, o_bytes_n, .inl (upd o_bytes_v (o_size).toNatClampNeg (vp_nar .byte (o_bytes_v ((o_size - x1)).toNatClampNeg)))))] H := hP
        replace hD : va_D A [(o, .inr (6, [.ref o_bytes, .int (o_size + (1 : Int32))])), (o_bytes, .inl (o_bytes_c, o_bytes_n, .inl (upd o_bytes_v (o_size).toNatClampNeg (vp_nar .byte (o_bytes_v ((o_size - x1)).toNatClampNeg)))))] := hD
        refine lv_iinc (v := (x3 + (1 : Int32))) (lv' := [(3, .int (x3 + (1 : Int32))), (0, .ref o), (1, .int x1), (2, .int x2)]) hx hb dX6_repeat_66 hl (k := 3) rfl rfl (by decide) rfl (fun ls hl => ?_)
        refine lv_goto (tgt := 31) hx hb dX6_repeat_69 (by decide) ?_
        exact ih (o_size + (1 : Int32)) (upd o_bytes_v (o_size).toNatClampNeg (vp_nar .byte (o_bytes_v ((o_size - x1)).toNatClampNeg))) (x3 + (1 : Int32)) _ _ _ hP hD hS (lv_sub hl [1, 2, 3, 0] rfl) h
  unfold pX6_repeat at h
  refine lv_iload_n hx hb dX6_repeat_0 rfl (lv_at hl 1 rfl) ?_
  refine lv_iconst (v := (1 : Int32)) hx hb dX6_repeat_1 (by decide) ?_
  refine lv_icmp_lt (tgt := 27) hx hb dX6_repeat_2 (by decide) (fun c4 => ?_) (fun c4 => ?_)
  · replace h := fb_t c4 h
    refine lv_iconst (v := (0 : Int32)) hx hb dX6_repeat_27 (by decide) ?_
    have hu := Option.some.inj h
    exact hret _ _ _ _ _ dX6_repeat_28 rfl (by rw [← hu]) (by rw [← hu]; exact hP) (by rw [← hu]; exact hD) hS
  · replace h := fb_f c4 h
    refine lv_iload_n hx hb dX6_repeat_5 rfl (lv_at hl 1 rfl) ?_
    refine lv_aload_n hx hb dX6_repeat_6 rfl (lv_at hl 0 rfl) ?_
    refine va_get (D := (dC, dI)) (ci := 6) (v := .int o_size) (C := RX6) (T := TX6) (N := 2) hx hb hts i_X6 hown hK hP 0 rfl rfl 1 (by decide) (hts _ k_106) (fun _ h9 => h9) rfl dX6_repeat_7 ?_
    refine lv_icmp_gt (tgt := 27) hx hb dX6_repeat_10 (by decide) (fun c5 => ?_) (fun c5 => ?_)
    · replace h := fb_t c5 h
      refine lv_iconst (v := (0 : Int32)) hx hb dX6_repeat_27 (by decide) ?_
      have hu := Option.some.inj h
      exact hret _ _ _ _ _ dX6_repeat_28 rfl (by rw [← hu]) (by rw [← hu]; exact hP) (by rw [← hu]; exact hD) hS
    · replace h := fb_f c5 h
      refine lv_iload_n hx hb dX6_repeat_13 rfl (lv_at hl 2 rfl) ?_
      refine lv_aload_n hx hb dX6_repeat_14 rfl (lv_at hl 0 rfl) ?_
      refine va_get (D := (dC, dI)) (ci := 6) (v := .ref o_bytes) (C := RX6) (T := TX6) (N := 2) hx hb hts i_X6 hown hK hP 0 rfl rfl 0 (by decide) (hts _ k_102) (fun _ h9 => h9) rfl dX6_repeat_15 ?_
      refine va_alen (v := (Int32.ofNat o_bytes_n)) hx hb hK hP 1 0 rfl rfl rfl dX6_repeat_18 ?_
      refine lv_aload_n hx hb dX6_repeat_19 rfl (lv_at hl 0 rfl) ?_
      refine va_get (D := (dC, dI)) (ci := 6) (v := .int o_size) (C := RX6) (T := TX6) (N := 2) hx hb hts i_X6 hown hK hP 0 rfl rfl 1 (by decide) (hts _ k_106) (fun _ h9 => h9) rfl dX6_repeat_20 ?_
      refine lv_isub hx hb dX6_repeat_23 ?_
      refine lv_icmp_le (tgt := 29) hx hb dX6_repeat_24 (by decide) (fun c6 => ?_) (fun c6 => ?_)
      · replace h := fb_t c6 h
        refine lv_iconst (v := (0 : Int32)) hx hb dX6_repeat_29 (by decide) ?_
        refine lv_istore_n (lv' := [(3, .int (0 : Int32)), (0, .ref o), (1, .int x1), (2, .int x2)]) hx hb dX6_repeat_30 rfl hl (by decide) rfl (fun ls hl => ?_)
        exact wB31 fb_F o_size o_bytes_v (0 : Int32) _ _ _ hP hD hS (lv_sub hl [1, 2, 3, 0] rfl) h
      · replace h := fb_f c6 h
        refine lv_iconst (v := (0 : Int32)) hx hb dX6_repeat_27 (by decide) ?_
        have hu := Option.some.inj h
        exact hret _ _ _ _ _ dX6_repeat_28 rfl (by rw [← hu]) (by rw [← hu]; exact hP) (by rw [← hu]; exact hD) hS
theorem dX6_become_0 : decode cX6_become 0 = .ok (.aload_n 0, 1) := by decide +kernel
theorem dX6_become_1 : decode cX6_become 1 = .ok (.aload_n 1, 1) := by decide +kernel
theorem dX6_become_2 : decode cX6_become 2 = .ok (.getfield 15, 3) := by decide +kernel
theorem dX6_become_5 : decode cX6_become 5 = .ok (.aload_n 0, 1) := by decide +kernel
theorem dX6_become_6 : decode cX6_become 6 = .ok (.getfield 9, 3) := by decide +kernel
theorem dX6_become_9 : decode cX6_become 9 = .ok (.arraylength, 1) := by decide +kernel
theorem dX6_become_10 : decode cX6_become 10 = .ok (.invokestatic 19, 3) := by decide +kernel
theorem dX6_become_13 : decode cX6_become 13 = .ok (.putfield 15, 3) := by decide +kernel
theorem dX6_become_16 : decode cX6_become 16 = .ok (.aload_n 1, 1) := by decide +kernel
theorem dX6_become_17 : decode cX6_become 17 = .ok (.getfield 9, 3) := by decide +kernel
theorem dX6_become_20 : decode cX6_become 20 = .ok (.iconst 0, 1) := by decide +kernel
theorem dX6_become_21 : decode cX6_become 21 = .ok (.aload_n 0, 1) := by decide +kernel
theorem dX6_become_22 : decode cX6_become 22 = .ok (.getfield 9, 3) := by decide +kernel
theorem dX6_become_25 : decode cX6_become 25 = .ok (.iconst 0, 1) := by decide +kernel
theorem dX6_become_26 : decode cX6_become 26 = .ok (.aload_n 0, 1) := by decide +kernel
theorem dX6_become_27 : decode cX6_become 27 = .ok (.getfield 15, 3) := by decide +kernel
theorem dX6_become_30 : decode cX6_become 30 = .ok (.invokestatic 25, 3) := by decide +kernel
theorem dX6_become_33 : decode cX6_become 33 = .ok (.return_, 1) := by decide +kernel
def pX6_become (o_bytes_n : Nat) (a1_bytes_n : Nat) (a1_size : Int32) (a1_bytes_v : Nat → Int32)  (o_bytes_v : Nat → Int32) : Option (Int32 × (Nat → Int32)) :=
  if ¬ (0 : Int32) < 0 ∧ ¬ (0 : Int32) < 0 ∧ ¬ (if (Int32.ofNat o_bytes_n) < a1_size then (Int32.ofNat o_bytes_n) else a1_size) < 0 ∧ ((0 : Int32)).toNatClampNeg + ((if (Int32.ofNat o_bytes_n) < a1_size then (Int32.ofNat o_bytes_n) else a1_size)).toNatClampNeg ≤ a1_bytes_n ∧ ((0 : Int32)).toNatClampNeg + ((if (Int32.ofNat o_bytes_n) < a1_size then (Int32.ofNat o_bytes_n) else a1_size)).toNatClampNeg ≤ o_bytes_n ∧ ∀ i, i < ((if (Int32.ofNat o_bytes_n) < a1_size then (Int32.ofNat o_bytes_n) else a1_size)).toNatClampNeg → fits .byte (.int (a1_bytes_v (((0 : Int32)).toNatClampNeg + i))) = true then
  (some ((if (Int32.ofNat o_bytes_n) < a1_size then (Int32.ofNat o_bytes_n) else a1_size), (va_cpy a1_bytes_v o_bytes_v ((0 : Int32)).toNatClampNeg ((0 : Int32)).toNatClampNeg ((if (Int32.ofNat o_bytes_n) < a1_size then (Int32.ofNat o_bytes_n) else a1_size)).toNatClampNeg))) else none
theorem hdX6_become : yX6_become.cls = RX6 ∧ yX6_become.cls ≠ "java/lang/invoke/MethodHandle" ∧ yX6_become.cls ≠ "java/lang/invoke/VarHandle" ∧ (parseMethodDescriptor yX6_become.desc).map (fun d => d.parameters.length) = some 1 := by decide +kernel
set_option maxHeartbeats 8000000 in
set_option maxRecDepth 100000 in
theorem mX6_become (l : Launch) (dC : Nat → ClassId) (dI : Nat → Nat → Nat) (o : Nat) (a1 : Nat) (o_bytes : Nat) (a1_bytes : Nat) (o_bytes_c : ClassId) (a1_bytes_c : ClassId) (o_bytes_n : Nat) (a1_bytes_n : Nat) (o_size : Int32) (o_bytes_v : Nat → Int32) (a1_size : Int32) (a1_bytes_v : Nat → Int32)  (sz : Nat) (u : Int32 × (Nat → Int32)) (h : pX6_become o_bytes_n a1_bytes_n a1_size a1_bytes_v o_bytes_v = some u) : Met l yX6_become (Cond.code yX6_become cX6_become 2 none :: fb_tb) ({ frames := 1, cells := 0, slots := 0, locals := 18 }) (fb_Pc (dC, dI) [.ref o, .ref a1] sz [(o_bytes_c, .byte), (a1_bytes_c, .byte)] [(o, .inr (6, [.ref o_bytes, .int o_size])), (o_bytes, .inl (o_bytes_c, o_bytes_n, .inl o_bytes_v)), (a1, .inr (6, [.ref a1_bytes, .int a1_size])), (a1_bytes, .inl (a1_bytes_c, a1_bytes_n, .inl a1_bytes_v))]) (fb_Qv (dC, dI) [(o, .inr (6, [.ref o_bytes, .int u.1])), (o_bytes, .inl (o_bytes_c, o_bytes_n, .inl u.2)), (a1, .inr (6, [.ref a1_bytes, .int a1_size])), (a1_bytes, .inl (a1_bytes_c, a1_bytes_n, .inl a1_bytes_v))] (va_A [(o, .inr (6, [.ref o_bytes, .int o_size])), (o_bytes, .inl (o_bytes_c, o_bytes_n, .inl o_bytes_v)), (a1, .inr (6, [.ref a1_bytes, .int a1_size])), (a1_bytes, .inl (a1_bytes_c, a1_bytes_n, .inl a1_bytes_v))] sz)) 0 0 (va_A [(o, .inr (6, [.ref o_bytes, .int o_size])), (o_bytes, .inl (o_bytes_c, o_bytes_n, .inl o_bytes_v)), (a1, .inr (6, [.ref a1_bytes, .int a1_size])), (a1_bytes, .inl (a1_bytes_c, a1_bytes_n, .inl a1_bytes_v))] sz) := by
  refine fb_metv (by decide) (Nat.le_of_ble_eq_true rfl) (fun p e s m args below meth c A Q ls H hx hb hml hown hts hP hK hN hZ hD hA hS hret hl => ?_)
  replace hl : lv_has ls 2 [(0, .ref o), (1, .ref a1)] := hl
  unfold pX6_become at h
  refine lv_aload_n hx hb dX6_become_0 rfl (lv_at hl 0 rfl) ?_
  refine lv_aload_n hx hb dX6_become_1 rfl (lv_at hl 1 rfl) ?_
  refine va_get (D := (dC, dI)) (ci := 6) (v := .int a1_size) (C := RX6) (T := TX6) (N := 2) hx hb hts i_X6 hown hK hP 2 rfl rfl 1 (by decide) (hts _ k_106) (fun _ h9 => h9) rfl dX6_become_2 ?_
  refine lv_aload_n hx hb dX6_become_5 rfl (lv_at hl 0 rfl) ?_
  refine va_get (D := (dC, dI)) (ci := 6) (v := .ref o_bytes) (C := RX6) (T := TX6) (N := 2) hx hb hts i_X6 hown hK hP 0 rfl rfl 0 (by decide) (hts _ k_102) (fun _ h9 => h9) rfl dX6_become_6 ?_
  refine va_alen (v := (Int32.ofNat o_bytes_n)) hx hb hK hP 1 0 rfl rfl rfl dX6_become_9 ?_
  refine va_mmin hx hb (hml.trans hl.1.symm) hown (hts _ k_669) (hts _ k_90) (hts _ k_63) (hts _ k_91) (Nat.le_of_ble_eq_true rfl) (Nat.le_of_ble_eq_true rfl) (Nat.zero_le _) (Nat.zero_le _) dX6_become_10 ?_
  refine va_put (D := (dC, dI)) (ci := 6) (v := .int (if (Int32.ofNat o_bytes_n) < a1_size then (Int32.ofNat o_bytes_n) else a1_size)) (ty := .int) (C := RX6) (T := TX6) (N := 2) hx hb hts i_X6 tyX6 tyX6_ok nmX6 hown hK hP hD hS 0 rfl rfl 1 (by decide) (hts _ k_106) (fun _ h9 => h9) rfl (by decide +kernel) rfl rfl (Nat.le_of_ble_eq_true rfl) dX6_become_13 (fun H locs hP hD hS => ?_)
  replace hP : va_P (dC, dI) fb_cl [(o, .inr (6, [.ref o_bytes, .int (if (Int32.ofNat o_bytes_n) < a1_size then (Int32.ofNat o_bytes_n) else a1_size)])), (o_bytes, .inl (o_bytes_c, o_bytes_n, .inl o_bytes_v)), (a1, .inr (6, [.ref a1_bytes, .int a1_size])), (a1_bytes, .inl (a1_bytes_c, a1_bytes_n, .inl a1_bytes_v))] H := hP
  replace hD : va_D A [(o, .inr (6, [.ref o_bytes, .int (if (Int32.ofNat o_bytes_n) < a1_size then (Int32.ofNat o_bytes_n) else a1_size)])), (o_bytes, .inl (o_bytes_c, o_bytes_n, .inl o_bytes_v)), (a1, .inr (6, [.ref a1_bytes, .int a1_size])), (a1_bytes, .inl (a1_bytes_c, a1_bytes_n, .inl a1_bytes_v))] := hD
  refine lv_aload_n hx hb dX6_become_16 rfl (lv_at hl 1 rfl) ?_
  refine va_get (D := (dC, dI)) (ci := 6) (v := .ref a1_bytes) (C := RX6) (T := TX6) (N := 2) hx hb hts i_X6 hown hK hP 2 rfl rfl 0 (by decide) (hts _ k_102) (fun _ h9 => h9) rfl dX6_become_17 ?_
  refine lv_iconst (v := (0 : Int32)) hx hb dX6_become_20 (by decide) ?_
  refine lv_aload_n hx hb dX6_become_21 rfl (lv_at hl 0 rfl) ?_
  refine va_get (D := (dC, dI)) (ci := 6) (v := .ref o_bytes) (C := RX6) (T := TX6) (N := 2) hx hb hts i_X6 hown hK hP 0 rfl rfl 0 (by decide) (hts _ k_102) (fun _ h9 => h9) rfl dX6_become_22 ?_
  refine lv_iconst (v := (0 : Int32)) hx hb dX6_become_25 (by decide) ?_
  refine lv_aload_n hx hb dX6_become_26 rfl (lv_at hl 0 rfl) ?_
  refine va_get (D := (dC, dI)) (ci := 6) (v := .int (if (Int32.ofNat o_bytes_n) < a1_size then (Int32.ofNat o_bytes_n) else a1_size)) (C := RX6) (T := TX6) (N := 2) hx hb hts i_X6 hown hK hP 0 rfl rfl 1 (by decide) (hts _ k_106) (fun _ h9 => h9) rfl dX6_become_27 ?_
  obtain ⟨g1, h⟩ := fb_h h
  refine va_copyi (ty := .byte) hx hb (hml.trans hl.1.symm) hown (hts _ k_670) (hts _ k_493) (hts _ k_492) (hts _ k_76) hK hP hD hS 3 1 1 0 rfl rfl rfl rfl rfl g1.1 g1.2.1 g1.2.2.1 g1.2.2.2.1 g1.2.2.2.2.1 g1.2.2.2.2.2 (Nat.le_of_ble_eq_true rfl) (Nat.le_of_ble_eq_true rfl) dX6_become_30 (fun H locs hP hD hS => ?_)
  replace hP : va_P (dC, dI) fb_cl [(o, .inr (6, [.ref o_bytes, .int (if (Int32.ofNat o_bytes_n) < a1_size then (Int32.ofNat o_bytes_n) else a1_size)])), (o_bytes, .inl (o_bytes_c, o_bytes_n, .inl (va_cpy a1_bytes_v o_bytes_v ((0 : Int32)).toNatClampNeg ((0 : Int32)).toNatClampNeg ((if (Int32.ofNat o_bytes_n) < a1_size then (Int32.ofNat o_bytes_n) else a1_size)).toNatClampNeg))), (a1, .inr (6, [.ref a1_bytes, .int a1_size])), (a1_bytes, .inl (a1_bytes_c, a1_bytes_n, .inl a1_bytes_v))] H := hP
  replace hD : va_D A [(o, .inr (6, [.ref o_bytes, .int (if (Int32.ofNat o_bytes_n) < a1_size then (Int32.ofNat o_bytes_n) else a1_size)])), (o_bytes, .inl (o_bytes_c, o_bytes_n, .inl (va_cpy a1_bytes_v o_bytes_v ((0 : Int32)).toNatClampNeg ((0 : Int32)).toNatClampNeg ((if (Int32.ofNat o_bytes_n) < a1_size then (Int32.ofNat o_bytes_n) else a1_size)).toNatClampNeg))), (a1, .inr (6, [.ref a1_bytes, .int a1_size])), (a1_bytes, .inl (a1_bytes_c, a1_bytes_n, .inl a1_bytes_v))] := hD
  have hu := Option.some.inj h
  exact hret _ _ _ _ dX6_become_33 (by rw [← hu]; exact hP) (by rw [← hu]; exact hD) hS
theorem dX6_isLike_0 : decode cX6_isLike 0 = .ok (.aload_n 0, 1) := by decide +kernel
theorem dX6_isLike_1 : decode cX6_isLike 1 = .ok (.getfield 15, 3) := by decide +kernel
theorem dX6_isLike_4 : decode cX6_isLike 4 = .ok (.aload_n 1, 1) := by decide +kernel
theorem dX6_isLike_5 : decode cX6_isLike 5 = .ok (.getfield 15, 3) := by decide +kernel
theorem dX6_isLike_8 : decode cX6_isLike 8 = .ok (.if_icmp .eq 5, 3) := by decide +kernel
theorem dX6_isLike_11 : decode cX6_isLike 11 = .ok (.iconst 0, 1) := by decide +kernel
theorem dX6_isLike_12 : decode cX6_isLike 12 = .ok (.ireturn, 1) := by decide +kernel
theorem dX6_isLike_13 : decode cX6_isLike 13 = .ok (.iconst 0, 1) := by decide +kernel
theorem dX6_isLike_14 : decode cX6_isLike 14 = .ok (.istore_n 2, 1) := by decide +kernel
theorem dX6_isLike_15 : decode cX6_isLike 15 = .ok (.iload_n 2, 1) := by decide +kernel
theorem dX6_isLike_16 : decode cX6_isLike 16 = .ok (.aload_n 0, 1) := by decide +kernel
theorem dX6_isLike_17 : decode cX6_isLike 17 = .ok (.getfield 15, 3) := by decide +kernel
theorem dX6_isLike_20 : decode cX6_isLike 20 = .ok (.if_icmp .ge 26, 3) := by decide +kernel
theorem dX6_isLike_23 : decode cX6_isLike 23 = .ok (.aload_n 0, 1) := by decide +kernel
theorem dX6_isLike_24 : decode cX6_isLike 24 = .ok (.getfield 9, 3) := by decide +kernel
theorem dX6_isLike_27 : decode cX6_isLike 27 = .ok (.iload_n 2, 1) := by decide +kernel
theorem dX6_isLike_28 : decode cX6_isLike 28 = .ok (.baload, 1) := by decide +kernel
theorem dX6_isLike_29 : decode cX6_isLike 29 = .ok (.aload_n 1, 1) := by decide +kernel
theorem dX6_isLike_30 : decode cX6_isLike 30 = .ok (.getfield 9, 3) := by decide +kernel
theorem dX6_isLike_33 : decode cX6_isLike 33 = .ok (.iload_n 2, 1) := by decide +kernel
theorem dX6_isLike_34 : decode cX6_isLike 34 = .ok (.baload, 1) := by decide +kernel
theorem dX6_isLike_35 : decode cX6_isLike 35 = .ok (.if_icmp .eq 5, 3) := by decide +kernel
theorem dX6_isLike_38 : decode cX6_isLike 38 = .ok (.iconst 0, 1) := by decide +kernel
theorem dX6_isLike_39 : decode cX6_isLike 39 = .ok (.ireturn, 1) := by decide +kernel
theorem dX6_isLike_40 : decode cX6_isLike 40 = .ok (.iinc 2 1, 3) := by decide +kernel
theorem dX6_isLike_43 : decode cX6_isLike 43 = .ok (.goto (-28), 3) := by decide +kernel
theorem dX6_isLike_46 : decode cX6_isLike 46 = .ok (.iconst 1, 1) := by decide +kernel
theorem dX6_isLike_47 : decode cX6_isLike 47 = .ok (.ireturn, 1) := by decide +kernel
def pX6_isLike_b15 (o_bytes_n : Nat) (a1_bytes_n : Nat) (o_size : Int32) (o_bytes_v : Nat → Int32) (a1_bytes_v : Nat → Int32)  : Nat → Int32 → Option (Int32)
  | 0 => fun _ => none
  | n + 1 => fun x2 =>
  if o_size ≤ x2 then
  (some ((1 : Int32)))
  else
  (if x2 < 0 ∨ o_bytes_n ≤ (x2).toNatClampNeg then none else
  if x2 < 0 ∨ a1_bytes_n ≤ (x2).toNatClampNeg then none else
  if (o_bytes_v (x2).toNatClampNeg) = (a1_bytes_v (x2).toNatClampNeg) then
  ((pX6_isLike_b15 o_bytes_n a1_bytes_n o_size o_bytes_v a1_bytes_v n) (x2 + (1 : Int32)))
  else
  (some ((0 : Int32))))
def pX6_isLike (o_bytes_n : Nat) (a1_bytes_n : Nat) (o_size : Int32) (o_bytes_v : Nat → Int32) (a1_size : Int32) (a1_bytes_v : Nat → Int32)   : Option (Int32) :=
  if o_size = a1_size then
  (pX6_isLike_b15 o_bytes_n a1_bytes_n o_size o_bytes_v a1_bytes_v fb_F (0 : Int32))
  else
  (some ((0 : Int32)))
theorem hdX6_isLike : yX6_isLike.cls = RX6 ∧ yX6_isLike.cls ≠ "java/lang/invoke/MethodHandle" ∧ yX6_isLike.cls ≠ "java/lang/invoke/VarHandle" ∧ (parseMethodDescriptor yX6_isLike.desc).map (fun d => d.parameters.length) = some 1 := by decide +kernel
set_option maxHeartbeats 8000000 in
set_option maxRecDepth 100000 in
theorem mX6_isLike (l : Launch) (dC : Nat → ClassId) (dI : Nat → Nat → Nat) (o : Nat) (a1 : Nat) (o_bytes : Nat) (a1_bytes : Nat) (o_bytes_c : ClassId) (a1_bytes_c : ClassId) (o_bytes_n : Nat) (a1_bytes_n : Nat) (o_size : Int32) (o_bytes_v : Nat → Int32) (a1_size : Int32) (a1_bytes_v : Nat → Int32)  (sz : Nat) (u : Int32) (h : pX6_isLike o_bytes_n a1_bytes_n o_size o_bytes_v a1_size a1_bytes_v = some u) : Met l yX6_isLike (Cond.code yX6_isLike cX6_isLike 3 (some .boolean) :: fb_tb) ({ frames := 0, cells := 0, slots := 0, locals := 0 }) (fb_Pc (dC, dI) [.ref o, .ref a1] sz [(o_bytes_c, .byte), (a1_bytes_c, .byte)] [(o, .inr (6, [.ref o_bytes, .int o_size])), (o_bytes, .inl (o_bytes_c, o_bytes_n, .inl o_bytes_v)), (a1, .inr (6, [.ref a1_bytes, .int a1_size])), (a1_bytes, .inl (a1_bytes_c, a1_bytes_n, .inl a1_bytes_v))]) (fb_Qi (dC, dI) u [(o, .inr (6, [.ref o_bytes, .int o_size])), (o_bytes, .inl (o_bytes_c, o_bytes_n, .inl o_bytes_v)), (a1, .inr (6, [.ref a1_bytes, .int a1_size])), (a1_bytes, .inl (a1_bytes_c, a1_bytes_n, .inl a1_bytes_v))] (va_A [(o, .inr (6, [.ref o_bytes, .int o_size])), (o_bytes, .inl (o_bytes_c, o_bytes_n, .inl o_bytes_v)), (a1, .inr (6, [.ref a1_bytes, .int a1_size])), (a1_bytes, .inl (a1_bytes_c, a1_bytes_n, .inl a1_bytes_v))] sz)) 0 0 (va_A [(o, .inr (6, [.ref o_bytes, .int o_size])), (o_bytes, .inl (o_bytes_c, o_bytes_n, .inl o_bytes_v)), (a1, .inr (6, [.ref a1_bytes, .int a1_size])), (a1_bytes, .inl (a1_bytes_c, a1_bytes_n, .inl a1_bytes_v))] sz) := by
  refine fb_meti (ty := .boolean) (by decide) (Nat.le_of_ble_eq_true rfl) (fun p e s m args below meth c A Q ls H hx hb hml hown hts hP hK hN hZ hD hA hS hret hl => ?_)
  replace hl : lv_has ls 3 [(0, .ref o), (1, .ref a1)] := hl
  have wB15 : ∀ n : Nat, ∀ (x2 : Int32) (H : Heap) (locs : List Loc) (ls : Array Slot), va_P (dC, dI) fb_cl [(o, .inr (6, [.ref o_bytes, .int o_size])), (o_bytes, .inl (o_bytes_c, o_bytes_n, .inl o_bytes_v)), (a1, .inr (6, [.ref a1_bytes, .int a1_size])), (a1_bytes, .inl (a1_bytes_c, a1_bytes_n, .inl a1_bytes_v))] H → va_D A [(o, .inr (6, [.ref o_bytes, .int o_size])), (o_bytes, .inl (o_bytes_c, o_bytes_n, .inl o_bytes_v)), (a1, .inr (6, [.ref a1_bytes, .int a1_size])), (a1_bytes, .inl (a1_bytes_c, a1_bytes_n, .inl a1_bytes_v))] → va_S A s.heap H locs → lv_has ls 3 [(0, .ref o), (1, .ref a1), (2, .int x2)] → pX6_isLike_b15 o_bytes_n a1_bytes_n o_size o_bytes_v a1_bytes_v n x2 = some u → W p l e ({ frames := 0, cells := 0, slots := 0, locals := 0 }) s m args below meth c H locs 0 0 Q (F0 m 15 ls []) := by
    intro n
    induction n with
    | zero => intro x2 H locs ls hP hD hS hl h; cases h
    | succ n ih =>
      intro x2 H locs ls hP hD hS hl h
      rw [pX6_isLike_b15] at h
      refine lv_iload_n hx hb dX6_isLike_15 rfl (lv_at hl 2 rfl) ?_
      refine lv_aload_n hx hb dX6_isLike_16 rfl (lv_at hl 0 rfl) ?_
      refine va_get (D := (dC, dI)) (ci := 6) (v := .int o_size) (C := RX6) (T := TX6) (N := 2) hx hb hts i_X6 hown hK hP 0 rfl rfl 1 (by decide) (hts _ k_106) (fun _ h9 => h9) rfl dX6_isLike_17 ?_
      refine lv_icmp_ge (tgt := 46) hx hb dX6_isLike_20 (by decide) (fun c1 => ?_) (fun c1 => ?_)
      · replace h := fb_t c1 h
        refine lv_iconst (v := (1 : Int32)) hx hb dX6_isLike_46 (by decide) ?_
        have hu := Option.some.inj h
        exact hret _ _ _ _ _ dX6_isLike_47 rfl (by rw [← hu]) hP hD hS
      · replace h := fb_f c1 h
        refine lv_aload_n hx hb dX6_isLike_23 rfl (lv_at hl 0 rfl) ?_
        refine va_get (D := (dC, dI)) (ci := 6) (v := .ref o_bytes) (C := RX6) (T := TX6) (N := 2) hx hb hts i_X6 hown hK hP 0 rfl rfl 0 (by decide) (hts _ k_102) (fun _ h9 => h9) rfl dX6_isLike_24 ?_
        refine lv_iload_n hx hb dX6_isLike_27 rfl (lv_at hl 2 rfl) ?_
        obtain ⟨g2, h⟩ := fb_g h
        refine va_bald hx hb hK hP 1 0 rfl rfl g2 dX6_isLike_28 ?_
        refine lv_aload_n hx hb dX6_isLike_29 rfl (lv_at hl 1 rfl) ?_
        refine va_get (D := (dC, dI)) (ci := 6) (v := .ref a1_bytes) (C := RX6) (T := TX6) (N := 2) hx hb hts i_X6 hown hK hP 2 rfl rfl 0 (by decide) (hts _ k_102) (fun _ h9 => h9) rfl dX6_isLike_30 ?_
        refine lv_iload_n hx hb dX6_isLike_33 rfl (lv_at hl 2 rfl) ?_
        obtain ⟨g3, h⟩ := fb_g h
        refine va_bald hx hb hK hP 3 1 rfl rfl g3 dX6_isLike_34 ?_
        refine lv_icmp_eq (tgt := 40) hx hb dX6_isLike_35 (by decide) (fun c4 => ?_) (fun c4 => ?_)
        · replace h := fb_t c4 h
          refine lv_iinc (v := (x2 + (1 : Int32))) (lv' := [(2, .int (x2 + (1 : Int32))), (0, .ref o), (1, .ref a1)]) hx hb dX6_isLike_40 hl (k := 2) rfl rfl (by decide) rfl (fun ls hl => ?_)
          refine lv_goto (tgt := 15) hx hb dX6_isLike_43 (by decide) ?_
          exact ih (x2 + (1 : Int32)) _ _ _ hP hD hS (lv_sub hl [1, 2, 0] rfl) h
        · replace h := fb_f c4 h
          refine lv_iconst (v := (0 : Int32)) hx hb dX6_isLike_38 (by decide) ?_
          have hu := Option.some.inj h
          exact hret _ _ _ _ _ dX6_isLike_39 rfl (by rw [← hu]) hP hD hS
  unfold pX6_isLike at h
  refine lv_aload_n hx hb dX6_isLike_0 rfl (lv_at hl 0 rfl) ?_
  refine va_get (D := (dC, dI)) (ci := 6) (v := .int o_size) (C := RX6) (T := TX6) (N := 2) hx hb hts i_X6 hown hK hP 0 rfl rfl 1 (by decide) (hts _ k_106) (fun _ h9 => h9) rfl dX6_isLike_1 ?_
  refine lv_aload_n hx hb dX6_isLike_4 rfl (lv_at hl 1 rfl) ?_
  refine va_get (D := (dC, dI)) (ci := 6) (v := .int a1_size) (C := RX6) (T := TX6) (N := 2) hx hb hts i_X6 hown hK hP 2 rfl rfl 1 (by decide) (hts _ k_106) (fun _ h9 => h9) rfl dX6_isLike_5 ?_
  refine lv_icmp_eq (tgt := 13) hx hb dX6_isLike_8 (by decide) (fun c5 => ?_) (fun c5 => ?_)
  · replace h := fb_t c5 h
    refine lv_iconst (v := (0 : Int32)) hx hb dX6_isLike_13 (by decide) ?_
    refine lv_istore_n (lv' := [(2, .int (0 : Int32)), (0, .ref o), (1, .ref a1)]) hx hb dX6_isLike_14 rfl hl (by decide) rfl (fun ls hl => ?_)
    exact wB15 fb_F (0 : Int32) _ _ _ hP hD hS (lv_sub hl [1, 2, 0] rfl) h
  · replace h := fb_f c5 h
    refine lv_iconst (v := (0 : Int32)) hx hb dX6_isLike_11 (by decide) ?_
    have hu := Option.some.inj h
    exact hret _ _ _ _ _ dX6_isLike_12 rfl (by rw [← hu]) hP hD hS
theorem dX9_bitsTaken_0 : decode cX9_bitsTaken 0 = .ok (.aload_n 0, 1) := by decide +kernel
theorem dX9_bitsTaken_1 : decode cX9_bitsTaken 1 = .ok (.getfield 35, 3) := by decide +kernel
theorem dX9_bitsTaken_4 : decode cX9_bitsTaken 4 = .ok (.getfield 43, 3) := by decide +kernel
theorem dX9_bitsTaken_7 : decode cX9_bitsTaken 7 = .ok (.ireturn, 1) := by decide +kernel
def pX9_bitsTaken (o_in_taken : Int32)   : Option (Int32) :=
  some (o_in_taken)
theorem hdX9_bitsTaken : yX9_bitsTaken.cls = RX9 ∧ yX9_bitsTaken.cls ≠ "java/lang/invoke/MethodHandle" ∧ yX9_bitsTaken.cls ≠ "java/lang/invoke/VarHandle" ∧ (parseMethodDescriptor yX9_bitsTaken.desc).map (fun d => d.parameters.length) = some 0 := by decide +kernel
set_option maxHeartbeats 8000000 in
set_option maxRecDepth 100000 in
theorem mX9_bitsTaken (l : Launch) (dC : Nat → ClassId) (dI : Nat → Nat → Nat) (o : Nat) (o_in : Nat) (o_unpacked : Nat) (o_symbols : Nat) (o_distances : Nat) (o_telling : Nat) (o_row : Nat) (o_in_row : Nat)   (o_in_all : Int32) (o_in_taken : Int32)  (sz : Nat) (u : Int32) (h : pX9_bitsTaken o_in_taken = some u) : Met l yX9_bitsTaken (Cond.code yX9_bitsTaken cX9_bitsTaken 1 (some .int) :: fb_tb) ({ frames := 0, cells := 0, slots := 0, locals := 0 }) (fb_Pc (dC, dI) [.ref o] sz [] [(o, .inr (9, [.ref o_in, .ref o_unpacked, .ref o_symbols, .ref o_distances, .ref o_telling, .ref o_row])), (o_in, .inr (0, [.int o_in_all, .int o_in_taken, .ref o_in_row]))]) (fb_Qi (dC, dI) u [(o, .inr (9, [.ref o_in, .ref o_unpacked, .ref o_symbols, .ref o_distances, .ref o_telling, .ref o_row])), (o_in, .inr (0, [.int o_in_all, .int o_in_taken, .ref o_in_row]))] (va_A [(o, .inr (9, [.ref o_in, .ref o_unpacked, .ref o_symbols, .ref o_distances, .ref o_telling, .ref o_row])), (o_in, .inr (0, [.int o_in_all, .int o_in_taken, .ref o_in_row]))] sz)) 0 0 (va_A [(o, .inr (9, [.ref o_in, .ref o_unpacked, .ref o_symbols, .ref o_distances, .ref o_telling, .ref o_row])), (o_in, .inr (0, [.int o_in_all, .int o_in_taken, .ref o_in_row]))] sz) := by
  refine fb_meti (ty := .int) (by decide) (Nat.le_of_ble_eq_true rfl) (fun p e s m args below meth c A Q ls H hx hb hml hown hts hP hK hN hZ hD hA hS hret hl => ?_)
  replace hl : lv_has ls 1 [(0, .ref o)] := hl
  unfold pX9_bitsTaken at h
  refine lv_aload_n hx hb dX9_bitsTaken_0 rfl (lv_at hl 0 rfl) ?_
  refine va_get (D := (dC, dI)) (ci := 9) (v := .ref o_in) (C := RX9) (T := TX9) (N := 6) hx hb hts i_X9 hown hK hP 0 rfl rfl 0 (by decide) (hts _ k_364) (fun _ h9 => h9) rfl dX9_bitsTaken_1 ?_
  refine va_get (D := (dC, dI)) (ci := 0) (v := .int o_in_taken) (C := RX0) (T := TX0) (N := 3) hx hb hts i_X0 hown hK hP 1 rfl rfl 1 (by decide) (hts _ k_354) (fun _ h9 => h9) rfl dX9_bitsTaken_4 ?_
  have hu := Option.some.inj h
  exact hret _ _ _ _ _ dX9_bitsTaken_7 rfl (by rw [← hu]) hP hD hS
theorem dX9_readTelling_0 : decode cX9_readTelling 0 = .ok (.aload_n 0, 1) := by decide +kernel
theorem dX9_readTelling_1 : decode cX9_readTelling 1 = .ok (.getfield 23, 3) := by decide +kernel
theorem dX9_readTelling_4 : decode cX9_readTelling 4 = .ok (.iconst 0, 1) := by decide +kernel
theorem dX9_readTelling_5 : decode cX9_readTelling 5 = .ok (.bipush 19, 2) := by decide +kernel
theorem dX9_readTelling_7 : decode cX9_readTelling 7 = .ok (.iconst 0, 1) := by decide +kernel
theorem dX9_readTelling_8 : decode cX9_readTelling 8 = .ok (.invokevirtual 83, 3) := by decide +kernel
theorem dX9_readTelling_11 : decode cX9_readTelling 11 = .ok (.iconst 0, 1) := by decide +kernel
theorem dX9_readTelling_12 : decode cX9_readTelling 12 = .ok (.istore_n 2, 1) := by decide +kernel
theorem dX9_readTelling_13 : decode cX9_readTelling 13 = .ok (.iload_n 2, 1) := by decide +kernel
theorem dX9_readTelling_14 : decode cX9_readTelling 14 = .ok (.iload_n 1, 1) := by decide +kernel
theorem dX9_readTelling_15 : decode cX9_readTelling 15 = .ok (.if_icmp .ge 44, 3) := by decide +kernel
theorem dX9_readTelling_18 : decode cX9_readTelling 18 = .ok (.iload_n 2, 1) := by decide +kernel
theorem dX9_readTelling_19 : decode cX9_readTelling 19 = .ok (.bipush 19, 2) := by decide +kernel
theorem dX9_readTelling_21 : decode cX9_readTelling 21 = .ok (.if_icmp .ge 38, 3) := by decide +kernel
theorem dX9_readTelling_24 : decode cX9_readTelling 24 = .ok (.aload_n 0, 1) := by decide +kernel
theorem dX9_readTelling_25 : decode cX9_readTelling 25 = .ok (.getfield 35, 3) := by decide +kernel
theorem dX9_readTelling_28 : decode cX9_readTelling 28 = .ok (.iconst 3, 1) := by decide +kernel
theorem dX9_readTelling_29 : decode cX9_readTelling 29 = .ok (.invokevirtual 53, 3) := by decide +kernel
theorem dX9_readTelling_32 : decode cX9_readTelling 32 = .ok (.istore_n 3, 1) := by decide +kernel
theorem dX9_readTelling_33 : decode cX9_readTelling 33 = .ok (.iload_n 3, 1) := by decide +kernel
theorem dX9_readTelling_34 : decode cX9_readTelling 34 = .ok (.ifCond .ge 5, 3) := by decide +kernel
theorem dX9_readTelling_37 : decode cX9_readTelling 37 = .ok (.iconst 1, 1) := by decide +kernel
theorem dX9_readTelling_38 : decode cX9_readTelling 38 = .ok (.ireturn, 1) := by decide +kernel
theorem dX9_readTelling_39 : decode cX9_readTelling 39 = .ok (.aload_n 0, 1) := by decide +kernel
theorem dX9_readTelling_40 : decode cX9_readTelling 40 = .ok (.getfield 23, 3) := by decide +kernel
theorem dX9_readTelling_43 : decode cX9_readTelling 43 = .ok (.getfield 104, 3) := by decide +kernel
theorem dX9_readTelling_46 : decode cX9_readTelling 46 = .ok (.getstatic 116, 3) := by decide +kernel
theorem dX9_readTelling_49 : decode cX9_readTelling 49 = .ok (.iload_n 2, 1) := by decide +kernel
theorem dX9_readTelling_50 : decode cX9_readTelling 50 = .ok (.iaload, 1) := by decide +kernel
theorem dX9_readTelling_51 : decode cX9_readTelling 51 = .ok (.iload_n 3, 1) := by decide +kernel
theorem dX9_readTelling_52 : decode cX9_readTelling 52 = .ok (.iastore, 1) := by decide +kernel
theorem dX9_readTelling_53 : decode cX9_readTelling 53 = .ok (.iinc 2 1, 3) := by decide +kernel
theorem dX9_readTelling_56 : decode cX9_readTelling 56 = .ok (.goto (-43), 3) := by decide +kernel
theorem dX9_readTelling_59 : decode cX9_readTelling 59 = .ok (.aload_n 0, 1) := by decide +kernel
theorem dX9_readTelling_60 : decode cX9_readTelling 60 = .ok (.getfield 23, 3) := by decide +kernel
theorem dX9_readTelling_63 : decode cX9_readTelling 63 = .ok (.invokevirtual 87, 3) := by decide +kernel
theorem dX9_readTelling_66 : decode cX9_readTelling 66 = .ok (.aload_n 0, 1) := by decide +kernel
theorem dX9_readTelling_67 : decode cX9_readTelling 67 = .ok (.getfield 23, 3) := by decide +kernel
theorem dX9_readTelling_70 : decode cX9_readTelling 70 = .ok (.invokevirtual 107, 3) := by decide +kernel
theorem dX9_readTelling_73 : decode cX9_readTelling 73 = .ok (.ifCond .eq 7, 3) := by decide +kernel
theorem dX9_readTelling_76 : decode cX9_readTelling 76 = .ok (.iconst 0, 1) := by decide +kernel
theorem dX9_readTelling_77 : decode cX9_readTelling 77 = .ok (.goto 4, 3) := by decide +kernel
theorem dX9_readTelling_80 : decode cX9_readTelling 80 = .ok (.iconst 4, 1) := by decide +kernel
theorem dX9_readTelling_81 : decode cX9_readTelling 81 = .ok (.ireturn, 1) := by decide +kernel
def pX9_readTelling_b59 (o_telling_lengths_n : Nat) (o_telling_ofLength_n : Nat) (o_telling_firstCode_n : Nat) (o_telling_firstPlace_n : Nat) (o_telling_given_n : Nat) (o_telling_codes_n : Nat) (o_telling_byCode_n : Nat)  (o_telling_lengths_v : Nat → Int32) (o_in_taken : Int32) (o_telling_ofLength_v : Nat → Int32) (o_telling_firstCode_v : Nat → Int32) (o_telling_firstPlace_v : Nat → Int32) (o_telling_given_v : Nat → Int32) (o_telling_codes_v : Nat → Int32) (o_telling_byCode_v : Nat → Int32) : Option (Int32 × Int32 × (Nat → Int32) × Int32 × (Nat → Int32) × (Nat → Int32) × (Nat → Int32) × (Nat → Int32) × (Nat → Int32) × (Nat → Int32)) :=
  (pX2_assign o_telling_ofLength_n o_telling_lengths_n o_telling_firstCode_n o_telling_firstPlace_n o_telling_given_n o_telling_codes_n o_telling_byCode_n o_telling_lengths_v o_telling_ofLength_v o_telling_firstCode_v o_telling_firstPlace_v o_telling_given_v o_telling_codes_v o_telling_byCode_v).bind (fun u1 =>
  (pX2_areComplete o_telling_ofLength_n u1.2.1).bind (fun u2 =>
  if u2 = 0 then
  (some ((4 : Int32), u1.1, o_telling_lengths_v, o_in_taken, u1.2.1, u1.2.2.1, u1.2.2.2.1, u1.2.2.2.2.1, u1.2.2.2.2.2.1, u1.2.2.2.2.2.2))
  else
  (some ((0 : Int32), u1.1, o_telling_lengths_v, o_in_taken, u1.2.1, u1.2.2.1, u1.2.2.2.1, u1.2.2.2.2.1, u1.2.2.2.2.2.1, u1.2.2.2.2.2.2))))
def pX9_readTelling_b13 (o_telling_lengths_n : Nat) (o_in_row_bytes_n : Nat) (o_telling_ofLength_n : Nat) (o_telling_firstCode_n : Nat) (o_telling_firstPlace_n : Nat) (o_telling_given_n : Nat) (o_telling_codes_n : Nat) (o_telling_byCode_n : Nat) (o_in_all : Int32) (o_in_row_bytes_v : Nat → Int32) (x1 : Int32)  : Nat → Int32 → (Nat → Int32) → Int32 → (Nat → Int32) → (Nat → Int32) → (Nat → Int32) → (Nat → Int32) → (Nat → Int32) → (Nat → Int32) → Int32 → Option (Int32 × Int32 × (Nat → Int32) × Int32 × (Nat → Int32) × (Nat → Int32) × (Nat → Int32) × (Nat → Int32) × (Nat → Int32) × (Nat → Int32))
  | 0 => fun _ _ _ _ _ _ _ _ _ _ => none
  | n + 1 => fun o_telling_longest o_telling_lengths_v o_in_taken o_telling_ofLength_v o_telling_firstCode_v o_telling_firstPlace_v o_telling_given_v o_telling_codes_v o_telling_byCode_v x2 =>
  if x1 ≤ x2 then
  (pX9_readTelling_b59 o_telling_lengths_n o_telling_ofLength_n o_telling_firstCode_n o_telling_firstPlace_n o_telling_given_n o_telling_codes_n o_telling_byCode_n o_telling_lengths_v o_in_taken o_telling_ofLength_v o_telling_firstCode_v o_telling_firstPlace_v o_telling_given_v o_telling_codes_v o_telling_byCode_v)
  else
  (if (19 : Int32) ≤ x2 then
  (pX9_readTelling_b59 o_telling_lengths_n o_telling_ofLength_n o_telling_firstCode_n o_telling_firstPlace_n o_telling_given_n o_telling_codes_n o_telling_byCode_n o_telling_lengths_v o_in_taken o_telling_ofLength_v o_telling_firstCode_v o_telling_firstPlace_v o_telling_given_v o_telling_codes_v o_telling_byCode_v)
  else
  ((pX0_number o_in_row_bytes_n o_in_all o_in_row_bytes_v (3 : Int32) o_in_taken).bind (fun u6 =>
  if 0 ≤ u6.1 then
  (if x2 < 0 ∨ 19 ≤ (x2).toNatClampNeg then none else
  if (fb_ord (x2).toNatClampNeg) < 0 ∨ o_telling_lengths_n ≤ ((fb_ord (x2).toNatClampNeg)).toNatClampNeg then none else
  (pX9_readTelling_b13 o_telling_lengths_n o_in_row_bytes_n o_telling_ofLength_n o_telling_firstCode_n o_telling_firstPlace_n o_telling_given_n o_telling_codes_n o_telling_byCode_n o_in_all o_in_row_bytes_v x1 n) o_telling_longest (upd o_telling_lengths_v ((fb_ord (x2).toNatClampNeg)).toNatClampNeg u6.1) u6.2 o_telling_ofLength_v o_telling_firstCode_v o_telling_firstPlace_v o_telling_given_v o_telling_codes_v o_telling_byCode_v (x2 + (1 : Int32)))
  else
  (some ((1 : Int32), o_telling_longest, o_telling_lengths_v, u6.2, o_telling_ofLength_v, o_telling_firstCode_v, o_telling_firstPlace_v, o_telling_given_v, o_telling_codes_v, o_telling_byCode_v)))))
def pX9_readTelling (o_telling_lengths_n : Nat) (o_in_row_bytes_n : Nat) (o_telling_ofLength_n : Nat) (o_telling_firstCode_n : Nat) (o_telling_firstPlace_n : Nat) (o_telling_given_n : Nat) (o_telling_codes_n : Nat) (o_telling_byCode_n : Nat) (o_in_all : Int32) (o_in_row_bytes_v : Nat → Int32) (x1 : Int32)  (o_telling_longest : Int32) (o_telling_lengths_v : Nat → Int32) (o_in_taken : Int32) (o_telling_ofLength_v : Nat → Int32) (o_telling_firstCode_v : Nat → Int32) (o_telling_firstPlace_v : Nat → Int32) (o_telling_given_v : Nat → Int32) (o_telling_codes_v : Nat → Int32) (o_telling_byCode_v : Nat → Int32) : Option (Int32 × Int32 × (Nat → Int32) × Int32 × (Nat → Int32) × (Nat → Int32) × (Nat → Int32) × (Nat → Int32) × (Nat → Int32) × (Nat → Int32)) :=
  (pX2_fill o_telling_lengths_n (0 : Int32) (19 : Int32) (0 : Int32) o_telling_lengths_v).bind (fun u10 =>
  pX9_readTelling_b13 o_telling_lengths_n o_in_row_bytes_n o_telling_ofLength_n o_telling_firstCode_n o_telling_firstPlace_n o_telling_given_n o_telling_codes_n o_telling_byCode_n o_in_all o_in_row_bytes_v x1 fb_F o_telling_longest u10 o_in_taken o_telling_ofLength_v o_telling_firstCode_v o_telling_firstPlace_v o_telling_given_v o_telling_codes_v o_telling_byCode_v (0 : Int32))
theorem hdX9_readTelling : yX9_readTelling.cls = RX9 ∧ yX9_readTelling.cls ≠ "java/lang/invoke/MethodHandle" ∧ yX9_readTelling.cls ≠ "java/lang/invoke/VarHandle" ∧ (parseMethodDescriptor yX9_readTelling.desc).map (fun d => d.parameters.length) = some 1 := by decide +kernel
set_option maxHeartbeats 8000000 in
set_option maxRecDepth 100000 in
theorem mX9_readTelling (l : Launch) (dC : Nat → ClassId) (dI : Nat → Nat → Nat) (o : Nat) (o_telling : Nat) (o_telling_lengths : Nat) (o_in : Nat) (o_in_row : Nat) (o_in_row_bytes : Nat) (o_telling_ofLength : Nat) (o_telling_firstCode : Nat) (o_telling_firstPlace : Nat) (o_telling_given : Nat) (o_telling_codes : Nat) (o_telling_byCode : Nat) (o_unpacked : Nat) (o_symbols : Nat) (o_distances : Nat) (o_row : Nat) (o_telling_lengths_c : ClassId) (o_in_row_bytes_c : ClassId) (o_telling_ofLength_c : ClassId) (o_telling_firstCode_c : ClassId) (o_telling_firstPlace_c : ClassId) (o_telling_given_c : ClassId) (o_telling_codes_c : ClassId) (o_telling_byCode_c : ClassId) (o_telling_lengths_n : Nat) (o_in_row_bytes_n : Nat) (o_telling_ofLength_n : Nat) (o_telling_firstCode_n : Nat) (o_telling_firstPlace_n : Nat) (o_telling_given_n : Nat) (o_telling_codes_n : Nat) (o_telling_byCode_n : Nat) (o_telling_longest : Int32) (o_telling_lengths_v : Nat → Int32) (o_in_all : Int32) (o_in_taken : Int32) (o_in_row_size : Int32) (o_in_row_bytes_v : Nat → Int32) (o_telling_ofLength_v : Nat → Int32) (o_telling_firstCode_v : Nat → Int32) (o_telling_firstPlace_v : Nat → Int32) (o_telling_given_v : Nat → Int32) (o_telling_codes_v : Nat → Int32) (o_telling_byCode_v : Nat → Int32) (x1 : Int32) (sz : Nat) (u : Int32 × Int32 × (Nat → Int32) × Int32 × (Nat → Int32) × (Nat → Int32) × (Nat → Int32) × (Nat → Int32) × (Nat → Int32) × (Nat → Int32)) (h : pX9_readTelling o_telling_lengths_n o_in_row_bytes_n o_telling_ofLength_n o_telling_firstCode_n o_telling_firstPlace_n o_telling_given_n o_telling_codes_n o_telling_byCode_n o_in_all o_in_row_bytes_v x1 o_telling_longest o_telling_lengths_v o_in_taken o_telling_ofLength_v o_telling_firstCode_v o_telling_firstPlace_v o_telling_given_v o_telling_codes_v o_telling_byCode_v = some u) : Met l yX9_readTelling (Cond.code yX9_readTelling cX9_readTelling 4 (some .int) :: fb_tb) ({ frames := 3, cells := 0, slots := 0, locals := 69 }) (fb_Pc (dC, dI) [.ref o, .int x1] sz [(o_telling_lengths_c, .int), (o_in_row_bytes_c, .byte), (o_telling_ofLength_c, .int), (o_telling_firstCode_c, .int), (o_telling_firstPlace_c, .int), (o_telling_given_c, .int), (o_telling_codes_c, .int), (o_telling_byCode_c, .int)] [(o, .inr (9, [.ref o_in, .ref o_unpacked, .ref o_symbols, .ref o_distances, .ref o_telling, .ref o_row])), (o_telling, .inr (2, [.ref o_telling_lengths, .ref o_telling_codes, .ref o_telling_byCode, .ref o_telling_ofLength, .ref o_telling_firstCode, .ref o_telling_firstPlace, .ref o_telling_given, .int o_telling_longest])), (o_telling_lengths, .inl (o_telling_lengths_c, o_telling_lengths_n, .inl o_telling_lengths_v)), (o_in, .inr (0, [.int o_in_all, .int o_in_taken, .ref o_in_row])), (o_in_row, .inr (6, [.ref o_in_row_bytes, .int o_in_row_size])), (o_in_row_bytes, .inl (o_in_row_bytes_c, o_in_row_bytes_n, .inl o_in_row_bytes_v)), (o_telling_ofLength, .inl (o_telling_ofLength_c, o_telling_ofLength_n, .inl o_telling_ofLength_v)), (o_telling_firstCode, .inl (o_telling_firstCode_c, o_telling_firstCode_n, .inl o_telling_firstCode_v)), (o_telling_firstPlace, .inl (o_telling_firstPlace_c, o_telling_firstPlace_n, .inl o_telling_firstPlace_v)), (o_telling_given, .inl (o_telling_given_c, o_telling_given_n, .inl o_telling_given_v)), (o_telling_codes, .inl (o_telling_codes_c, o_telling_codes_n, .inl o_telling_codes_v)), (o_telling_byCode, .inl (o_telling_byCode_c, o_telling_byCode_n, .inl o_telling_byCode_v))]) (fb_Qi (dC, dI) u.1 [(o, .inr (9, [.ref o_in, .ref o_unpacked, .ref o_symbols, .ref o_distances, .ref o_telling, .ref o_row])), (o_telling, .inr (2, [.ref o_telling_lengths, .ref o_telling_codes, .ref o_telling_byCode, .ref o_telling_ofLength, .ref o_telling_firstCode, .ref o_telling_firstPlace, .ref o_telling_given, .int u.2.1])), (o_telling_lengths, .inl (o_telling_lengths_c, o_telling_lengths_n, .inl u.2.2.1)), (o_in, .inr (0, [.int o_in_all, .int u.2.2.2.1, .ref o_in_row])), (o_in_row, .inr (6, [.ref o_in_row_bytes, .int o_in_row_size])), (o_in_row_bytes, .inl (o_in_row_bytes_c, o_in_row_bytes_n, .inl o_in_row_bytes_v)), (o_telling_ofLength, .inl (o_telling_ofLength_c, o_telling_ofLength_n, .inl u.2.2.2.2.1)), (o_telling_firstCode, .inl (o_telling_firstCode_c, o_telling_firstCode_n, .inl u.2.2.2.2.2.1)), (o_telling_firstPlace, .inl (o_telling_firstPlace_c, o_telling_firstPlace_n, .inl u.2.2.2.2.2.2.1)), (o_telling_given, .inl (o_telling_given_c, o_telling_given_n, .inl u.2.2.2.2.2.2.2.1)), (o_telling_codes, .inl (o_telling_codes_c, o_telling_codes_n, .inl u.2.2.2.2.2.2.2.2.1)), (o_telling_byCode, .inl (o_telling_byCode_c, o_telling_byCode_n, .inl u.2.2.2.2.2.2.2.2.2))] (va_A [(o, .inr (9, [.ref o_in, .ref o_unpacked, .ref o_symbols, .ref o_distances, .ref o_telling, .ref o_row])), (o_telling, .inr (2, [.ref o_telling_lengths, .ref o_telling_codes, .ref o_telling_byCode, .ref o_telling_ofLength, .ref o_telling_firstCode, .ref o_telling_firstPlace, .ref o_telling_given, .int o_telling_longest])), (o_telling_lengths, .inl (o_telling_lengths_c, o_telling_lengths_n, .inl o_telling_lengths_v)), (o_in, .inr (0, [.int o_in_all, .int o_in_taken, .ref o_in_row])), (o_in_row, .inr (6, [.ref o_in_row_bytes, .int o_in_row_size])), (o_in_row_bytes, .inl (o_in_row_bytes_c, o_in_row_bytes_n, .inl o_in_row_bytes_v)), (o_telling_ofLength, .inl (o_telling_ofLength_c, o_telling_ofLength_n, .inl o_telling_ofLength_v)), (o_telling_firstCode, .inl (o_telling_firstCode_c, o_telling_firstCode_n, .inl o_telling_firstCode_v)), (o_telling_firstPlace, .inl (o_telling_firstPlace_c, o_telling_firstPlace_n, .inl o_telling_firstPlace_v)), (o_telling_given, .inl (o_telling_given_c, o_telling_given_n, .inl o_telling_given_v)), (o_telling_codes, .inl (o_telling_codes_c, o_telling_codes_n, .inl o_telling_codes_v)), (o_telling_byCode, .inl (o_telling_byCode_c, o_telling_byCode_n, .inl o_telling_byCode_v))] sz)) 0 0 (va_A [(o, .inr (9, [.ref o_in, .ref o_unpacked, .ref o_symbols, .ref o_distances, .ref o_telling, .ref o_row])), (o_telling, .inr (2, [.ref o_telling_lengths, .ref o_telling_codes, .ref o_telling_byCode, .ref o_telling_ofLength, .ref o_telling_firstCode, .ref o_telling_firstPlace, .ref o_telling_given, .int o_telling_longest])), (o_telling_lengths, .inl (o_telling_lengths_c, o_telling_lengths_n, .inl o_telling_lengths_v)), (o_in, .inr (0, [.int o_in_all, .int o_in_taken, .ref o_in_row])), (o_in_row, .inr (6, [.ref o_in_row_bytes, .int o_in_row_size])), (o_in_row_bytes, .inl (o_in_row_bytes_c, o_in_row_bytes_n, .inl o_in_row_bytes_v)), (o_telling_ofLength, .inl (o_telling_ofLength_c, o_telling_ofLength_n, .inl o_telling_ofLength_v)), (o_telling_firstCode, .inl (o_telling_firstCode_c, o_telling_firstCode_n, .inl o_telling_firstCode_v)), (o_telling_firstPlace, .inl (o_telling_firstPlace_c, o_telling_firstPlace_n, .inl o_telling_firstPlace_v)), (o_telling_given, .inl (o_telling_given_c, o_telling_given_n, .inl o_telling_given_v)), (o_telling_codes, .inl (o_telling_codes_c, o_telling_codes_n, .inl o_telling_codes_v)), (o_telling_byCode, .inl (o_telling_byCode_c, o_telling_byCode_n, .inl o_telling_byCode_v))] sz) := by
  refine fb_meti (ty := .int) (by decide) (Nat.le_of_ble_eq_true rfl) (fun p e s m args below meth c A Q ls H hx hb hml hown hts hP hK hN hZ hD hA hS hret hl => ?_)
  obtain ⟨zt, hZ1, hZ2⟩ := id hZ
  replace hl : lv_has ls 4 [(0, .ref o), (1, .int x1)] := hl
  have wB59 : ∀ (o_telling_longest : Int32) (o_telling_lengths_v : Nat → Int32) (o_in_taken : Int32) (o_telling_ofLength_v : Nat → Int32) (o_telling_firstCode_v : Nat → Int32) (o_telling_firstPlace_v : Nat → Int32) (o_telling_given_v : Nat → Int32) (o_telling_codes_v : Nat → Int32) (o_telling_byCode_v : Nat → Int32) (H : Heap) (locs : List Loc) (ls : Array Slot), va_P (dC, dI) fb_cl [(o, .inr (9, [.ref o_in, .ref o_unpacked, .ref o_symbols, .ref o_distances, .ref o_telling, .ref o_row])), (o_telling, .inr (2, [.ref o_telling_lengths, .ref o_telling_codes, .ref o_telling_byCode, .ref o_telling_ofLength, .ref o_telling_firstCode, .ref o_telling_firstPlace, .ref o_telling_given, .int o_telling_longest])), (o_telling_lengths, .inl (o_telling_lengths_c, o_telling_lengths_n, .inl o_telling_lengths_v)), (o_in, .inr (0, [.int o_in_all, .int o_in_taken, .ref o_in_row])), (o_in_row, .inr (6, [.ref o_in_row_bytes, .int o_in_row_size])), (o_in_row_bytes, .inl (o_in_row_bytes_c, o_in_row_bytes_n, .inl o_in_row_bytes_v)), (o_telling_ofLength, .inl (o_telling_ofLength_c, o_telling_ofLength_n, .inl o_telling_ofLength_v)), (o_telling_firstCode, .inl (o_telling_firstCode_c, o_telling_firstCode_n, .inl o_telling_firstCode_v)), (o_telling_firstPlace, .inl (o_telling_firstPlace_c, o_telling_firstPlace_n, .inl o_telling_firstPlace_v)), (o_telling_given, .inl (o_telling_given_c, o_telling_given_n, .inl o_telling_given_v)), (o_telling_codes, .inl (o_telling_codes_c, o_telling_codes_n, .inl o_telling_codes_v)), (o_telling_byCode, .inl (o_telling_byCode_c, o_telling_byCode_n, .inl o_telling_byCode_v))] H → va_D A [(o, .inr (9, [.ref o_in, .ref o_unpacked, .ref o_symbols, .ref o_distances, .ref o_telling, .ref o_row])), (o_telling, .inr (2, [.ref o_telling_lengths, .ref o_telling_codes, .ref o_telling_byCode, .ref o_telling_ofLength, .ref o_telling_firstCode, .ref o_telling_firstPlace, .ref o_telling_given, .int o_telling_longest])), (o_telling_lengths, .inl (o_telling_lengths_c, o_telling_lengths_n, .inl o_telling_lengths_v)), (o_in, .inr (0, [.int o_in_all, .int o_in_taken, .ref o_in_row])), (o_in_row, .inr (6, [.ref o_in_row_bytes, .int o_in_row_size])), (o_in_row_bytes, .inl (o_in_row_bytes_c, o_in_row_bytes_n, .inl o_in_row_bytes_v)), (o_telling_ofLength, .inl (o_telling_ofLength_c, o_telling_ofLength_n, .inl o_telling_ofLength_v)), (o_telling_firstCode, .inl (o_telling_firstCode_c, o_telling_firstCode_n, .inl o_telling_firstCode_v)), (o_telling_firstPlace, .inl (o_telling_firstPlace_c, o_telling_firstPlace_n, .inl o_telling_firstPlace_v)), (o_telling_given, .inl (o_telling_given_c, o_telling_given_n, .inl o_telling_given_v)), (o_telling_codes, .inl (o_telling_codes_c, o_telling_codes_n, .inl o_telling_codes_v)), (o_telling_byCode, .inl (o_telling_byCode_c, o_telling_byCode_n, .inl o_telling_byCode_v))] → va_S A s.heap H locs → lv_has ls 4 [(0, .ref o)] → pX9_readTelling_b59 o_telling_lengths_n o_telling_ofLength_n o_telling_firstCode_n o_telling_firstPlace_n o_telling_given_n o_telling_codes_n o_telling_byCode_n o_telling_lengths_v o_in_taken o_telling_ofLength_v o_telling_firstCode_v o_telling_firstPlace_v o_telling_given_v o_telling_codes_v o_telling_byCode_v = some u → W p l e ({ frames := 3, cells := 0, slots := 0, locals := 69 }) s m args below meth c H locs 0 0 Q (F0 m 59 ls []) := by
    intro  o_telling_longest o_telling_lengths_v o_in_taken o_telling_ofLength_v o_telling_firstCode_v o_telling_firstPlace_v o_telling_given_v o_telling_codes_v o_telling_byCode_v H locs ls hP hD hS hl h
    unfold pX9_readTelling_b59 at h
    refine lv_aload_n hx hb dX9_readTelling_59 rfl (lv_at hl 0 rfl) ?_
    refine va_get (D := (dC, dI)) (ci := 9) (v := .ref o_telling) (C := RX9) (T := TX9) (N := 6) hx hb hts i_X9 hown hK hP 0 rfl rfl 4 (by decide) (hts _ k_368) (fun _ h9 => h9) rfl dX9_readTelling_60 ?_
    obtain ⟨u1, e1, h⟩ := fb_b h
    refine fb_cv (wc := [(o_telling, .inr (2, [.ref o_telling_lengths, .ref o_telling_codes, .ref o_telling_byCode, .ref o_telling_ofLength, .ref o_telling_firstCode, .ref o_telling_firstPlace, .ref o_telling_given, .int o_telling_longest])), (o_telling_ofLength, .inl (o_telling_ofLength_c, o_telling_ofLength_n, .inl o_telling_ofLength_v)), (o_telling_lengths, .inl (o_telling_lengths_c, o_telling_lengths_n, .inl o_telling_lengths_v)), (o_telling_firstCode, .inl (o_telling_firstCode_c, o_telling_firstCode_n, .inl o_telling_firstCode_v)), (o_telling_firstPlace, .inl (o_telling_firstPlace_c, o_telling_firstPlace_n, .inl o_telling_firstPlace_v)), (o_telling_given, .inl (o_telling_given_c, o_telling_given_n, .inl o_telling_given_v)), (o_telling_codes, .inl (o_telling_codes_c, o_telling_codes_n, .inl o_telling_codes_v)), (o_telling_byCode, .inl (o_telling_byCode_c, o_telling_byCode_n, .inl o_telling_byCode_v))]) (wr := [(o, .inr (9, [.ref o_in, .ref o_unpacked, .ref o_symbols, .ref o_distances, .ref o_telling, .ref o_row])), (o_in, .inr (0, [.int o_in_all, .int o_in_taken, .ref o_in_row])), (o_in_row, .inr (6, [.ref o_in_row_bytes, .int o_in_row_size])), (o_in_row_bytes, .inl (o_in_row_bytes_c, o_in_row_bytes_n, .inl o_in_row_bytes_v))]) (w1 := [(o_telling, .inr (2, [.ref o_telling_lengths, .ref o_telling_codes, .ref o_telling_byCode, .ref o_telling_ofLength, .ref o_telling_firstCode, .ref o_telling_firstPlace, .ref o_telling_given, .int u1.1])), (o_telling_ofLength, .inl (o_telling_ofLength_c, o_telling_ofLength_n, .inl u1.2.1)), (o_telling_lengths, .inl (o_telling_lengths_c, o_telling_lengths_n, .inl o_telling_lengths_v)), (o_telling_firstCode, .inl (o_telling_firstCode_c, o_telling_firstCode_n, .inl u1.2.2.1)), (o_telling_firstPlace, .inl (o_telling_firstPlace_c, o_telling_firstPlace_n, .inl u1.2.2.2.1)), (o_telling_given, .inl (o_telling_given_c, o_telling_given_n, .inl u1.2.2.2.2.1)), (o_telling_codes, .inl (o_telling_codes_c, o_telling_codes_n, .inl u1.2.2.2.2.2.1)), (o_telling_byCode, .inl (o_telling_byCode_c, o_telling_byCode_n, .inl u1.2.2.2.2.2.2))]) (ws' := [(o, .inr (9, [.ref o_in, .ref o_unpacked, .ref o_symbols, .ref o_distances, .ref o_telling, .ref o_row])), (o_telling, .inr (2, [.ref o_telling_lengths, .ref o_telling_codes, .ref o_telling_byCode, .ref o_telling_ofLength, .ref o_telling_firstCode, .ref o_telling_firstPlace, .ref o_telling_given, .int u1.1])), (o_telling_lengths, .inl (o_telling_lengths_c, o_telling_lengths_n, .inl o_telling_lengths_v)), (o_in, .inr (0, [.int o_in_all, .int o_in_taken, .ref o_in_row])), (o_in_row, .inr (6, [.ref o_in_row_bytes, .int o_in_row_size])), (o_in_row_bytes, .inl (o_in_row_bytes_c, o_in_row_bytes_n, .inl o_in_row_bytes_v)), (o_telling_ofLength, .inl (o_telling_ofLength_c, o_telling_ofLength_n, .inl u1.2.1)), (o_telling_firstCode, .inl (o_telling_firstCode_c, o_telling_firstCode_n, .inl u1.2.2.1)), (o_telling_firstPlace, .inl (o_telling_firstPlace_c, o_telling_firstPlace_n, .inl u1.2.2.2.1)), (o_telling_given, .inl (o_telling_given_c, o_telling_given_n, .inl u1.2.2.2.2.1)), (o_telling_codes, .inl (o_telling_codes_c, o_telling_codes_n, .inl u1.2.2.2.2.2.1)), (o_telling_byCode, .inl (o_telling_byCode_c, o_telling_byCode_n, .inl u1.2.2.2.2.2.2))]) (va_runV (As := []) (rest := []) ⟨hx, hb, hml, hown, hts⟩ (mX2_assign l dC dI o_telling o_telling_ofLength o_telling_lengths o_telling_firstCode o_telling_firstPlace o_telling_given o_telling_codes o_telling_byCode o_telling_ofLength_c o_telling_lengths_c o_telling_firstCode_c o_telling_firstPlace_c o_telling_given_c o_telling_codes_c o_telling_byCode_c o_telling_ofLength_n o_telling_lengths_n o_telling_firstCode_n o_telling_firstPlace_n o_telling_given_n o_telling_codes_n o_telling_byCode_n o_telling_longest o_telling_ofLength_v o_telling_lengths_v o_telling_firstCode_v o_telling_firstPlace_v o_telling_given_v o_telling_codes_v o_telling_byCode_v H.size u1 e1) (cwV 0 hts (fb_GV k_720 k_517 k_518 k_67 k_519) rfl rfl rfl hdX2_assign ⟨Nat.le_of_ble_eq_true rfl, Nat.le_of_ble_eq_true rfl⟩) (fb_pV hP hD hS hA hK hN hZ [1, 6, 2, 7, 8, 9, 10, 11] rfl rfl [2, 0, 3, 4, 5, 6, 7] rfl (q0 := 1) (ci := 2) rfl rfl) rfl rfl hl.1 rfl (lv_room (Nat.le_of_ble_eq_true rfl)) dX9_readTelling_63 ⟨Nat.le_of_ble_eq_true rfl, Nat.le_of_ble_eq_true rfl⟩) hP hD hS hA [1, 6, 2, 7, 8, 9, 10, 11] [0, 3, 4, 5] rfl rfl rfl (by decide) [0, 4, 6, 1, 2, 3, 5, 7, 8, 9, 10, 11] rfl rfl (fun H locs hP hD hS => ?_)
    refine lv_aload_n hx hb dX9_readTelling_66 rfl (lv_at hl 0 rfl) ?_
    refine va_get (D := (dC, dI)) (ci := 9) (v := .ref o_telling) (C := RX9) (T := TX9) (N := 6) hx hb hts i_X9 hown hK hP 0 rfl rfl 4 (by decide) (hts _ k_368) (fun _ h9 => h9) rfl dX9_readTelling_67 ?_
    obtain ⟨u2, e2, h⟩ := fb_b h
    refine fb_ci (wc := [(o_telling, .inr (2, [.ref o_telling_lengths, .ref o_telling_codes, .ref o_telling_byCode, .ref o_telling_ofLength, .ref o_telling_firstCode, .ref o_telling_firstPlace, .ref o_telling_given, .int u1.1])), (o_telling_ofLength, .inl (o_telling_ofLength_c, o_telling_ofLength_n, .inl u1.2.1))]) (wr := [(o, .inr (9, [.ref o_in, .ref o_unpacked, .ref o_symbols, .ref o_distances, .ref o_telling, .ref o_row])), (o_telling_lengths, .inl (o_telling_lengths_c, o_telling_lengths_n, .inl o_telling_lengths_v)), (o_in, .inr (0, [.int o_in_all, .int o_in_taken, .ref o_in_row])), (o_in_row, .inr (6, [.ref o_in_row_bytes, .int o_in_row_size])), (o_in_row_bytes, .inl (o_in_row_bytes_c, o_in_row_bytes_n, .inl o_in_row_bytes_v)), (o_telling_firstCode, .inl (o_telling_firstCode_c, o_telling_firstCode_n, .inl u1.2.2.1)), (o_telling_firstPlace, .inl (o_telling_firstPlace_c, o_telling_firstPlace_n, .inl u1.2.2.2.1)), (o_telling_given, .inl (o_telling_given_c, o_telling_given_n, .inl u1.2.2.2.2.1)), (o_telling_codes, .inl (o_telling_codes_c, o_telling_codes_n, .inl u1.2.2.2.2.2.1)), (o_telling_byCode, .inl (o_telling_byCode_c, o_telling_byCode_n, .inl u1.2.2.2.2.2.2))]) (w1 := [(o_telling, .inr (2, [.ref o_telling_lengths, .ref o_telling_codes, .ref o_telling_byCode, .ref o_telling_ofLength, .ref o_telling_firstCode, .ref o_telling_firstPlace, .ref o_telling_given, .int u1.1])), (o_telling_ofLength, .inl (o_telling_ofLength_c, o_telling_ofLength_n, .inl u1.2.1))]) (ws' := [(o, .inr (9, [.ref o_in, .ref o_unpacked, .ref o_symbols, .ref o_distances, .ref o_telling, .ref o_row])), (o_telling, .inr (2, [.ref o_telling_lengths, .ref o_telling_codes, .ref o_telling_byCode, .ref o_telling_ofLength, .ref o_telling_firstCode, .ref o_telling_firstPlace, .ref o_telling_given, .int u1.1])), (o_telling_lengths, .inl (o_telling_lengths_c, o_telling_lengths_n, .inl o_telling_lengths_v)), (o_in, .inr (0, [.int o_in_all, .int o_in_taken, .ref o_in_row])), (o_in_row, .inr (6, [.ref o_in_row_bytes, .int o_in_row_size])), (o_in_row_bytes, .inl (o_in_row_bytes_c, o_in_row_bytes_n, .inl o_in_row_bytes_v)), (o_telling_ofLength, .inl (o_telling_ofLength_c, o_telling_ofLength_n, .inl u1.2.1)), (o_telling_firstCode, .inl (o_telling_firstCode_c, o_telling_firstCode_n, .inl u1.2.2.1)), (o_telling_firstPlace, .inl (o_telling_firstPlace_c, o_telling_firstPlace_n, .inl u1.2.2.2.1)), (o_telling_given, .inl (o_telling_given_c, o_telling_given_n, .inl u1.2.2.2.2.1)), (o_telling_codes, .inl (o_telling_codes_c, o_telling_codes_n, .inl u1.2.2.2.2.2.1)), (o_telling_byCode, .inl (o_telling_byCode_c, o_telling_byCode_n, .inl u1.2.2.2.2.2.2))]) (va_runV (As := []) (rest := []) ⟨hx, hb, hml, hown, hts⟩ (mX2_areComplete l dC dI o_telling o_telling_ofLength o_telling_lengths o_telling_codes o_telling_byCode o_telling_firstCode o_telling_firstPlace o_telling_given o_telling_ofLength_c o_telling_ofLength_n u1.1 u1.2.1 H.size u2 e2) (cwV 0 hts (fb_GV k_752 k_753 k_754 k_67 k_755) rfl rfl rfl hdX2_areComplete ⟨Nat.le_of_ble_eq_true rfl, Nat.le_of_ble_eq_true rfl⟩) (fb_pV hP hD hS hA hK hN hZ [1, 6] rfl rfl [2] rfl (q0 := 1) (ci := 2) rfl rfl) rfl rfl hl.1 rfl (lv_room (Nat.le_of_ble_eq_true rfl)) dX9_readTelling_70 ⟨Nat.le_of_ble_eq_true rfl, Nat.le_of_ble_eq_true rfl⟩) hP hD hS hA [1, 6] [0, 2, 3, 4, 5, 7, 8, 9, 10, 11] rfl rfl rfl (by decide) [0, 10, 1, 2, 3, 4, 11, 5, 6, 7, 8, 9] rfl rfl (fun H locs hP hD hS => ?_)
    refine lv_if_eq (tgt := 80) hx hb dX9_readTelling_73 (by decide) (fun c3 => ?_) (fun c3 => ?_)
    · replace h := fb_t c3 h
      refine lv_iconst (v := (4 : Int32)) hx hb dX9_readTelling_80 (by decide) ?_
      have hu := Option.some.inj h
      exact hret _ _ _ _ _ dX9_readTelling_81 rfl (by rw [← hu]) (by rw [← hu]; exact hP) (by rw [← hu]; exact hD) hS
    · replace h := fb_f c3 h
      refine lv_iconst (v := (0 : Int32)) hx hb dX9_readTelling_76 (by decide) ?_
      refine lv_goto (tgt := 81) hx hb dX9_readTelling_77 (by decide) ?_
      have hu := Option.some.inj h
      exact hret _ _ _ _ _ dX9_readTelling_81 rfl (by rw [← hu]) (by rw [← hu]; exact hP) (by rw [← hu]; exact hD) hS
  have wB13 : ∀ n : Nat, ∀ (o_telling_longest : Int32) (o_telling_lengths_v : Nat → Int32) (o_in_taken : Int32) (o_telling_ofLength_v : Nat → Int32) (o_telling_firstCode_v : Nat → Int32) (o_telling_firstPlace_v : Nat → Int32) (o_telling_given_v : Nat → Int32) (o_telling_codes_v : Nat → Int32) (o_telling_byCode_v : Nat → Int32) (x2 : Int32) (H : Heap) (locs : List Loc) (ls : Array Slot), va_P (dC, dI) fb_cl [(o, .inr (9, [.ref o_in, .ref o_unpacked, .ref o_symbols, .ref o_distances, .ref o_telling, .ref o_row])), (o_telling, .inr (2, [.ref o_telling_lengths, .ref o_telling_codes, .ref o_telling_byCode, .ref o_telling_ofLength, .ref o_telling_firstCode, .ref o_telling_firstPlace, .ref o_telling_given, .int o_telling_longest])), (o_telling_lengths, .inl (o_telling_lengths_c, o_telling_lengths_n, .inl o_telling_lengths_v)), (o_in, .inr (0, [.int o_in_all, .int o_in_taken, .ref o_in_row])), (o_in_row, .inr (6, [.ref o_in_row_bytes, .int o_in_row_size])), (o_in_row_bytes, .inl (o_in_row_bytes_c, o_in_row_bytes_n, .inl o_in_row_bytes_v)), (o_telling_ofLength, .inl (o_telling_ofLength_c, o_telling_ofLength_n, .inl o_telling_ofLength_v)), (o_telling_firstCode, .inl (o_telling_firstCode_c, o_telling_firstCode_n, .inl o_telling_firstCode_v)), (o_telling_firstPlace, .inl (o_telling_firstPlace_c, o_telling_firstPlace_n, .inl o_telling_firstPlace_v)), (o_telling_given, .inl (o_telling_given_c, o_telling_given_n, .inl o_telling_given_v)), (o_telling_codes, .inl (o_telling_codes_c, o_telling_codes_n, .inl o_telling_codes_v)), (o_telling_byCode, .inl (o_telling_byCode_c, o_telling_byCode_n, .inl o_telling_byCode_v))] H → va_D A [(o, .inr (9, [.ref o_in, .ref o_unpacked, .ref o_symbols, .ref o_distances, .ref o_telling, .ref o_row])), (o_telling, .inr (2, [.ref o_telling_lengths, .ref o_telling_codes, .ref o_telling_byCode, .ref o_telling_ofLength, .ref o_telling_firstCode, .ref o_telling_firstPlace, .ref o_telling_given, .int o_telling_longest])), (o_telling_lengths, .inl (o_telling_lengths_c, o_telling_lengths_n, .inl o_telling_lengths_v)), (o_in, .inr (0, [.int o_in_all, .int o_in_taken, .ref o_in_row])), (o_in_row, .inr (6, [.ref o_in_row_bytes, .int o_in_row_size])), (o_in_row_bytes, .inl (o_in_row_bytes_c, o_in_row_bytes_n, .inl o_in_row_bytes_v)), (o_telling_ofLength, .inl (o_telling_ofLength_c, o_telling_ofLength_n, .inl o_telling_ofLength_v)), (o_telling_firstCode, .inl (o_telling_firstCode_c, o_telling_firstCode_n, .inl o_telling_firstCode_v)), (o_telling_firstPlace, .inl (o_telling_firstPlace_c, o_telling_firstPlace_n, .inl o_telling_firstPlace_v)), (o_telling_given, .inl (o_telling_given_c, o_telling_given_n, .inl o_telling_given_v)), (o_telling_codes, .inl (o_telling_codes_c, o_telling_codes_n, .inl o_telling_codes_v)), (o_telling_byCode, .inl (o_telling_byCode_c, o_telling_byCode_n, .inl o_telling_byCode_v))] → va_S A s.heap H locs → lv_has ls 4 [(0, .ref o), (1, .int x1), (2, .int x2)] → pX9_readTelling_b13 o_telling_lengths_n o_in_row_bytes_n o_telling_ofLength_n o_telling_firstCode_n o_telling_firstPlace_n o_telling_given_n o_telling_codes_n o_telling_byCode_n o_in_all o_in_row_bytes_v x1 n o_telling_longest o_telling_lengths_v o_in_taken o_telling_ofLength_v o_telling_firstCode_v o_telling_firstPlace_v o_telling_given_v o_telling_codes_v o_telling_byCode_v x2 = some u → W p l e ({ frames := 3, cells := 0, slots := 0, locals := 69 }) s m args below meth c H locs 0 0 Q (F0 m 13 ls []) := by
    intro n
    induction n with
    | zero => intro o_telling_longest o_telling_lengths_v o_in_taken o_telling_ofLength_v o_telling_firstCode_v o_telling_firstPlace_v o_telling_given_v o_telling_codes_v o_telling_byCode_v x2 H locs ls hP hD hS hl h; cases h
    | succ n ih =>
      intro o_telling_longest o_telling_lengths_v o_in_taken o_telling_ofLength_v o_telling_firstCode_v o_telling_firstPlace_v o_telling_given_v o_telling_codes_v o_telling_byCode_v x2 H locs ls hP hD hS hl h
      rw [pX9_readTelling_b13] at h
      refine lv_iload_n hx hb dX9_readTelling_13 rfl (lv_at hl 2 rfl) ?_
      refine lv_iload_n hx hb dX9_readTelling_14 rfl (lv_at hl 1 rfl) ?_
      refine lv_icmp_ge (tgt := 59) hx hb dX9_readTelling_15 (by decide) (fun c4 => ?_) (fun c4 => ?_)
      · replace h := fb_t c4 h
        exact wB59 o_telling_longest o_telling_lengths_v o_in_taken o_telling_ofLength_v o_telling_firstCode_v o_telling_firstPlace_v o_telling_given_v o_telling_codes_v o_telling_byCode_v _ _ _ hP hD hS (lv_sub hl [0] rfl) h
      · replace h := fb_f c4 h
        refine lv_iload_n hx hb dX9_readTelling_18 rfl (lv_at hl 2 rfl) ?_
        refine lv_bipush (v := (19 : Int32)) hx hb dX9_readTelling_19 (by decide) ?_
        refine lv_icmp_ge (tgt := 59) hx hb dX9_readTelling_21 (by decide) (fun c5 => ?_) (fun c5 => ?_)
        · replace h := fb_t c5 h
          exact wB59 o_telling_longest o_telling_lengths_v o_in_taken o_telling_ofLength_v o_telling_firstCode_v o_telling_firstPlace_v o_telling_given_v o_telling_codes_v o_telling_byCode_v _ _ _ hP hD hS (lv_sub hl [0] rfl) h
        · replace h := fb_f c5 h
          refine lv_aload_n hx hb dX9_readTelling_24 rfl (lv_at hl 0 rfl) ?_
          refine va_get (D := (dC, dI)) (ci := 9) (v := .ref o_in) (C := RX9) (T := TX9) (N := 6) hx hb hts i_X9 hown hK hP 0 rfl rfl 0 (by decide) (hts _ k_364) (fun _ h9 => h9) rfl dX9_readTelling_25 ?_
          refine lv_iconst (v := (3 : Int32)) hx hb dX9_readTelling_28 (by decide) ?_
          obtain ⟨u6, e6, h⟩ := fb_b h
          refine fb_ci (wc := [(o_in, .inr (0, [.int o_in_all, .int o_in_taken, .ref o_in_row])), (o_in_row, .inr (6, [.ref o_in_row_bytes, .int o_in_row_size])), (o_in_row_bytes, .inl (o_in_row_bytes_c, o_in_row_bytes_n, .inl o_in_row_bytes_v))]) (wr := [(o, .inr (9, [.ref o_in, .ref o_unpacked, .ref o_symbols, .ref o_distances, .ref o_telling, .ref o_row])), (o_telling, .inr (2, [.ref o_telling_lengths, .ref o_telling_codes, .ref o_telling_byCode, .ref o_telling_ofLength, .ref o_telling_firstCode, .ref o_telling_firstPlace, .ref o_telling_given, .int o_telling_longest])), (o_telling_lengths, .inl (o_telling_lengths_c, o_telling_lengths_n, .inl o_telling_lengths_v)), (o_telling_ofLength, .inl (o_telling_ofLength_c, o_telling_ofLength_n, .inl o_telling_ofLength_v)), (o_telling_firstCode, .inl (o_telling_firstCode_c, o_telling_firstCode_n, .inl o_telling_firstCode_v)), (o_telling_firstPlace, .inl (o_telling_firstPlace_c, o_telling_firstPlace_n, .inl o_telling_firstPlace_v)), (o_telling_given, .inl (o_telling_given_c, o_telling_given_n, .inl o_telling_given_v)), (o_telling_codes, .inl (o_telling_codes_c, o_telling_codes_n, .inl o_telling_codes_v)), (o_telling_byCode, .inl (o_telling_byCode_c, o_telling_byCode_n, .inl o_telling_byCode_v))]) (w1 := [(o_in, .inr (0, [.int o_in_all, .int u6.2, .ref o_in_row])), (o_in_row, .inr (6, [.ref o_in_row_bytes, .int o_in_row_size])), (o_in_row_bytes, .inl (o_in_row_bytes_c, o_in_row_bytes_n, .inl o_in_row_bytes_v))]) (ws' := [(o, .inr (9, [.ref o_in, .ref o_unpacked, .ref o_symbols, .ref o_distances, .ref o_telling, .ref o_row])), (o_telling, .inr (2, [.ref o_telling_lengths, .ref o_telling_codes, .ref o_telling_byCode, .ref o_telling_ofLength, .ref o_telling_firstCode, .ref o_telling_firstPlace, .ref o_telling_given, .int o_telling_longest])), (o_telling_lengths, .inl (o_telling_lengths_c, o_telling_lengths_n, .inl o_telling_lengths_v)), (o_in, .inr (0, [.int o_in_all, .int u6.2, .ref o_in_row])), (o_in_row, .inr (6, [.ref o_in_row_bytes, .int o_in_row_size])), (o_in_row_bytes, .inl (o_in_row_bytes_c, o_in_row_bytes_n, .inl o_in_row_bytes_v)), (o_telling_ofLength, .inl (o_telling_ofLength_c, o_telling_ofLength_n, .inl o_telling_ofLength_v)), (o_telling_firstCode, .inl (o_telling_firstCode_c, o_telling_firstCode_n, .inl o_telling_firstCode_v)), (o_telling_firstPlace, .inl (o_telling_firstPlace_c, o_telling_firstPlace_n, .inl o_telling_firstPlace_v)), (o_telling_given, .inl (o_telling_given_c, o_telling_given_n, .inl o_telling_given_v)), (o_telling_codes, .inl (o_telling_codes_c, o_telling_codes_n, .inl o_telling_codes_v)), (o_telling_byCode, .inl (o_telling_byCode_c, o_telling_byCode_n, .inl o_telling_byCode_v))]) (va_runV (As := [.int (3 : Int32)]) (rest := []) ⟨hx, hb, hml, hown, hts⟩ (mX0_number l dC dI o_in o_in_row o_in_row_bytes o_in_row_bytes_c o_in_row_bytes_n o_in_all o_in_taken o_in_row_size o_in_row_bytes_v (3 : Int32) H.size u6 e6) (cwV 1 hts (fb_GV k_684 k_685 k_686 k_73 k_687) rfl rfl rfl hdX0_number ⟨Nat.le_of_ble_eq_true rfl, Nat.le_of_ble_eq_true rfl⟩) (fb_pV hP hD hS hA hK hN hZ [3, 4, 5] rfl rfl [1] rfl (q0 := 3) (ci := 0) rfl rfl) rfl rfl hl.1 rfl (lv_room (Nat.le_of_ble_eq_true rfl)) dX9_readTelling_29 ⟨Nat.le_of_ble_eq_true rfl, Nat.le_of_ble_eq_true rfl⟩) hP hD hS hA [3, 4, 5] [0, 1, 2, 6, 7, 8, 9, 10, 11] rfl rfl rfl (by decide) [0, 1, 2, 9, 10, 11, 3, 4, 5, 6, 7, 8] rfl rfl (fun H locs hP hD hS => ?_)
          refine lv_istore_n (lv' := [(3, .int u6.1), (0, .ref o), (1, .int x1), (2, .int x2)]) hx hb dX9_readTelling_32 rfl hl (by decide) rfl (fun ls hl => ?_)
          refine lv_iload_n hx hb dX9_readTelling_33 rfl (lv_at hl 0 rfl) ?_
          refine lv_if_ge (tgt := 39) hx hb dX9_readTelling_34 (by decide) (fun c7 => ?_) (fun c7 => ?_)
          · replace h := fb_t c7 h
            refine lv_aload_n hx hb dX9_readTelling_39 rfl (lv_at hl 1 rfl) ?_
            refine va_get (D := (dC, dI)) (ci := 9) (v := .ref o_telling) (C := RX9) (T := TX9) (N := 6) hx hb hts i_X9 hown hK hP 0 rfl rfl 4 (by decide) (hts _ k_368) (fun _ h9 => h9) rfl dX9_readTelling_40 ?_
            refine va_get (D := (dC, dI)) (ci := 2) (v := .ref o_telling_lengths) (C := RX2) (T := TX2) (N := 8) hx hb hts i_X2 hown hK hP 1 rfl rfl 0 (by decide) (hts _ k_160) (fun _ h9 => h9) rfl dX9_readTelling_43 ?_
            refine va_getsN hx hb hZ1 hS hown (va_Nw.use rfl (n_17 hN)) (fun _ h9 => h9) dX9_readTelling_46 ?_
            refine lv_iload_n hx hb dX9_readTelling_49 rfl (lv_at hl 3 rfl) ?_
            obtain ⟨g8, h⟩ := fb_g h
            refine va_ti (v := .int (fb_ord (x2).toNatClampNeg)) hx hb hZ2 hS g8 rfl dX9_readTelling_50 ?_
            refine lv_iload_n hx hb dX9_readTelling_51 rfl (lv_at hl 0 rfl) ?_
            obtain ⟨g9, h⟩ := fb_g h
            refine va_iast hx hb hK hP hD hS 2 0 rfl rfl g9 dX9_readTelling_52 (fun H locs hP hD hS => ?_)
            replace hP : va_P (dC, dI) fb_cl [(o, .inr (9, [.ref o_in, .ref o_unpacked, .ref o_symbols, .ref o_distances, .ref o_telling, .ref o_row])), (o_telling, .inr (2, [.ref o_telling_lengths, .ref o_telling_codes, .ref o_telling_byCode, .ref o_telling_ofLength, .ref o_telling_firstCode, .ref o_telling_firstPlace, .ref o_telling_given, .int o_telling_longest])), (o_telling_lengths, .inl (o_telling_lengths_c, o_telling_lengths_n, .inl (upd o_telling_lengths_v ((fb_ord (x2).toNatClampNeg)).toNatClampNeg u6.1))), (o_in, .inr (0, [.int o_in_all, .int u6.2, .ref o_in_row])), (o_in_row, .inr (6, [.ref o_in_row_bytes, .int o_in_row_size])), (o_in_row_bytes, .inl (o_in_row_bytes_c, o_in_row_bytes_n, .inl o_in_row_bytes_v)), (o_telling_ofLength, .inl (o_telling_ofLength_c, o_telling_ofLength_n, .inl o_telling_ofLength_v)), (o_telling_firstCode, .inl (o_telling_firstCode_c, o_telling_firstCode_n, .inl o_telling_firstCode_v)), (o_telling_firstPlace, .inl (o_telling_firstPlace_c, o_telling_firstPlace_n, .inl o_telling_firstPlace_v)), (o_telling_given, .inl (o_telling_given_c, o_telling_given_n, .inl o_telling_given_v)), (o_telling_codes, .inl (o_telling_codes_c, o_telling_codes_n, .inl o_telling_codes_v)), (o_telling_byCode, .inl (o_telling_byCode_c, o_telling_byCode_n, .inl o_telling_byCode_v))] H := hP
            replace hD : va_D A [(o, .inr (9, [.ref o_in, .ref o_unpacked, .ref o_symbols, .ref o_distances, .ref o_telling, .ref o_row])), (o_telling, .inr (2, [.ref o_telling_lengths, .ref o_telling_codes, .ref o_telling_byCode, .ref o_telling_ofLength, .ref o_telling_firstCode, .ref o_telling_firstPlace, .ref o_telling_given, .int o_telling_longest])), (o_telling_lengths, .inl (o_telling_lengths_c, o_telling_lengths_n, .inl (upd o_telling_lengths_v ((fb_ord (x2).toNatClampNeg)).toNatClampNeg u6.1))), (o_in, .inr (0, [.int o_in_all, .int u6.2, .ref o_in_row])), (o_in_row, .inr (6, [.ref o_in_row_bytes, .int o_in_row_size])), (o_in_row_bytes, .inl (o_in_row_bytes_c, o_in_row_bytes_n, .inl o_in_row_bytes_v)), (o_telling_ofLength, .inl (o_telling_ofLength_c, o_telling_ofLength_n, .inl o_telling_ofLength_v)), (o_telling_firstCode, .inl (o_telling_firstCode_c, o_telling_firstCode_n, .inl o_telling_firstCode_v)), (o_telling_firstPlace, .inl (o_telling_firstPlace_c, o_telling_firstPlace_n, .inl o_telling_firstPlace_v)), (o_telling_given, .inl (o_telling_given_c, o_telling_given_n, .inl o_telling_given_v)), (o_telling_codes, .inl (o_telling_codes_c, o_telling_codes_n, .inl o_telling_codes_v)), (o_telling_byCode, .inl (o_telling_byCode_c, o_telling_byCode_n, .inl o_telling_byCode_v))] := hD
            refine lv_iinc (v := (x2 + (1 : Int32))) (lv' := [(2, .int (x2 + (1 : Int32))), (3, .int u6.1), (0, .ref o), (1, .int x1)]) hx hb dX9_readTelling_53 hl (k := 3) rfl rfl (by decide) rfl (fun ls hl => ?_)
            refine lv_goto (tgt := 13) hx hb dX9_readTelling_56 (by decide) ?_
            exact ih o_telling_longest (upd o_telling_lengths_v ((fb_ord (x2).toNatClampNeg)).toNatClampNeg u6.1) u6.2 o_telling_ofLength_v o_telling_firstCode_v o_telling_firstPlace_v o_telling_given_v o_telling_codes_v o_telling_byCode_v (x2 + (1 : Int32)) _ _ _ hP hD hS (lv_sub hl [2, 3, 0] rfl) h
          · replace h := fb_f c7 h
            refine lv_iconst (v := (1 : Int32)) hx hb dX9_readTelling_37 (by decide) ?_
            have hu := Option.some.inj h
            exact hret _ _ _ _ _ dX9_readTelling_38 rfl (by rw [← hu]) (by rw [← hu]; exact hP) (by rw [← hu]; exact hD) hS
  unfold pX9_readTelling at h
  refine lv_aload_n hx hb dX9_readTelling_0 rfl (lv_at hl 0 rfl) ?_
  refine va_get (D := (dC, dI)) (ci := 9) (v := .ref o_telling) (C := RX9) (T := TX9) (N := 6) hx hb hts i_X9 hown hK hP 0 rfl rfl 4 (by decide) (hts _ k_368) (fun _ h9 => h9) rfl dX9_readTelling_1 ?_
  refine lv_iconst (v := (0 : Int32)) hx hb dX9_readTelling_4 (by decide) ?_
  refine lv_bipush (v := (19 : Int32)) hx hb dX9_readTelling_5 (by decide) ?_
  refine lv_iconst (v := (0 : Int32)) hx hb dX9_readTelling_7 (by decide) ?_
  obtain ⟨u10, e10, h⟩ := fb_b h
  refine fb_cv (wc := [(o_telling, .inr (2, [.ref o_telling_lengths, .ref o_telling_codes, .ref o_telling_byCode, .ref o_telling_ofLength, .ref o_telling_firstCode, .ref o_telling_firstPlace, .ref o_telling_given, .int o_telling_longest])), (o_telling_lengths, .inl (o_telling_lengths_c, o_telling_lengths_n, .inl o_telling_lengths_v))]) (wr := [(o, .inr (9, [.ref o_in, .ref o_unpacked, .ref o_symbols, .ref o_distances, .ref o_telling, .ref o_row])), (o_in, .inr (0, [.int o_in_all, .int o_in_taken, .ref o_in_row])), (o_in_row, .inr (6, [.ref o_in_row_bytes, .int o_in_row_size])), (o_in_row_bytes, .inl (o_in_row_bytes_c, o_in_row_bytes_n, .inl o_in_row_bytes_v)), (o_telling_ofLength, .inl (o_telling_ofLength_c, o_telling_ofLength_n, .inl o_telling_ofLength_v)), (o_telling_firstCode, .inl (o_telling_firstCode_c, o_telling_firstCode_n, .inl o_telling_firstCode_v)), (o_telling_firstPlace, .inl (o_telling_firstPlace_c, o_telling_firstPlace_n, .inl o_telling_firstPlace_v)), (o_telling_given, .inl (o_telling_given_c, o_telling_given_n, .inl o_telling_given_v)), (o_telling_codes, .inl (o_telling_codes_c, o_telling_codes_n, .inl o_telling_codes_v)), (o_telling_byCode, .inl (o_telling_byCode_c, o_telling_byCode_n, .inl o_telling_byCode_v))]) (w1 := [(o_telling, .inr (2, [.ref o_telling_lengths, .ref o_telling_codes, .ref o_telling_byCode, .ref o_telling_ofLength, .ref o_telling_firstCode, .ref o_telling_firstPlace, .ref o_telling_given, .int o_telling_longest])), (o_telling_lengths, .inl (o_telling_lengths_c, o_telling_lengths_n, .inl u10))]) (ws' := [(o, .inr (9, [.ref o_in, .ref o_unpacked, .ref o_symbols, .ref o_distances, .ref o_telling, .ref o_row])), (o_telling, .inr (2, [.ref o_telling_lengths, .ref o_telling_codes, .ref o_telling_byCode, .ref o_telling_ofLength, .ref o_telling_firstCode, .ref o_telling_firstPlace, .ref o_telling_given, .int o_telling_longest])), (o_telling_lengths, .inl (o_telling_lengths_c, o_telling_lengths_n, .inl u10)), (o_in, .inr (0, [.int o_in_all, .int o_in_taken, .ref o_in_row])), (o_in_row, .inr (6, [.ref o_in_row_bytes, .int o_in_row_size])), (o_in_row_bytes, .inl (o_in_row_bytes_c, o_in_row_bytes_n, .inl o_in_row_bytes_v)), (o_telling_ofLength, .inl (o_telling_ofLength_c, o_telling_ofLength_n, .inl o_telling_ofLength_v)), (o_telling_firstCode, .inl (o_telling_firstCode_c, o_telling_firstCode_n, .inl o_telling_firstCode_v)), (o_telling_firstPlace, .inl (o_telling_firstPlace_c, o_telling_firstPlace_n, .inl o_telling_firstPlace_v)), (o_telling_given, .inl (o_telling_given_c, o_telling_given_n, .inl o_telling_given_v)), (o_telling_codes, .inl (o_telling_codes_c, o_telling_codes_n, .inl o_telling_codes_v)), (o_telling_byCode, .inl (o_telling_byCode_c, o_telling_byCode_n, .inl o_telling_byCode_v))]) (va_runV (As := [.int (0 : Int32), .int (19 : Int32), .int (0 : Int32)]) (rest := []) ⟨hx, hb, hml, hown, hts⟩ (mX2_fill l dC dI o_telling o_telling_lengths o_telling_codes o_telling_byCode o_telling_ofLength o_telling_firstCode o_telling_firstPlace o_telling_given o_telling_lengths_c o_telling_lengths_n o_telling_longest o_telling_lengths_v (0 : Int32) (19 : Int32) (0 : Int32) H.size u10 e10) (cwV 3 hts (fb_GV k_710 k_711 k_712 k_67 k_713) rfl rfl rfl hdX2_fill ⟨Nat.le_of_ble_eq_true rfl, Nat.le_of_ble_eq_true rfl⟩) (fb_pV hP hD hS hA hK hN hZ [1, 2] rfl rfl [0] rfl (q0 := 1) (ci := 2) rfl rfl) rfl rfl hl.1 rfl (lv_room (Nat.le_of_ble_eq_true rfl)) dX9_readTelling_8 ⟨Nat.le_of_ble_eq_true rfl, Nat.le_of_ble_eq_true rfl⟩) hP hD hS hA [1, 2] [0, 3, 4, 5, 6, 7, 8, 9, 10, 11] rfl rfl rfl (by decide) [0, 10, 11, 1, 2, 3, 4, 5, 6, 7, 8, 9] rfl rfl (fun H locs hP hD hS => ?_)
  refine lv_iconst (v := (0 : Int32)) hx hb dX9_readTelling_11 (by decide) ?_
  refine lv_istore_n (lv' := [(2, .int (0 : Int32)), (0, .ref o), (1, .int x1)]) hx hb dX9_readTelling_12 rfl hl (by decide) rfl (fun ls hl => ?_)
  exact wB13 fb_F o_telling_longest u10 o_in_taken o_telling_ofLength_v o_telling_firstCode_v o_telling_firstPlace_v o_telling_given_v o_telling_codes_v o_telling_byCode_v (0 : Int32) _ _ _ hP hD hS (lv_sub hl [1, 2, 0] rfl) h
theorem dX9_timesOf_0 : decode cX9_timesOf 0 = .ok (.iload_n 0, 1) := by decide +kernel
theorem dX9_timesOf_1 : decode cX9_timesOf 1 = .ok (.bipush 16, 2) := by decide +kernel
theorem dX9_timesOf_3 : decode cX9_timesOf 3 = .ok (.if_icmp .ge 5, 3) := by decide +kernel
theorem dX9_timesOf_6 : decode cX9_timesOf 6 = .ok (.iconst 1, 1) := by decide +kernel
theorem dX9_timesOf_7 : decode cX9_timesOf 7 = .ok (.ireturn, 1) := by decide +kernel
theorem dX9_timesOf_8 : decode cX9_timesOf 8 = .ok (.iload_n 1, 1) := by decide +kernel
theorem dX9_timesOf_9 : decode cX9_timesOf 9 = .ok (.iload_n 0, 1) := by decide +kernel
theorem dX9_timesOf_10 : decode cX9_timesOf 10 = .ok (.bipush 18, 2) := by decide +kernel
theorem dX9_timesOf_12 : decode cX9_timesOf 12 = .ok (.if_icmp .ne 8, 3) := by decide +kernel
theorem dX9_timesOf_15 : decode cX9_timesOf 15 = .ok (.bipush 11, 2) := by decide +kernel
theorem dX9_timesOf_17 : decode cX9_timesOf 17 = .ok (.goto 4, 3) := by decide +kernel
theorem dX9_timesOf_20 : decode cX9_timesOf 20 = .ok (.iconst 3, 1) := by decide +kernel
theorem dX9_timesOf_21 : decode cX9_timesOf 21 = .ok (.iadd, 1) := by decide +kernel
theorem dX9_timesOf_22 : decode cX9_timesOf 22 = .ok (.ireturn, 1) := by decide +kernel
def pX9_timesOf (x0 : Int32) (x1 : Int32)   : Option (Int32) :=
  if (16 : Int32) ≤ x0 then
  (if x0 = (18 : Int32) then
  (some ((x1 + (11 : Int32))))
  else
  (some ((x1 + (3 : Int32)))))
  else
  (some ((1 : Int32)))
theorem hdX9_timesOf : yX9_timesOf.cls ≠ "java/lang/invoke/MethodHandle" ∧ yX9_timesOf.cls ≠ "java/lang/invoke/VarHandle" ∧ (parseMethodDescriptor yX9_timesOf.desc).map (fun d => d.parameters.length) = some 2 := by decide +kernel
set_option maxHeartbeats 8000000 in
set_option maxRecDepth 100000 in
theorem mX9_timesOf (l : Launch) (dC : Nat → ClassId) (dI : Nat → Nat → Nat)     (x0 : Int32) (x1 : Int32) (sz : Nat) (u : Int32) (h : pX9_timesOf x0 x1 = some u) : Met l yX9_timesOf (Cond.code yX9_timesOf cX9_timesOf 2 (some .int) :: fb_tb) ({ frames := 0, cells := 0, slots := 0, locals := 0 }) (fb_Pc (dC, dI) [.int x0, .int x1] sz [] []) (fb_Qi (dC, dI) u [] (va_A [] sz)) 0 0 (va_A [] sz) := by
  refine fb_meti (ty := .int) (by decide) (Nat.le_of_ble_eq_true rfl) (fun p e s m args below meth c A Q ls H hx hb hml hown hts hP hK hN hZ hD hA hS hret hl => ?_)
  replace hl : lv_has ls 2 [(0, .int x0), (1, .int x1)] := hl
  unfold pX9_timesOf at h
  refine lv_iload_n hx hb dX9_timesOf_0 rfl (lv_at hl 0 rfl) ?_
  refine lv_bipush (v := (16 : Int32)) hx hb dX9_timesOf_1 (by decide) ?_
  refine lv_icmp_ge (tgt := 8) hx hb dX9_timesOf_3 (by decide) (fun c1 => ?_) (fun c1 => ?_)
  · replace h := fb_t c1 h
    refine lv_iload_n hx hb dX9_timesOf_8 rfl (lv_at hl 1 rfl) ?_
    refine lv_iload_n hx hb dX9_timesOf_9 rfl (lv_at hl 0 rfl) ?_
    refine lv_bipush (v := (18 : Int32)) hx hb dX9_timesOf_10 (by decide) ?_
    refine lv_icmp_ne (tgt := 20) hx hb dX9_timesOf_12 (by decide) (fun c2 => ?_) (fun c2 => ?_)
    · replace h := fb_f c2 h
      refine lv_iconst (v := (3 : Int32)) hx hb dX9_timesOf_20 (by decide) ?_
      refine lv_iadd hx hb dX9_timesOf_21 ?_
      have hu := Option.some.inj h
      exact hret _ _ _ _ _ dX9_timesOf_22 rfl (by rw [← hu]) hP hD hS
    · replace h := fb_t c2 h
      refine lv_bipush (v := (11 : Int32)) hx hb dX9_timesOf_15 (by decide) ?_
      refine lv_goto (tgt := 21) hx hb dX9_timesOf_17 (by decide) ?_
      refine lv_iadd hx hb dX9_timesOf_21 ?_
      have hu := Option.some.inj h
      exact hret _ _ _ _ _ dX9_timesOf_22 rfl (by rw [← hu]) hP hD hS
  · replace h := fb_f c1 h
    refine lv_iconst (v := (1 : Int32)) hx hb dX9_timesOf_6 (by decide) ?_
    have hu := Option.some.inj h
    exact hret _ _ _ _ _ dX9_timesOf_7 rfl (by rw [← hu]) hP hD hS
theorem dX9_readLengths_0 : decode cX9_readLengths 0 = .ok (.iconst 0, 1) := by decide +kernel
theorem dX9_readLengths_1 : decode cX9_readLengths 1 = .ok (.istore_n 2, 1) := by decide +kernel
theorem dX9_readLengths_2 : decode cX9_readLengths 2 = .ok (.iconst 0, 1) := by decide +kernel
theorem dX9_readLengths_3 : decode cX9_readLengths 3 = .ok (.istore_n 3, 1) := by decide +kernel
theorem dX9_readLengths_4 : decode cX9_readLengths 4 = .ok (.iload_n 3, 1) := by decide +kernel
theorem dX9_readLengths_5 : decode cX9_readLengths 5 = .ok (.iload_n 1, 1) := by decide +kernel
theorem dX9_readLengths_6 : decode cX9_readLengths 6 = .ok (.if_icmp .ge 139, 3) := by decide +kernel
theorem dX9_readLengths_9 : decode cX9_readLengths 9 = .ok (.iload_n 2, 1) := by decide +kernel
theorem dX9_readLengths_10 : decode cX9_readLengths 10 = .ok (.iload_n 1, 1) := by decide +kernel
theorem dX9_readLengths_11 : decode cX9_readLengths 11 = .ok (.if_icmp .ge 134, 3) := by decide +kernel
theorem dX9_readLengths_14 : decode cX9_readLengths 14 = .ok (.aload_n 0, 1) := by decide +kernel
theorem dX9_readLengths_15 : decode cX9_readLengths 15 = .ok (.getfield 23, 3) := by decide +kernel
theorem dX9_readLengths_18 : decode cX9_readLengths 18 = .ok (.aload_n 0, 1) := by decide +kernel
theorem dX9_readLengths_19 : decode cX9_readLengths 19 = .ok (.getfield 35, 3) := by decide +kernel
theorem dX9_readLengths_22 : decode cX9_readLengths 22 = .ok (.invokevirtual 119, 3) := by decide +kernel
theorem dX9_readLengths_25 : decode cX9_readLengths 25 = .ok (.istore 4, 2) := by decide +kernel
theorem dX9_readLengths_27 : decode cX9_readLengths 27 = .ok (.iload 4, 2) := by decide +kernel
theorem dX9_readLengths_29 : decode cX9_readLengths 29 = .ok (.ifCond .ge 7, 3) := by decide +kernel
theorem dX9_readLengths_32 : decode cX9_readLengths 32 = .ok (.iload 4, 2) := by decide +kernel
theorem dX9_readLengths_34 : decode cX9_readLengths 34 = .ok (.ineg, 1) := by decide +kernel
theorem dX9_readLengths_35 : decode cX9_readLengths 35 = .ok (.ireturn, 1) := by decide +kernel
theorem dX9_readLengths_36 : decode cX9_readLengths 36 = .ok (.aload_n 0, 1) := by decide +kernel
theorem dX9_readLengths_37 : decode cX9_readLengths 37 = .ok (.getfield 35, 3) := by decide +kernel
theorem dX9_readLengths_40 : decode cX9_readLengths 40 = .ok (.iload 4, 2) := by decide +kernel
theorem dX9_readLengths_42 : decode cX9_readLengths 42 = .ok (.invokestatic 123, 3) := by decide +kernel
theorem dX9_readLengths_45 : decode cX9_readLengths 45 = .ok (.invokevirtual 53, 3) := by decide +kernel
theorem dX9_readLengths_48 : decode cX9_readLengths 48 = .ok (.istore 5, 2) := by decide +kernel
theorem dX9_readLengths_50 : decode cX9_readLengths 50 = .ok (.iload 5, 2) := by decide +kernel
theorem dX9_readLengths_52 : decode cX9_readLengths 52 = .ok (.ifCond .ge 5, 3) := by decide +kernel
theorem dX9_readLengths_55 : decode cX9_readLengths 55 = .ok (.iconst 1, 1) := by decide +kernel
theorem dX9_readLengths_56 : decode cX9_readLengths 56 = .ok (.ireturn, 1) := by decide +kernel
theorem dX9_readLengths_57 : decode cX9_readLengths 57 = .ok (.iload 4, 2) := by decide +kernel
theorem dX9_readLengths_59 : decode cX9_readLengths 59 = .ok (.iload 5, 2) := by decide +kernel
theorem dX9_readLengths_61 : decode cX9_readLengths 61 = .ok (.invokestatic 128, 3) := by decide +kernel
theorem dX9_readLengths_64 : decode cX9_readLengths 64 = .ok (.istore 6, 2) := by decide +kernel
theorem dX9_readLengths_66 : decode cX9_readLengths 66 = .ok (.iload 4, 2) := by decide +kernel
theorem dX9_readLengths_68 : decode cX9_readLengths 68 = .ok (.bipush 16, 2) := by decide +kernel
theorem dX9_readLengths_70 : decode cX9_readLengths 70 = .ok (.if_icmp .ne 7, 3) := by decide +kernel
theorem dX9_readLengths_73 : decode cX9_readLengths 73 = .ok (.iload_n 2, 1) := by decide +kernel
theorem dX9_readLengths_74 : decode cX9_readLengths 74 = .ok (.ifCond .eq 11, 3) := by decide +kernel
theorem dX9_readLengths_77 : decode cX9_readLengths 77 = .ok (.iload 6, 2) := by decide +kernel
theorem dX9_readLengths_79 : decode cX9_readLengths 79 = .ok (.iload_n 1, 1) := by decide +kernel
theorem dX9_readLengths_80 : decode cX9_readLengths 80 = .ok (.iload_n 2, 1) := by decide +kernel
theorem dX9_readLengths_81 : decode cX9_readLengths 81 = .ok (.isub, 1) := by decide +kernel
theorem dX9_readLengths_82 : decode cX9_readLengths 82 = .ok (.if_icmp .le 5, 3) := by decide +kernel
theorem dX9_readLengths_85 : decode cX9_readLengths 85 = .ok (.iconst 4, 1) := by decide +kernel
theorem dX9_readLengths_86 : decode cX9_readLengths 86 = .ok (.ireturn, 1) := by decide +kernel
theorem dX9_readLengths_87 : decode cX9_readLengths 87 = .ok (.iload 4, 2) := by decide +kernel
theorem dX9_readLengths_89 : decode cX9_readLengths 89 = .ok (.bipush 16, 2) := by decide +kernel
theorem dX9_readLengths_91 : decode cX9_readLengths 91 = .ok (.if_icmp .ge 8, 3) := by decide +kernel
theorem dX9_readLengths_94 : decode cX9_readLengths 94 = .ok (.iload 4, 2) := by decide +kernel
theorem dX9_readLengths_96 : decode cX9_readLengths 96 = .ok (.goto 22, 3) := by decide +kernel
theorem dX9_readLengths_99 : decode cX9_readLengths 99 = .ok (.iload 4, 2) := by decide +kernel
theorem dX9_readLengths_101 : decode cX9_readLengths 101 = .ok (.bipush 16, 2) := by decide +kernel
theorem dX9_readLengths_103 : decode cX9_readLengths 103 = .ok (.if_icmp .ne 14, 3) := by decide +kernel
theorem dX9_readLengths_106 : decode cX9_readLengths 106 = .ok (.aload_n 0, 1) := by decide +kernel
theorem dX9_readLengths_107 : decode cX9_readLengths 107 = .ok (.getfield 26, 3) := by decide +kernel
theorem dX9_readLengths_110 : decode cX9_readLengths 110 = .ok (.iload_n 2, 1) := by decide +kernel
theorem dX9_readLengths_111 : decode cX9_readLengths 111 = .ok (.iconst 1, 1) := by decide +kernel
theorem dX9_readLengths_112 : decode cX9_readLengths 112 = .ok (.isub, 1) := by decide +kernel
theorem dX9_readLengths_113 : decode cX9_readLengths 113 = .ok (.iaload, 1) := by decide +kernel
theorem dX9_readLengths_114 : decode cX9_readLengths 114 = .ok (.goto 4, 3) := by decide +kernel
theorem dX9_readLengths_117 : decode cX9_readLengths 117 = .ok (.iconst 0, 1) := by decide +kernel
theorem dX9_readLengths_118 : decode cX9_readLengths 118 = .ok (.istore 7, 2) := by decide +kernel
theorem dX9_readLengths_120 : decode cX9_readLengths 120 = .ok (.aload_n 0, 1) := by decide +kernel
theorem dX9_readLengths_121 : decode cX9_readLengths 121 = .ok (.getfield 26, 3) := by decide +kernel
theorem dX9_readLengths_124 : decode cX9_readLengths 124 = .ok (.iload_n 2, 1) := by decide +kernel
theorem dX9_readLengths_125 : decode cX9_readLengths 125 = .ok (.iload_n 2, 1) := by decide +kernel
theorem dX9_readLengths_126 : decode cX9_readLengths 126 = .ok (.iload 6, 2) := by decide +kernel
theorem dX9_readLengths_128 : decode cX9_readLengths 128 = .ok (.iadd, 1) := by decide +kernel
theorem dX9_readLengths_129 : decode cX9_readLengths 129 = .ok (.iload 7, 2) := by decide +kernel
theorem dX9_readLengths_131 : decode cX9_readLengths 131 = .ok (.invokestatic 132, 3) := by decide +kernel
theorem dX9_readLengths_134 : decode cX9_readLengths 134 = .ok (.iload_n 2, 1) := by decide +kernel
theorem dX9_readLengths_135 : decode cX9_readLengths 135 = .ok (.iload 6, 2) := by decide +kernel
theorem dX9_readLengths_137 : decode cX9_readLengths 137 = .ok (.iadd, 1) := by decide +kernel
theorem dX9_readLengths_138 : decode cX9_readLengths 138 = .ok (.istore_n 2, 1) := by decide +kernel
theorem dX9_readLengths_139 : decode cX9_readLengths 139 = .ok (.iinc 3 1, 3) := by decide +kernel
theorem dX9_readLengths_142 : decode cX9_readLengths 142 = .ok (.goto (-138), 3) := by decide +kernel
theorem dX9_readLengths_145 : decode cX9_readLengths 145 = .ok (.iconst 0, 1) := by decide +kernel
theorem dX9_readLengths_146 : decode cX9_readLengths 146 = .ok (.ireturn, 1) := by decide +kernel
def pX9_readLengths_b118 (o_row_n : Nat) (K4 : Int32 → (Nat → Int32) → Int32 → Int32 → Option (Int32 × Int32 × (Nat → Int32))) (o_in_taken : Int32) (o_row_v : Nat → Int32) (x2 : Int32) (x3 : Int32) (x6 : Int32) (t0 : Int32) : Option (Int32 × Int32 × (Nat → Int32)) :=
  (pJ7_fill_fda19 o_row_n x2 (x2 + x6) t0 o_row_v).bind (fun u1 =>
  K4 o_in_taken u1 (x2 + x6) (x3 + (1 : Int32)))
def pX9_readLengths_b77 (o_row_n : Nat) (x1 : Int32) (K4 : Int32 → (Nat → Int32) → Int32 → Int32 → Option (Int32 × Int32 × (Nat → Int32))) (o_in_taken : Int32) (o_row_v : Nat → Int32) (x2 : Int32) (x3 : Int32) (x4 : Int32) (x6 : Int32) : Option (Int32 × Int32 × (Nat → Int32)) :=
  if x6 ≤ (x1 - x2) then
  (if (16 : Int32) ≤ x4 then
  (if x4 = (16 : Int32) then
  (if (x2 - (1 : Int32)) < 0 ∨ o_row_n ≤ ((x2 - (1 : Int32))).toNatClampNeg then none else
  pX9_readLengths_b118 o_row_n K4 o_in_taken o_row_v x2 x3 x6 (o_row_v ((x2 - (1 : Int32))).toNatClampNeg))
  else
  (pX9_readLengths_b118 o_row_n K4 o_in_taken o_row_v x2 x3 x6 (0 : Int32)))
  else
  (pX9_readLengths_b118 o_row_n K4 o_in_taken o_row_v x2 x3 x6 x4))
  else
  (some ((4 : Int32), o_in_taken, o_row_v))
def pX9_readLengths_b4 (o_telling_firstCode_n : Nat) (o_telling_ofLength_n : Nat) (o_telling_firstPlace_n : Nat) (o_telling_byCode_n : Nat) (o_in_row_bytes_n : Nat) (o_row_n : Nat) (o_telling_longest : Int32) (o_telling_firstCode_v : Nat → Int32) (o_telling_ofLength_v : Nat → Int32) (o_telling_firstPlace_v : Nat → Int32) (o_telling_byCode_v : Nat → Int32) (o_in_all : Int32) (o_in_row_bytes_v : Nat → Int32) (x1 : Int32)  : Nat → Int32 → (Nat → Int32) → Int32 → Int32 → Option (Int32 × Int32 × (Nat → Int32))
  | 0 => fun _ _ _ _ => none
  | n + 1 => fun o_in_taken o_row_v x2 x3 =>
  if x1 ≤ x3 then
  (some ((0 : Int32), o_in_taken, o_row_v))
  else
  (if x1 ≤ x2 then
  (some ((0 : Int32), o_in_taken, o_row_v))
  else
  ((pX2_read o_telling_firstCode_n o_telling_ofLength_n o_telling_firstPlace_n o_telling_byCode_n o_in_row_bytes_n o_telling_longest o_telling_firstCode_v o_telling_ofLength_v o_telling_firstPlace_v o_telling_byCode_v o_in_all o_in_row_bytes_v o_in_taken).bind (fun u8 =>
  if 0 ≤ u8.1 then
  ((pX7_numberBitsOf u8.1).bind (fun u10 =>
  (pX0_number o_in_row_bytes_n o_in_all o_in_row_bytes_v u10 u8.2).bind (fun u11 =>
  if 0 ≤ u11.1 then
  ((pX9_timesOf u8.1 u11.1).bind (fun u13 =>
  if u8.1 = (16 : Int32) then
  (if x2 = 0 then
  (some ((4 : Int32), u11.2, o_row_v))
  else
  (pX9_readLengths_b77 o_row_n x1 (pX9_readLengths_b4 o_telling_firstCode_n o_telling_ofLength_n o_telling_firstPlace_n o_telling_byCode_n o_in_row_bytes_n o_row_n o_telling_longest o_telling_firstCode_v o_telling_ofLength_v o_telling_firstPlace_v o_telling_byCode_v o_in_all o_in_row_bytes_v x1 n) u11.2 o_row_v x2 x3 u8.1 u13))
  else
  (pX9_readLengths_b77 o_row_n x1 (pX9_readLengths_b4 o_telling_firstCode_n o_telling_ofLength_n o_telling_firstPlace_n o_telling_byCode_n o_in_row_bytes_n o_row_n o_telling_longest o_telling_firstCode_v o_telling_ofLength_v o_telling_firstPlace_v o_telling_byCode_v o_in_all o_in_row_bytes_v x1 n) u11.2 o_row_v x2 x3 u8.1 u13)))
  else
  (some ((1 : Int32), u11.2, o_row_v)))))
  else
  (some ((-u8.1), u8.2, o_row_v)))))
def pX9_readLengths (o_telling_firstCode_n : Nat) (o_telling_ofLength_n : Nat) (o_telling_firstPlace_n : Nat) (o_telling_byCode_n : Nat) (o_in_row_bytes_n : Nat) (o_row_n : Nat) (o_telling_longest : Int32) (o_telling_firstCode_v : Nat → Int32) (o_telling_ofLength_v : Nat → Int32) (o_telling_firstPlace_v : Nat → Int32) (o_telling_byCode_v : Nat → Int32) (o_in_all : Int32) (o_in_row_bytes_v : Nat → Int32) (x1 : Int32)  (o_in_taken : Int32) (o_row_v : Nat → Int32) : Option (Int32 × Int32 × (Nat → Int32)) :=
  pX9_readLengths_b4 o_telling_firstCode_n o_telling_ofLength_n o_telling_firstPlace_n o_telling_byCode_n o_in_row_bytes_n o_row_n o_telling_longest o_telling_firstCode_v o_telling_ofLength_v o_telling_firstPlace_v o_telling_byCode_v o_in_all o_in_row_bytes_v x1 fb_F o_in_taken o_row_v (0 : Int32) (0 : Int32)
theorem hdX9_readLengths : yX9_readLengths.cls = RX9 ∧ yX9_readLengths.cls ≠ "java/lang/invoke/MethodHandle" ∧ yX9_readLengths.cls ≠ "java/lang/invoke/VarHandle" ∧ (parseMethodDescriptor yX9_readLengths.desc).map (fun d => d.parameters.length) = some 1 := by decide +kernel
set_option maxHeartbeats 8000000 in
set_option maxRecDepth 100000 in
theorem mX9_readLengths (l : Launch) (dC : Nat → ClassId) (dI : Nat → Nat → Nat) (o : Nat) (o_telling : Nat) (o_telling_firstCode : Nat) (o_telling_ofLength : Nat) (o_telling_firstPlace : Nat) (o_telling_byCode : Nat) (o_in : Nat) (o_in_row : Nat) (o_in_row_bytes : Nat) (o_row : Nat) (o_unpacked : Nat) (o_symbols : Nat) (o_distances : Nat) (o_telling_lengths : Nat) (o_telling_codes : Nat) (o_telling_given : Nat) (o_telling_firstCode_c : ClassId) (o_telling_ofLength_c : ClassId) (o_telling_firstPlace_c : ClassId) (o_telling_byCode_c : ClassId) (o_in_row_bytes_c : ClassId) (o_row_c : ClassId) (o_telling_firstCode_n : Nat) (o_telling_ofLength_n : Nat) (o_telling_firstPlace_n : Nat) (o_telling_byCode_n : Nat) (o_in_row_bytes_n : Nat) (o_row_n : Nat) (o_telling_longest : Int32) (o_telling_firstCode_v : Nat → Int32) (o_telling_ofLength_v : Nat → Int32) (o_telling_firstPlace_v : Nat → Int32) (o_telling_byCode_v : Nat → Int32) (o_in_all : Int32) (o_in_taken : Int32) (o_in_row_size : Int32) (o_in_row_bytes_v : Nat → Int32) (o_row_v : Nat → Int32) (x1 : Int32) (sz : Nat) (u : Int32 × Int32 × (Nat → Int32)) (h : pX9_readLengths o_telling_firstCode_n o_telling_ofLength_n o_telling_firstPlace_n o_telling_byCode_n o_in_row_bytes_n o_row_n o_telling_longest o_telling_firstCode_v o_telling_ofLength_v o_telling_firstPlace_v o_telling_byCode_v o_in_all o_in_row_bytes_v x1 o_in_taken o_row_v = some u) : Met l yX9_readLengths (Cond.code yX9_readLengths cX9_readLengths 8 (some .int) :: fb_tb) ({ frames := 2, cells := 0, slots := 0, locals := 46 }) (fb_Pc (dC, dI) [.ref o, .int x1] sz [(o_telling_firstCode_c, .int), (o_telling_ofLength_c, .int), (o_telling_firstPlace_c, .int), (o_telling_byCode_c, .int), (o_in_row_bytes_c, .byte), (o_row_c, .int)] [(o, .inr (9, [.ref o_in, .ref o_unpacked, .ref o_symbols, .ref o_distances, .ref o_telling, .ref o_row])), (o_telling, .inr (2, [.ref o_telling_lengths, .ref o_telling_codes, .ref o_telling_byCode, .ref o_telling_ofLength, .ref o_telling_firstCode, .ref o_telling_firstPlace, .ref o_telling_given, .int o_telling_longest])), (o_telling_firstCode, .inl (o_telling_firstCode_c, o_telling_firstCode_n, .inl o_telling_firstCode_v)), (o_telling_ofLength, .inl (o_telling_ofLength_c, o_telling_ofLength_n, .inl o_telling_ofLength_v)), (o_telling_firstPlace, .inl (o_telling_firstPlace_c, o_telling_firstPlace_n, .inl o_telling_firstPlace_v)), (o_telling_byCode, .inl (o_telling_byCode_c, o_telling_byCode_n, .inl o_telling_byCode_v)), (o_in, .inr (0, [.int o_in_all, .int o_in_taken, .ref o_in_row])), (o_in_row, .inr (6, [.ref o_in_row_bytes, .int o_in_row_size])), (o_in_row_bytes, .inl (o_in_row_bytes_c, o_in_row_bytes_n, .inl o_in_row_bytes_v)), (o_row, .inl (o_row_c, o_row_n, .inl o_row_v))]) (fb_Qi (dC, dI) u.1 [(o, .inr (9, [.ref o_in, .ref o_unpacked, .ref o_symbols, .ref o_distances, .ref o_telling, .ref o_row])), (o_telling, .inr (2, [.ref o_telling_lengths, .ref o_telling_codes, .ref o_telling_byCode, .ref o_telling_ofLength, .ref o_telling_firstCode, .ref o_telling_firstPlace, .ref o_telling_given, .int o_telling_longest])), (o_telling_firstCode, .inl (o_telling_firstCode_c, o_telling_firstCode_n, .inl o_telling_firstCode_v)), (o_telling_ofLength, .inl (o_telling_ofLength_c, o_telling_ofLength_n, .inl o_telling_ofLength_v)), (o_telling_firstPlace, .inl (o_telling_firstPlace_c, o_telling_firstPlace_n, .inl o_telling_firstPlace_v)), (o_telling_byCode, .inl (o_telling_byCode_c, o_telling_byCode_n, .inl o_telling_byCode_v)), (o_in, .inr (0, [.int o_in_all, .int u.2.1, .ref o_in_row])), (o_in_row, .inr (6, [.ref o_in_row_bytes, .int o_in_row_size])), (o_in_row_bytes, .inl (o_in_row_bytes_c, o_in_row_bytes_n, .inl o_in_row_bytes_v)), (o_row, .inl (o_row_c, o_row_n, .inl u.2.2))] (va_A [(o, .inr (9, [.ref o_in, .ref o_unpacked, .ref o_symbols, .ref o_distances, .ref o_telling, .ref o_row])), (o_telling, .inr (2, [.ref o_telling_lengths, .ref o_telling_codes, .ref o_telling_byCode, .ref o_telling_ofLength, .ref o_telling_firstCode, .ref o_telling_firstPlace, .ref o_telling_given, .int o_telling_longest])), (o_telling_firstCode, .inl (o_telling_firstCode_c, o_telling_firstCode_n, .inl o_telling_firstCode_v)), (o_telling_ofLength, .inl (o_telling_ofLength_c, o_telling_ofLength_n, .inl o_telling_ofLength_v)), (o_telling_firstPlace, .inl (o_telling_firstPlace_c, o_telling_firstPlace_n, .inl o_telling_firstPlace_v)), (o_telling_byCode, .inl (o_telling_byCode_c, o_telling_byCode_n, .inl o_telling_byCode_v)), (o_in, .inr (0, [.int o_in_all, .int o_in_taken, .ref o_in_row])), (o_in_row, .inr (6, [.ref o_in_row_bytes, .int o_in_row_size])), (o_in_row_bytes, .inl (o_in_row_bytes_c, o_in_row_bytes_n, .inl o_in_row_bytes_v)), (o_row, .inl (o_row_c, o_row_n, .inl o_row_v))] sz)) 0 0 (va_A [(o, .inr (9, [.ref o_in, .ref o_unpacked, .ref o_symbols, .ref o_distances, .ref o_telling, .ref o_row])), (o_telling, .inr (2, [.ref o_telling_lengths, .ref o_telling_codes, .ref o_telling_byCode, .ref o_telling_ofLength, .ref o_telling_firstCode, .ref o_telling_firstPlace, .ref o_telling_given, .int o_telling_longest])), (o_telling_firstCode, .inl (o_telling_firstCode_c, o_telling_firstCode_n, .inl o_telling_firstCode_v)), (o_telling_ofLength, .inl (o_telling_ofLength_c, o_telling_ofLength_n, .inl o_telling_ofLength_v)), (o_telling_firstPlace, .inl (o_telling_firstPlace_c, o_telling_firstPlace_n, .inl o_telling_firstPlace_v)), (o_telling_byCode, .inl (o_telling_byCode_c, o_telling_byCode_n, .inl o_telling_byCode_v)), (o_in, .inr (0, [.int o_in_all, .int o_in_taken, .ref o_in_row])), (o_in_row, .inr (6, [.ref o_in_row_bytes, .int o_in_row_size])), (o_in_row_bytes, .inl (o_in_row_bytes_c, o_in_row_bytes_n, .inl o_in_row_bytes_v)), (o_row, .inl (o_row_c, o_row_n, .inl o_row_v))] sz) := by
  refine fb_meti (ty := .int) (by decide) (Nat.le_of_ble_eq_true rfl) (fun p e s m args below meth c A Q ls H hx hb hml hown hts hP hK hN hZ hD hA hS hret hl => ?_)
  replace hl : lv_has ls 8 [(0, .ref o), (1, .int x1)] := hl
  have wB118 : ∀ (K4 : Int32 → (Nat → Int32) → Int32 → Int32 → Option (Int32 × Int32 × (Nat → Int32))), (∀ (o_in_taken : Int32) (o_row_v : Nat → Int32) (x2 : Int32) (x3 : Int32) (H : Heap) (locs : List Loc) (ls : Array Slot), va_P (dC, dI) fb_cl [(o, .inr (9, [.ref o_in, .ref o_unpacked, .ref o_symbols, .ref o_distances, .ref o_telling, .ref o_row])), (o_telling, .inr (2, [.ref o_telling_lengths, .ref o_telling_codes, .ref o_telling_byCode, .ref o_telling_ofLength, .ref o_telling_firstCode, .ref o_telling_firstPlace, .ref o_telling_given, .int o_telling_longest])), (o_telling_firstCode, .inl (o_telling_firstCode_c, o_telling_firstCode_n, .inl o_telling_firstCode_v)), (o_telling_ofLength, .inl (o_telling_ofLength_c, o_telling_ofLength_n, .inl o_telling_ofLength_v)), (o_telling_firstPlace, .inl (o_telling_firstPlace_c, o_telling_firstPlace_n, .inl o_telling_firstPlace_v)), (o_telling_byCode, .inl (o_telling_byCode_c, o_telling_byCode_n, .inl o_telling_byCode_v)), (o_in, .inr (0, [.int o_in_all, .int o_in_taken, .ref o_in_row])), (o_in_row, .inr (6, [.ref o_in_row_bytes, .int o_in_row_size])), (o_in_row_bytes, .inl (o_in_row_bytes_c, o_in_row_bytes_n, .inl o_in_row_bytes_v)), (o_row, .inl (o_row_c, o_row_n, .inl o_row_v))] H → va_D A [(o, .inr (9, [.ref o_in, .ref o_unpacked, .ref o_symbols, .ref o_distances, .ref o_telling, .ref o_row])), (o_telling, .inr (2, [.ref o_telling_lengths, .ref o_telling_codes, .ref o_telling_byCode, .ref o_telling_ofLength, .ref o_telling_firstCode, .ref o_telling_firstPlace, .ref o_telling_given, .int o_telling_longest])), (o_telling_firstCode, .inl (o_telling_firstCode_c, o_telling_firstCode_n, .inl o_telling_firstCode_v)), (o_telling_ofLength, .inl (o_telling_ofLength_c, o_telling_ofLength_n, .inl o_telling_ofLength_v)), (o_telling_firstPlace, .inl (o_telling_firstPlace_c, o_telling_firstPlace_n, .inl o_telling_firstPlace_v)), (o_telling_byCode, .inl (o_telling_byCode_c, o_telling_byCode_n, .inl o_telling_byCode_v)), (o_in, .inr (0, [.int o_in_all, .int o_in_taken, .ref o_in_row])), (o_in_row, .inr (6, [.ref o_in_row_bytes, .int o_in_row_size])), (o_in_row_bytes, .inl (o_in_row_bytes_c, o_in_row_bytes_n, .inl o_in_row_bytes_v)), (o_row, .inl (o_row_c, o_row_n, .inl o_row_v))] → va_S A s.heap H locs → lv_has ls 8 [(0, .ref o), (1, .int x1), (2, .int x2), (3, .int x3)] → K4 o_in_taken o_row_v x2 x3 = some u → W p l e ({ frames := 2, cells := 0, slots := 0, locals := 46 }) s m args below meth c H locs 0 0 Q (F0 m 4 ls [])) → ∀ (o_in_taken : Int32) (o_row_v : Nat → Int32) (x2 : Int32) (x3 : Int32) (x6 : Int32) (t0 : Int32) (H : Heap) (locs : List Loc) (ls : Array Slot), va_P (dC, dI) fb_cl [(o, .inr (9, [.ref o_in, .ref o_unpacked, .ref o_symbols, .ref o_distances, .ref o_telling, .ref o_row])), (o_telling, .inr (2, [.ref o_telling_lengths, .ref o_telling_codes, .ref o_telling_byCode, .ref o_telling_ofLength, .ref o_telling_firstCode, .ref o_telling_firstPlace, .ref o_telling_given, .int o_telling_longest])), (o_telling_firstCode, .inl (o_telling_firstCode_c, o_telling_firstCode_n, .inl o_telling_firstCode_v)), (o_telling_ofLength, .inl (o_telling_ofLength_c, o_telling_ofLength_n, .inl o_telling_ofLength_v)), (o_telling_firstPlace, .inl (o_telling_firstPlace_c, o_telling_firstPlace_n, .inl o_telling_firstPlace_v)), (o_telling_byCode, .inl (o_telling_byCode_c, o_telling_byCode_n, .inl o_telling_byCode_v)), (o_in, .inr (0, [.int o_in_all, .int o_in_taken, .ref o_in_row])), (o_in_row, .inr (6, [.ref o_in_row_bytes, .int o_in_row_size])), (o_in_row_bytes, .inl (o_in_row_bytes_c, o_in_row_bytes_n, .inl o_in_row_bytes_v)), (o_row, .inl (o_row_c, o_row_n, .inl o_row_v))] H → va_D A [(o, .inr (9, [.ref o_in, .ref o_unpacked, .ref o_symbols, .ref o_distances, .ref o_telling, .ref o_row])), (o_telling, .inr (2, [.ref o_telling_lengths, .ref o_telling_codes, .ref o_telling_byCode, .ref o_telling_ofLength, .ref o_telling_firstCode, .ref o_telling_firstPlace, .ref o_telling_given, .int o_telling_longest])), (o_telling_firstCode, .inl (o_telling_firstCode_c, o_telling_firstCode_n, .inl o_telling_firstCode_v)), (o_telling_ofLength, .inl (o_telling_ofLength_c, o_telling_ofLength_n, .inl o_telling_ofLength_v)), (o_telling_firstPlace, .inl (o_telling_firstPlace_c, o_telling_firstPlace_n, .inl o_telling_firstPlace_v)), (o_telling_byCode, .inl (o_telling_byCode_c, o_telling_byCode_n, .inl o_telling_byCode_v)), (o_in, .inr (0, [.int o_in_all, .int o_in_taken, .ref o_in_row])), (o_in_row, .inr (6, [.ref o_in_row_bytes, .int o_in_row_size])), (o_in_row_bytes, .inl (o_in_row_bytes_c, o_in_row_bytes_n, .inl o_in_row_bytes_v)), (o_row, .inl (o_row_c, o_row_n, .inl o_row_v))] → va_S A s.heap H locs → lv_has ls 8 [(0, .ref o), (1, .int x1), (2, .int x2), (3, .int x3), (6, .int x6)] → pX9_readLengths_b118 o_row_n K4 o_in_taken o_row_v x2 x3 x6 t0 = some u → W p l e ({ frames := 2, cells := 0, slots := 0, locals := 46 }) s m args below meth c H locs 0 0 Q (F0 m 118 ls [.int t0]) := by
    intro K4 hK4 o_in_taken o_row_v x2 x3 x6 t0 H locs ls hP hD hS hl h
    unfold pX9_readLengths_b118 at h
    refine lv_istore (lv' := [(7, .int t0), (0, .ref o), (1, .int x1), (2, .int x2), (3, .int x3), (6, .int x6)]) hx hb dX9_readLengths_118 hl (by decide) rfl (fun ls hl => ?_)
    refine lv_aload_n hx hb dX9_readLengths_120 rfl (lv_at hl 1 rfl) ?_
    refine va_get (D := (dC, dI)) (ci := 9) (v := .ref o_row) (C := RX9) (T := TX9) (N := 6) hx hb hts i_X9 hown hK hP 0 rfl rfl 5 (by decide) (hts _ k_369) (fun _ h9 => h9) rfl dX9_readLengths_121 ?_
    refine lv_iload_n hx hb dX9_readLengths_124 rfl (lv_at hl 3 rfl) ?_
    refine lv_iload_n hx hb dX9_readLengths_125 rfl (lv_at hl 3 rfl) ?_
    refine lv_iload hx hb dX9_readLengths_126 (lv_at hl 5 rfl) ?_
    refine lv_iadd hx hb dX9_readLengths_128 ?_
    refine lv_iload hx hb dX9_readLengths_129 (lv_at hl 0 rfl) ?_
    obtain ⟨u1, e1, h⟩ := fb_b h
    refine fb_cv (wc := [(o_row, .inl (o_row_c, o_row_n, .inl o_row_v))]) (wr := [(o, .inr (9, [.ref o_in, .ref o_unpacked, .ref o_symbols, .ref o_distances, .ref o_telling, .ref o_row])), (o_telling, .inr (2, [.ref o_telling_lengths, .ref o_telling_codes, .ref o_telling_byCode, .ref o_telling_ofLength, .ref o_telling_firstCode, .ref o_telling_firstPlace, .ref o_telling_given, .int o_telling_longest])), (o_telling_firstCode, .inl (o_telling_firstCode_c, o_telling_firstCode_n, .inl o_telling_firstCode_v)), (o_telling_ofLength, .inl (o_telling_ofLength_c, o_telling_ofLength_n, .inl o_telling_ofLength_v)), (o_telling_firstPlace, .inl (o_telling_firstPlace_c, o_telling_firstPlace_n, .inl o_telling_firstPlace_v)), (o_telling_byCode, .inl (o_telling_byCode_c, o_telling_byCode_n, .inl o_telling_byCode_v)), (o_in, .inr (0, [.int o_in_all, .int o_in_taken, .ref o_in_row])), (o_in_row, .inr (6, [.ref o_in_row_bytes, .int o_in_row_size])), (o_in_row_bytes, .inl (o_in_row_bytes_c, o_in_row_bytes_n, .inl o_in_row_bytes_v))]) (w1 := [(o_row, .inl (o_row_c, o_row_n, .inl u1))]) (ws' := [(o, .inr (9, [.ref o_in, .ref o_unpacked, .ref o_symbols, .ref o_distances, .ref o_telling, .ref o_row])), (o_telling, .inr (2, [.ref o_telling_lengths, .ref o_telling_codes, .ref o_telling_byCode, .ref o_telling_ofLength, .ref o_telling_firstCode, .ref o_telling_firstPlace, .ref o_telling_given, .int o_telling_longest])), (o_telling_firstCode, .inl (o_telling_firstCode_c, o_telling_firstCode_n, .inl o_telling_firstCode_v)), (o_telling_ofLength, .inl (o_telling_ofLength_c, o_telling_ofLength_n, .inl o_telling_ofLength_v)), (o_telling_firstPlace, .inl (o_telling_firstPlace_c, o_telling_firstPlace_n, .inl o_telling_firstPlace_v)), (o_telling_byCode, .inl (o_telling_byCode_c, o_telling_byCode_n, .inl o_telling_byCode_v)), (o_in, .inr (0, [.int o_in_all, .int o_in_taken, .ref o_in_row])), (o_in_row, .inr (6, [.ref o_in_row_bytes, .int o_in_row_size])), (o_in_row_bytes, .inl (o_in_row_bytes_c, o_in_row_bytes_n, .inl o_in_row_bytes_v)), (o_row, .inl (o_row_c, o_row_n, .inl u1))]) (va_runS (As := [.ref o_row, .int x2, .int (x2 + x6), .int t0]) (rest := []) ⟨hx, hb, hml, hown, hts⟩ (mJ7_fill_fda19 l dC dI o_row o_row_c o_row_n o_row_v x2 (x2 + x6) t0 H.size u1 e1) (va_cwS 4 hts (fb_GSx k_764 k_715 k_75 k_716) rfl rfl rfl hdJ7_fill_fda19 ⟨Nat.le_of_ble_eq_true rfl, Nat.le_of_ble_eq_true rfl⟩) (fb_pS hP hD hS hA hK hN hZ [9] rfl rfl [5] rfl) rfl rfl hl.1 rfl (lv_room (Nat.le_of_ble_eq_true rfl)) dX9_readLengths_131 ⟨Nat.le_of_ble_eq_true rfl, Nat.le_of_ble_eq_true rfl⟩) hP hD hS hA [9] [0, 1, 2, 3, 4, 5, 6, 7, 8] rfl rfl rfl (by decide) [0, 1, 2, 3, 4, 5, 6, 7, 8, 9] rfl rfl (fun H locs hP hD hS => ?_)
    refine lv_iload_n hx hb dX9_readLengths_134 rfl (lv_at hl 3 rfl) ?_
    refine lv_iload hx hb dX9_readLengths_135 (lv_at hl 5 rfl) ?_
    refine lv_iadd hx hb dX9_readLengths_137 ?_
    refine lv_istore_n (lv' := [(2, .int (x2 + x6)), (7, .int t0), (0, .ref o), (1, .int x1), (3, .int x3), (6, .int x6)]) hx hb dX9_readLengths_138 rfl hl (by decide) rfl (fun ls hl => ?_)
    refine lv_iinc (v := (x3 + (1 : Int32))) (lv' := [(3, .int (x3 + (1 : Int32))), (2, .int (x2 + x6)), (7, .int t0), (0, .ref o), (1, .int x1), (6, .int x6)]) hx hb dX9_readLengths_139 hl (k := 4) rfl rfl (by decide) rfl (fun ls hl => ?_)
    refine lv_goto (tgt := 4) hx hb dX9_readLengths_142 (by decide) ?_
    exact hK4 o_in_taken u1 (x2 + x6) (x3 + (1 : Int32)) _ _ _ hP hD hS (lv_sub hl [3, 4, 1, 0] rfl) h
  have wB77 : ∀ (K4 : Int32 → (Nat → Int32) → Int32 → Int32 → Option (Int32 × Int32 × (Nat → Int32))), (∀ (o_in_taken : Int32) (o_row_v : Nat → Int32) (x2 : Int32) (x3 : Int32) (H : Heap) (locs : List Loc) (ls : Array Slot), va_P (dC, dI) fb_cl [(o, .inr (9, [.ref o_in, .ref o_unpacked, .ref o_symbols, .ref o_distances, .ref o_telling, .ref o_row])), (o_telling, .inr (2, [.ref o_telling_lengths, .ref o_telling_codes, .ref o_telling_byCode, .ref o_telling_ofLength, .ref o_telling_firstCode, .ref o_telling_firstPlace, .ref o_telling_given, .int o_telling_longest])), (o_telling_firstCode, .inl (o_telling_firstCode_c, o_telling_firstCode_n, .inl o_telling_firstCode_v)), (o_telling_ofLength, .inl (o_telling_ofLength_c, o_telling_ofLength_n, .inl o_telling_ofLength_v)), (o_telling_firstPlace, .inl (o_telling_firstPlace_c, o_telling_firstPlace_n, .inl o_telling_firstPlace_v)), (o_telling_byCode, .inl (o_telling_byCode_c, o_telling_byCode_n, .inl o_telling_byCode_v)), (o_in, .inr (0, [.int o_in_all, .int o_in_taken, .ref o_in_row])), (o_in_row, .inr (6, [.ref o_in_row_bytes, .int o_in_row_size])), (o_in_row_bytes, .inl (o_in_row_bytes_c, o_in_row_bytes_n, .inl o_in_row_bytes_v)), (o_row, .inl (o_row_c, o_row_n, .inl o_row_v))] H → va_D A [(o, .inr (9, [.ref o_in, .ref o_unpacked, .ref o_symbols, .ref o_distances, .ref o_telling, .ref o_row])), (o_telling, .inr (2, [.ref o_telling_lengths, .ref o_telling_codes, .ref o_telling_byCode, .ref o_telling_ofLength, .ref o_telling_firstCode, .ref o_telling_firstPlace, .ref o_telling_given, .int o_telling_longest])), (o_telling_firstCode, .inl (o_telling_firstCode_c, o_telling_firstCode_n, .inl o_telling_firstCode_v)), (o_telling_ofLength, .inl (o_telling_ofLength_c, o_telling_ofLength_n, .inl o_telling_ofLength_v)), (o_telling_firstPlace, .inl (o_telling_firstPlace_c, o_telling_firstPlace_n, .inl o_telling_firstPlace_v)), (o_telling_byCode, .inl (o_telling_byCode_c, o_telling_byCode_n, .inl o_telling_byCode_v)), (o_in, .inr (0, [.int o_in_all, .int o_in_taken, .ref o_in_row])), (o_in_row, .inr (6, [.ref o_in_row_bytes, .int o_in_row_size])), (o_in_row_bytes, .inl (o_in_row_bytes_c, o_in_row_bytes_n, .inl o_in_row_bytes_v)), (o_row, .inl (o_row_c, o_row_n, .inl o_row_v))] → va_S A s.heap H locs → lv_has ls 8 [(0, .ref o), (1, .int x1), (2, .int x2), (3, .int x3)] → K4 o_in_taken o_row_v x2 x3 = some u → W p l e ({ frames := 2, cells := 0, slots := 0, locals := 46 }) s m args below meth c H locs 0 0 Q (F0 m 4 ls [])) → ∀ (o_in_taken : Int32) (o_row_v : Nat → Int32) (x2 : Int32) (x3 : Int32) (x4 : Int32) (x6 : Int32) (H : Heap) (locs : List Loc) (ls : Array Slot), va_P (dC, dI) fb_cl [(o, .inr (9, [.ref o_in, .ref o_unpacked, .ref o_symbols, .ref o_distances, .ref o_telling, .ref o_row])), (o_telling, .inr (2, [.ref o_telling_lengths, .ref o_telling_codes, .ref o_telling_byCode, .ref o_telling_ofLength, .ref o_telling_firstCode, .ref o_telling_firstPlace, .ref o_telling_given, .int o_telling_longest])), (o_telling_firstCode, .inl (o_telling_firstCode_c, o_telling_firstCode_n, .inl o_telling_firstCode_v)), (o_telling_ofLength, .inl (o_telling_ofLength_c, o_telling_ofLength_n, .inl o_telling_ofLength_v)), (o_telling_firstPlace, .inl (o_telling_firstPlace_c, o_telling_firstPlace_n, .inl o_telling_firstPlace_v)), (o_telling_byCode, .inl (o_telling_byCode_c, o_telling_byCode_n, .inl o_telling_byCode_v)), (o_in, .inr (0, [.int o_in_all, .int o_in_taken, .ref o_in_row])), (o_in_row, .inr (6, [.ref o_in_row_bytes, .int o_in_row_size])), (o_in_row_bytes, .inl (o_in_row_bytes_c, o_in_row_bytes_n, .inl o_in_row_bytes_v)), (o_row, .inl (o_row_c, o_row_n, .inl o_row_v))] H → va_D A [(o, .inr (9, [.ref o_in, .ref o_unpacked, .ref o_symbols, .ref o_distances, .ref o_telling, .ref o_row])), (o_telling, .inr (2, [.ref o_telling_lengths, .ref o_telling_codes, .ref o_telling_byCode, .ref o_telling_ofLength, .ref o_telling_firstCode, .ref o_telling_firstPlace, .ref o_telling_given, .int o_telling_longest])), (o_telling_firstCode, .inl (o_telling_firstCode_c, o_telling_firstCode_n, .inl o_telling_firstCode_v)), (o_telling_ofLength, .inl (o_telling_ofLength_c, o_telling_ofLength_n, .inl o_telling_ofLength_v)), (o_telling_firstPlace, .inl (o_telling_firstPlace_c, o_telling_firstPlace_n, .inl o_telling_firstPlace_v)), (o_telling_byCode, .inl (o_telling_byCode_c, o_telling_byCode_n, .inl o_telling_byCode_v)), (o_in, .inr (0, [.int o_in_all, .int o_in_taken, .ref o_in_row])), (o_in_row, .inr (6, [.ref o_in_row_bytes, .int o_in_row_size])), (o_in_row_bytes, .inl (o_in_row_bytes_c, o_in_row_bytes_n, .inl o_in_row_bytes_v)), (o_row, .inl (o_row_c, o_row_n, .inl o_row_v))] → va_S A s.heap H locs → lv_has ls 8 [(0, .ref o), (1, .int x1), (2, .int x2), (3, .int x3), (4, .int x4), (6, .int x6)] → pX9_readLengths_b77 o_row_n x1 K4 o_in_taken o_row_v x2 x3 x4 x6 = some u → W p l e ({ frames := 2, cells := 0, slots := 0, locals := 46 }) s m args below meth c H locs 0 0 Q (F0 m 77 ls []) := by
    intro K4 hK4 o_in_taken o_row_v x2 x3 x4 x6 H locs ls hP hD hS hl h
    unfold pX9_readLengths_b77 at h
    refine lv_iload hx hb dX9_readLengths_77 (lv_at hl 5 rfl) ?_
    refine lv_iload_n hx hb dX9_readLengths_79 rfl (lv_at hl 1 rfl) ?_
    refine lv_iload_n hx hb dX9_readLengths_80 rfl (lv_at hl 2 rfl) ?_
    refine lv_isub hx hb dX9_readLengths_81 ?_
    refine lv_icmp_le (tgt := 87) hx hb dX9_readLengths_82 (by decide) (fun c2 => ?_) (fun c2 => ?_)
    · replace h := fb_t c2 h
      refine lv_iload hx hb dX9_readLengths_87 (lv_at hl 4 rfl) ?_
      refine lv_bipush (v := (16 : Int32)) hx hb dX9_readLengths_89 (by decide) ?_
      refine lv_icmp_ge (tgt := 99) hx hb dX9_readLengths_91 (by decide) (fun c3 => ?_) (fun c3 => ?_)
      · replace h := fb_t c3 h
        refine lv_iload hx hb dX9_readLengths_99 (lv_at hl 4 rfl) ?_
        refine lv_bipush (v := (16 : Int32)) hx hb dX9_readLengths_101 (by decide) ?_
        refine lv_icmp_ne (tgt := 117) hx hb dX9_readLengths_103 (by decide) (fun c4 => ?_) (fun c4 => ?_)
        · replace h := fb_f c4 h
          refine lv_iconst (v := (0 : Int32)) hx hb dX9_readLengths_117 (by decide) ?_
          exact wB118 K4 hK4 o_in_taken o_row_v x2 x3 x6 (0 : Int32) _ _ _ hP hD hS (lv_sub hl [0, 1, 2, 3, 5] rfl) h
        · replace h := fb_t c4 h
          refine lv_aload_n hx hb dX9_readLengths_106 rfl (lv_at hl 0 rfl) ?_
          refine va_get (D := (dC, dI)) (ci := 9) (v := .ref o_row) (C := RX9) (T := TX9) (N := 6) hx hb hts i_X9 hown hK hP 0 rfl rfl 5 (by decide) (hts _ k_369) (fun _ h9 => h9) rfl dX9_readLengths_107 ?_
          refine lv_iload_n hx hb dX9_readLengths_110 rfl (lv_at hl 2 rfl) ?_
          refine lv_iconst (v := (1 : Int32)) hx hb dX9_readLengths_111 (by decide) ?_
          refine lv_isub hx hb dX9_readLengths_112 ?_
          obtain ⟨g5, h⟩ := fb_g h
          refine va_iald hx hb hK hP 9 5 rfl rfl g5 dX9_readLengths_113 ?_
          refine lv_goto (tgt := 118) hx hb dX9_readLengths_114 (by decide) ?_
          exact wB118 K4 hK4 o_in_taken o_row_v x2 x3 x6 (o_row_v ((x2 - (1 : Int32))).toNatClampNeg) _ _ _ hP hD hS (lv_sub hl [0, 1, 2, 3, 5] rfl) h
      · replace h := fb_f c3 h
        refine lv_iload hx hb dX9_readLengths_94 (lv_at hl 4 rfl) ?_
        refine lv_goto (tgt := 118) hx hb dX9_readLengths_96 (by decide) ?_
        exact wB118 K4 hK4 o_in_taken o_row_v x2 x3 x6 x4 _ _ _ hP hD hS (lv_sub hl [0, 1, 2, 3, 5] rfl) h
    · replace h := fb_f c2 h
      refine lv_iconst (v := (4 : Int32)) hx hb dX9_readLengths_85 (by decide) ?_
      have hu := Option.some.inj h
      exact hret _ _ _ _ _ dX9_readLengths_86 rfl (by rw [← hu]) (by rw [← hu]; exact hP) (by rw [← hu]; exact hD) hS
  have wB4 : ∀ n : Nat, ∀ (o_in_taken : Int32) (o_row_v : Nat → Int32) (x2 : Int32) (x3 : Int32) (H : Heap) (locs : List Loc) (ls : Array Slot), va_P (dC, dI) fb_cl [(o, .inr (9, [.ref o_in, .ref o_unpacked, .ref o_symbols, .ref o_distances, .ref o_telling, .ref o_row])), (o_telling, .inr (2, [.ref o_telling_lengths, .ref o_telling_codes, .ref o_telling_byCode, .ref o_telling_ofLength, .ref o_telling_firstCode, .ref o_telling_firstPlace, .ref o_telling_given, .int o_telling_longest])), (o_telling_firstCode, .inl (o_telling_firstCode_c, o_telling_firstCode_n, .inl o_telling_firstCode_v)), (o_telling_ofLength, .inl (o_telling_ofLength_c, o_telling_ofLength_n, .inl o_telling_ofLength_v)), (o_telling_firstPlace, .inl (o_telling_firstPlace_c, o_telling_firstPlace_n, .inl o_telling_firstPlace_v)), (o_telling_byCode, .inl (o_telling_byCode_c, o_telling_byCode_n, .inl o_telling_byCode_v)), (o_in, .inr (0, [.int o_in_all, .int o_in_taken, .ref o_in_row])), (o_in_row, .inr (6, [.ref o_in_row_bytes, .int o_in_row_size])), (o_in_row_bytes, .inl (o_in_row_bytes_c, o_in_row_bytes_n, .inl o_in_row_bytes_v)), (o_row, .inl (o_row_c, o_row_n, .inl o_row_v))] H → va_D A [(o, .inr (9, [.ref o_in, .ref o_unpacked, .ref o_symbols, .ref o_distances, .ref o_telling, .ref o_row])), (o_telling, .inr (2, [.ref o_telling_lengths, .ref o_telling_codes, .ref o_telling_byCode, .ref o_telling_ofLength, .ref o_telling_firstCode, .ref o_telling_firstPlace, .ref o_telling_given, .int o_telling_longest])), (o_telling_firstCode, .inl (o_telling_firstCode_c, o_telling_firstCode_n, .inl o_telling_firstCode_v)), (o_telling_ofLength, .inl (o_telling_ofLength_c, o_telling_ofLength_n, .inl o_telling_ofLength_v)), (o_telling_firstPlace, .inl (o_telling_firstPlace_c, o_telling_firstPlace_n, .inl o_telling_firstPlace_v)), (o_telling_byCode, .inl (o_telling_byCode_c, o_telling_byCode_n, .inl o_telling_byCode_v)), (o_in, .inr (0, [.int o_in_all, .int o_in_taken, .ref o_in_row])), (o_in_row, .inr (6, [.ref o_in_row_bytes, .int o_in_row_size])), (o_in_row_bytes, .inl (o_in_row_bytes_c, o_in_row_bytes_n, .inl o_in_row_bytes_v)), (o_row, .inl (o_row_c, o_row_n, .inl o_row_v))] → va_S A s.heap H locs → lv_has ls 8 [(0, .ref o), (1, .int x1), (2, .int x2), (3, .int x3)] → pX9_readLengths_b4 o_telling_firstCode_n o_telling_ofLength_n o_telling_firstPlace_n o_telling_byCode_n o_in_row_bytes_n o_row_n o_telling_longest o_telling_firstCode_v o_telling_ofLength_v o_telling_firstPlace_v o_telling_byCode_v o_in_all o_in_row_bytes_v x1 n o_in_taken o_row_v x2 x3 = some u → W p l e ({ frames := 2, cells := 0, slots := 0, locals := 46 }) s m args below meth c H locs 0 0 Q (F0 m 4 ls []) := by
    intro n
    induction n with
    | zero => intro o_in_taken o_row_v x2 x3 H locs ls hP hD hS hl h; cases h
    | succ n ih =>
      intro o_in_taken o_row_v x2 x3 H locs ls hP hD hS hl h
      rw [pX9_readLengths_b4] at h
      refine lv_iload_n hx hb dX9_readLengths_4 rfl (lv_at hl 3 rfl) ?_
      refine lv_iload_n hx hb dX9_readLengths_5 rfl (lv_at hl 1 rfl) ?_
      refine lv_icmp_ge (tgt := 145) hx hb dX9_readLengths_6 (by decide) (fun c6 => ?_) (fun c6 => ?_)
      · replace h := fb_t c6 h
        refine lv_iconst (v := (0 : Int32)) hx hb dX9_readLengths_145 (by decide) ?_
        have hu := Option.some.inj h
        exact hret _ _ _ _ _ dX9_readLengths_146 rfl (by rw [← hu]) (by rw [← hu]; exact hP) (by rw [← hu]; exact hD) hS
      · replace h := fb_f c6 h
        refine lv_iload_n hx hb dX9_readLengths_9 rfl (lv_at hl 2 rfl) ?_
        refine lv_iload_n hx hb dX9_readLengths_10 rfl (lv_at hl 1 rfl) ?_
        refine lv_icmp_ge (tgt := 145) hx hb dX9_readLengths_11 (by decide) (fun c7 => ?_) (fun c7 => ?_)
        · replace h := fb_t c7 h
          refine lv_iconst (v := (0 : Int32)) hx hb dX9_readLengths_145 (by decide) ?_
          have hu := Option.some.inj h
          exact hret _ _ _ _ _ dX9_readLengths_146 rfl (by rw [← hu]) (by rw [← hu]; exact hP) (by rw [← hu]; exact hD) hS
        · replace h := fb_f c7 h
          refine lv_aload_n hx hb dX9_readLengths_14 rfl (lv_at hl 0 rfl) ?_
          refine va_get (D := (dC, dI)) (ci := 9) (v := .ref o_telling) (C := RX9) (T := TX9) (N := 6) hx hb hts i_X9 hown hK hP 0 rfl rfl 4 (by decide) (hts _ k_368) (fun _ h9 => h9) rfl dX9_readLengths_15 ?_
          refine lv_aload_n hx hb dX9_readLengths_18 rfl (lv_at hl 0 rfl) ?_
          refine va_get (D := (dC, dI)) (ci := 9) (v := .ref o_in) (C := RX9) (T := TX9) (N := 6) hx hb hts i_X9 hown hK hP 0 rfl rfl 0 (by decide) (hts _ k_364) (fun _ h9 => h9) rfl dX9_readLengths_19 ?_
          obtain ⟨u8, e8, h⟩ := fb_b h
          refine fb_ci (wc := [(o_telling, .inr (2, [.ref o_telling_lengths, .ref o_telling_codes, .ref o_telling_byCode, .ref o_telling_ofLength, .ref o_telling_firstCode, .ref o_telling_firstPlace, .ref o_telling_given, .int o_telling_longest])), (o_telling_firstCode, .inl (o_telling_firstCode_c, o_telling_firstCode_n, .inl o_telling_firstCode_v)), (o_telling_ofLength, .inl (o_telling_ofLength_c, o_telling_ofLength_n, .inl o_telling_ofLength_v)), (o_telling_firstPlace, .inl (o_telling_firstPlace_c, o_telling_firstPlace_n, .inl o_telling_firstPlace_v)), (o_telling_byCode, .inl (o_telling_byCode_c, o_telling_byCode_n, .inl o_telling_byCode_v)), (o_in, .inr (0, [.int o_in_all, .int o_in_taken, .ref o_in_row])), (o_in_row, .inr (6, [.ref o_in_row_bytes, .int o_in_row_size])), (o_in_row_bytes, .inl (o_in_row_bytes_c, o_in_row_bytes_n, .inl o_in_row_bytes_v))]) (wr := [(o, .inr (9, [.ref o_in, .ref o_unpacked, .ref o_symbols, .ref o_distances, .ref o_telling, .ref o_row])), (o_row, .inl (o_row_c, o_row_n, .inl o_row_v))]) (w1 := [(o_telling, .inr (2, [.ref o_telling_lengths, .ref o_telling_codes, .ref o_telling_byCode, .ref o_telling_ofLength, .ref o_telling_firstCode, .ref o_telling_firstPlace, .ref o_telling_given, .int o_telling_longest])), (o_telling_firstCode, .inl (o_telling_firstCode_c, o_telling_firstCode_n, .inl o_telling_firstCode_v)), (o_telling_ofLength, .inl (o_telling_ofLength_c, o_telling_ofLength_n, .inl o_telling_ofLength_v)), (o_telling_firstPlace, .inl (o_telling_firstPlace_c, o_telling_firstPlace_n, .inl o_telling_firstPlace_v)), (o_telling_byCode, .inl (o_telling_byCode_c, o_telling_byCode_n, .inl o_telling_byCode_v)), (o_in, .inr (0, [.int o_in_all, .int u8.2, .ref o_in_row])), (o_in_row, .inr (6, [.ref o_in_row_bytes, .int o_in_row_size])), (o_in_row_bytes, .inl (o_in_row_bytes_c, o_in_row_bytes_n, .inl o_in_row_bytes_v))]) (ws' := [(o, .inr (9, [.ref o_in, .ref o_unpacked, .ref o_symbols, .ref o_distances, .ref o_telling, .ref o_row])), (o_telling, .inr (2, [.ref o_telling_lengths, .ref o_telling_codes, .ref o_telling_byCode, .ref o_telling_ofLength, .ref o_telling_firstCode, .ref o_telling_firstPlace, .ref o_telling_given, .int o_telling_longest])), (o_telling_firstCode, .inl (o_telling_firstCode_c, o_telling_firstCode_n, .inl o_telling_firstCode_v)), (o_telling_ofLength, .inl (o_telling_ofLength_c, o_telling_ofLength_n, .inl o_telling_ofLength_v)), (o_telling_firstPlace, .inl (o_telling_firstPlace_c, o_telling_firstPlace_n, .inl o_telling_firstPlace_v)), (o_telling_byCode, .inl (o_telling_byCode_c, o_telling_byCode_n, .inl o_telling_byCode_v)), (o_in, .inr (0, [.int o_in_all, .int u8.2, .ref o_in_row])), (o_in_row, .inr (6, [.ref o_in_row_bytes, .int o_in_row_size])), (o_in_row_bytes, .inl (o_in_row_bytes_c, o_in_row_bytes_n, .inl o_in_row_bytes_v)), (o_row, .inl (o_row_c, o_row_n, .inl o_row_v))]) (va_runV (As := [.ref o_in]) (rest := []) ⟨hx, hb, hml, hown, hts⟩ (mX2_read l dC dI o_telling o_in o_telling_firstCode o_telling_ofLength o_telling_firstPlace o_telling_byCode o_in_row o_in_row_bytes o_telling_lengths o_telling_codes o_telling_given o_telling_firstCode_c o_telling_ofLength_c o_telling_firstPlace_c o_telling_byCode_c o_in_row_bytes_c o_telling_firstCode_n o_telling_ofLength_n o_telling_firstPlace_n o_telling_byCode_n o_in_row_bytes_n o_telling_longest o_telling_firstCode_v o_telling_ofLength_v o_telling_firstPlace_v o_telling_byCode_v o_in_all o_in_taken o_in_row_size o_in_row_bytes_v H.size u8 e8) (cwV 1 hts (fb_GV k_725 k_726 k_727 k_67 k_728) rfl rfl rfl hdX2_read ⟨Nat.le_of_ble_eq_true rfl, Nat.le_of_ble_eq_true rfl⟩) (fb_pV hP hD hS hA hK hN hZ [1, 2, 3, 4, 5, 6, 7, 8] rfl rfl [0, 1, 2, 3, 4] rfl (q0 := 1) (ci := 2) rfl rfl) rfl rfl hl.1 rfl (lv_room (Nat.le_of_ble_eq_true rfl)) dX9_readLengths_22 ⟨Nat.le_of_ble_eq_true rfl, Nat.le_of_ble_eq_true rfl⟩) hP hD hS hA [1, 2, 3, 4, 5, 6, 7, 8] [0, 9] rfl rfl rfl (by decide) [0, 2, 3, 4, 5, 6, 7, 8, 9, 1] rfl rfl (fun H locs hP hD hS => ?_)
          refine lv_istore (lv' := [(4, .int u8.1), (0, .ref o), (1, .int x1), (2, .int x2), (3, .int x3)]) hx hb dX9_readLengths_25 hl (by decide) rfl (fun ls hl => ?_)
          refine lv_iload hx hb dX9_readLengths_27 (lv_at hl 0 rfl) ?_
          refine lv_if_ge (tgt := 36) hx hb dX9_readLengths_29 (by decide) (fun c9 => ?_) (fun c9 => ?_)
          · replace h := fb_t c9 h
            refine lv_aload_n hx hb dX9_readLengths_36 rfl (lv_at hl 1 rfl) ?_
            refine va_get (D := (dC, dI)) (ci := 9) (v := .ref o_in) (C := RX9) (T := TX9) (N := 6) hx hb hts i_X9 hown hK hP 0 rfl rfl 0 (by decide) (hts _ k_364) (fun _ h9 => h9) rfl dX9_readLengths_37 ?_
            refine lv_iload hx hb dX9_readLengths_40 (lv_at hl 0 rfl) ?_
            obtain ⟨u10, e10, h⟩ := fb_b h
            refine fb_ci (wc := []) (wr := [(o, .inr (9, [.ref o_in, .ref o_unpacked, .ref o_symbols, .ref o_distances, .ref o_telling, .ref o_row])), (o_telling, .inr (2, [.ref o_telling_lengths, .ref o_telling_codes, .ref o_telling_byCode, .ref o_telling_ofLength, .ref o_telling_firstCode, .ref o_telling_firstPlace, .ref o_telling_given, .int o_telling_longest])), (o_telling_firstCode, .inl (o_telling_firstCode_c, o_telling_firstCode_n, .inl o_telling_firstCode_v)), (o_telling_ofLength, .inl (o_telling_ofLength_c, o_telling_ofLength_n, .inl o_telling_ofLength_v)), (o_telling_firstPlace, .inl (o_telling_firstPlace_c, o_telling_firstPlace_n, .inl o_telling_firstPlace_v)), (o_telling_byCode, .inl (o_telling_byCode_c, o_telling_byCode_n, .inl o_telling_byCode_v)), (o_in, .inr (0, [.int o_in_all, .int u8.2, .ref o_in_row])), (o_in_row, .inr (6, [.ref o_in_row_bytes, .int o_in_row_size])), (o_in_row_bytes, .inl (o_in_row_bytes_c, o_in_row_bytes_n, .inl o_in_row_bytes_v)), (o_row, .inl (o_row_c, o_row_n, .inl o_row_v))]) (w1 := []) (ws' := [(o, .inr (9, [.ref o_in, .ref o_unpacked, .ref o_symbols, .ref o_distances, .ref o_telling, .ref o_row])), (o_telling, .inr (2, [.ref o_telling_lengths, .ref o_telling_codes, .ref o_telling_byCode, .ref o_telling_ofLength, .ref o_telling_firstCode, .ref o_telling_firstPlace, .ref o_telling_given, .int o_telling_longest])), (o_telling_firstCode, .inl (o_telling_firstCode_c, o_telling_firstCode_n, .inl o_telling_firstCode_v)), (o_telling_ofLength, .inl (o_telling_ofLength_c, o_telling_ofLength_n, .inl o_telling_ofLength_v)), (o_telling_firstPlace, .inl (o_telling_firstPlace_c, o_telling_firstPlace_n, .inl o_telling_firstPlace_v)), (o_telling_byCode, .inl (o_telling_byCode_c, o_telling_byCode_n, .inl o_telling_byCode_v)), (o_in, .inr (0, [.int o_in_all, .int u8.2, .ref o_in_row])), (o_in_row, .inr (6, [.ref o_in_row_bytes, .int o_in_row_size])), (o_in_row_bytes, .inl (o_in_row_bytes_c, o_in_row_bytes_n, .inl o_in_row_bytes_v)), (o_row, .inl (o_row_c, o_row_n, .inl o_row_v))]) (va_runS (As := [.int u8.1]) (rest := [.ref o_in]) ⟨hx, hb, hml, hown, hts⟩ (mX7_numberBitsOf l dC dI u8.1 H.size u10 e10) (va_cwS 1 hts (fb_GSx k_760 k_575 k_68 k_576) rfl rfl rfl hdX7_numberBitsOf ⟨Nat.le_of_ble_eq_true rfl, Nat.le_of_ble_eq_true rfl⟩) (fb_pS hP hD hS hA hK hN hZ [] rfl rfl [] rfl) rfl rfl hl.1 rfl (lv_room (Nat.le_of_ble_eq_true rfl)) dX9_readLengths_42 ⟨Nat.le_of_ble_eq_true rfl, Nat.le_of_ble_eq_true rfl⟩) hP hD hS hA [] [0, 1, 2, 3, 4, 5, 6, 7, 8, 9] rfl rfl rfl (by decide) [0, 1, 2, 3, 4, 5, 6, 7, 8, 9] rfl rfl (fun H locs hP hD hS => ?_)
            obtain ⟨u11, e11, h⟩ := fb_b h
            refine fb_ci (wc := [(o_in, .inr (0, [.int o_in_all, .int u8.2, .ref o_in_row])), (o_in_row, .inr (6, [.ref o_in_row_bytes, .int o_in_row_size])), (o_in_row_bytes, .inl (o_in_row_bytes_c, o_in_row_bytes_n, .inl o_in_row_bytes_v))]) (wr := [(o, .inr (9, [.ref o_in, .ref o_unpacked, .ref o_symbols, .ref o_distances, .ref o_telling, .ref o_row])), (o_telling, .inr (2, [.ref o_telling_lengths, .ref o_telling_codes, .ref o_telling_byCode, .ref o_telling_ofLength, .ref o_telling_firstCode, .ref o_telling_firstPlace, .ref o_telling_given, .int o_telling_longest])), (o_telling_firstCode, .inl (o_telling_firstCode_c, o_telling_firstCode_n, .inl o_telling_firstCode_v)), (o_telling_ofLength, .inl (o_telling_ofLength_c, o_telling_ofLength_n, .inl o_telling_ofLength_v)), (o_telling_firstPlace, .inl (o_telling_firstPlace_c, o_telling_firstPlace_n, .inl o_telling_firstPlace_v)), (o_telling_byCode, .inl (o_telling_byCode_c, o_telling_byCode_n, .inl o_telling_byCode_v)), (o_row, .inl (o_row_c, o_row_n, .inl o_row_v))]) (w1 := [(o_in, .inr (0, [.int o_in_all, .int u11.2, .ref o_in_row])), (o_in_row, .inr (6, [.ref o_in_row_bytes, .int o_in_row_size])), (o_in_row_bytes, .inl (o_in_row_bytes_c, o_in_row_bytes_n, .inl o_in_row_bytes_v))]) (ws' := [(o, .inr (9, [.ref o_in, .ref o_unpacked, .ref o_symbols, .ref o_distances, .ref o_telling, .ref o_row])), (o_telling, .inr (2, [.ref o_telling_lengths, .ref o_telling_codes, .ref o_telling_byCode, .ref o_telling_ofLength, .ref o_telling_firstCode, .ref o_telling_firstPlace, .ref o_telling_given, .int o_telling_longest])), (o_telling_firstCode, .inl (o_telling_firstCode_c, o_telling_firstCode_n, .inl o_telling_firstCode_v)), (o_telling_ofLength, .inl (o_telling_ofLength_c, o_telling_ofLength_n, .inl o_telling_ofLength_v)), (o_telling_firstPlace, .inl (o_telling_firstPlace_c, o_telling_firstPlace_n, .inl o_telling_firstPlace_v)), (o_telling_byCode, .inl (o_telling_byCode_c, o_telling_byCode_n, .inl o_telling_byCode_v)), (o_in, .inr (0, [.int o_in_all, .int u11.2, .ref o_in_row])), (o_in_row, .inr (6, [.ref o_in_row_bytes, .int o_in_row_size])), (o_in_row_bytes, .inl (o_in_row_bytes_c, o_in_row_bytes_n, .inl o_in_row_bytes_v)), (o_row, .inl (o_row_c, o_row_n, .inl o_row_v))]) (va_runV (As := [.int u10]) (rest := []) ⟨hx, hb, hml, hown, hts⟩ (mX0_number l dC dI o_in o_in_row o_in_row_bytes o_in_row_bytes_c o_in_row_bytes_n o_in_all u8.2 o_in_row_size o_in_row_bytes_v u10 H.size u11 e11) (cwV 1 hts (fb_GV k_684 k_685 k_686 k_73 k_687) rfl rfl rfl hdX0_number ⟨Nat.le_of_ble_eq_true rfl, Nat.le_of_ble_eq_true rfl⟩) (fb_pV hP hD hS hA hK hN hZ [6, 7, 8] rfl rfl [4] rfl (q0 := 6) (ci := 0) rfl rfl) rfl rfl hl.1 rfl (lv_room (Nat.le_of_ble_eq_true rfl)) dX9_readLengths_45 ⟨Nat.le_of_ble_eq_true rfl, Nat.le_of_ble_eq_true rfl⟩) hP hD hS hA [6, 7, 8] [0, 1, 2, 3, 4, 5, 9] rfl rfl rfl (by decide) [0, 1, 2, 3, 4, 5, 7, 8, 9, 6] rfl rfl (fun H locs hP hD hS => ?_)
            refine lv_istore (lv' := [(5, .int u11.1), (4, .int u8.1), (0, .ref o), (1, .int x1), (2, .int x2), (3, .int x3)]) hx hb dX9_readLengths_48 hl (by decide) rfl (fun ls hl => ?_)
            refine lv_iload hx hb dX9_readLengths_50 (lv_at hl 0 rfl) ?_
            refine lv_if_ge (tgt := 57) hx hb dX9_readLengths_52 (by decide) (fun c12 => ?_) (fun c12 => ?_)
            · replace h := fb_t c12 h
              refine lv_iload hx hb dX9_readLengths_57 (lv_at hl 1 rfl) ?_
              refine lv_iload hx hb dX9_readLengths_59 (lv_at hl 0 rfl) ?_
              obtain ⟨u13, e13, h⟩ := fb_b h
              refine fb_ci (wc := []) (wr := [(o, .inr (9, [.ref o_in, .ref o_unpacked, .ref o_symbols, .ref o_distances, .ref o_telling, .ref o_row])), (o_telling, .inr (2, [.ref o_telling_lengths, .ref o_telling_codes, .ref o_telling_byCode, .ref o_telling_ofLength, .ref o_telling_firstCode, .ref o_telling_firstPlace, .ref o_telling_given, .int o_telling_longest])), (o_telling_firstCode, .inl (o_telling_firstCode_c, o_telling_firstCode_n, .inl o_telling_firstCode_v)), (o_telling_ofLength, .inl (o_telling_ofLength_c, o_telling_ofLength_n, .inl o_telling_ofLength_v)), (o_telling_firstPlace, .inl (o_telling_firstPlace_c, o_telling_firstPlace_n, .inl o_telling_firstPlace_v)), (o_telling_byCode, .inl (o_telling_byCode_c, o_telling_byCode_n, .inl o_telling_byCode_v)), (o_in, .inr (0, [.int o_in_all, .int u11.2, .ref o_in_row])), (o_in_row, .inr (6, [.ref o_in_row_bytes, .int o_in_row_size])), (o_in_row_bytes, .inl (o_in_row_bytes_c, o_in_row_bytes_n, .inl o_in_row_bytes_v)), (o_row, .inl (o_row_c, o_row_n, .inl o_row_v))]) (w1 := []) (ws' := [(o, .inr (9, [.ref o_in, .ref o_unpacked, .ref o_symbols, .ref o_distances, .ref o_telling, .ref o_row])), (o_telling, .inr (2, [.ref o_telling_lengths, .ref o_telling_codes, .ref o_telling_byCode, .ref o_telling_ofLength, .ref o_telling_firstCode, .ref o_telling_firstPlace, .ref o_telling_given, .int o_telling_longest])), (o_telling_firstCode, .inl (o_telling_firstCode_c, o_telling_firstCode_n, .inl o_telling_firstCode_v)), (o_telling_ofLength, .inl (o_telling_ofLength_c, o_telling_ofLength_n, .inl o_telling_ofLength_v)), (o_telling_firstPlace, .inl (o_telling_firstPlace_c, o_telling_firstPlace_n, .inl o_telling_firstPlace_v)), (o_telling_byCode, .inl (o_telling_byCode_c, o_telling_byCode_n, .inl o_telling_byCode_v)), (o_in, .inr (0, [.int o_in_all, .int u11.2, .ref o_in_row])), (o_in_row, .inr (6, [.ref o_in_row_bytes, .int o_in_row_size])), (o_in_row_bytes, .inl (o_in_row_bytes_c, o_in_row_bytes_n, .inl o_in_row_bytes_v)), (o_row, .inl (o_row_c, o_row_n, .inl o_row_v))]) (va_runS (As := [.int u8.1, .int u11.1]) (rest := []) ⟨hx, hb, hml, hown, hts⟩ (mX9_timesOf l dC dI u8.1 u11.1 H.size u13 e13) (va_cwS 2 hts (fb_GSx k_761 k_762 k_72 k_763) rfl rfl rfl hdX9_timesOf ⟨Nat.le_of_ble_eq_true rfl, Nat.le_of_ble_eq_true rfl⟩) (fb_pS hP hD hS hA hK hN hZ [] rfl rfl [] rfl) rfl rfl hl.1 rfl (lv_room (Nat.le_of_ble_eq_true rfl)) dX9_readLengths_61 ⟨Nat.le_of_ble_eq_true rfl, Nat.le_of_ble_eq_true rfl⟩) hP hD hS hA [] [0, 1, 2, 3, 4, 5, 6, 7, 8, 9] rfl rfl rfl (by decide) [0, 1, 2, 3, 4, 5, 6, 7, 8, 9] rfl rfl (fun H locs hP hD hS => ?_)
              refine lv_istore (lv' := [(6, .int u13), (5, .int u11.1), (4, .int u8.1), (0, .ref o), (1, .int x1), (2, .int x2), (3, .int x3)]) hx hb dX9_readLengths_64 hl (by decide) rfl (fun ls hl => ?_)
              refine lv_iload hx hb dX9_readLengths_66 (lv_at hl 2 rfl) ?_
              refine lv_bipush (v := (16 : Int32)) hx hb dX9_readLengths_68 (by decide) ?_
              refine lv_icmp_ne (tgt := 77) hx hb dX9_readLengths_70 (by decide) (fun c14 => ?_) (fun c14 => ?_)
              · replace h := fb_f c14 h
                exact wB77 (pX9_readLengths_b4 o_telling_firstCode_n o_telling_ofLength_n o_telling_firstPlace_n o_telling_byCode_n o_in_row_bytes_n o_row_n o_telling_longest o_telling_firstCode_v o_telling_ofLength_v o_telling_firstPlace_v o_telling_byCode_v o_in_all o_in_row_bytes_v x1 n) ih u11.2 o_row_v x2 x3 u8.1 u13 _ _ _ hP hD hS (lv_sub hl [3, 4, 5, 6, 2, 0] rfl) h
              · replace h := fb_t c14 h
                refine lv_iload_n hx hb dX9_readLengths_73 rfl (lv_at hl 5 rfl) ?_
                refine lv_if_eq (tgt := 85) hx hb dX9_readLengths_74 (by decide) (fun c15 => ?_) (fun c15 => ?_)
                · replace h := fb_t c15 h
                  refine lv_iconst (v := (4 : Int32)) hx hb dX9_readLengths_85 (by decide) ?_
                  have hu := Option.some.inj h
                  exact hret _ _ _ _ _ dX9_readLengths_86 rfl (by rw [← hu]) (by rw [← hu]; exact hP) (by rw [← hu]; exact hD) hS
                · replace h := fb_f c15 h
                  exact wB77 (pX9_readLengths_b4 o_telling_firstCode_n o_telling_ofLength_n o_telling_firstPlace_n o_telling_byCode_n o_in_row_bytes_n o_row_n o_telling_longest o_telling_firstCode_v o_telling_ofLength_v o_telling_firstPlace_v o_telling_byCode_v o_in_all o_in_row_bytes_v x1 n) ih u11.2 o_row_v x2 x3 u8.1 u13 _ _ _ hP hD hS (lv_sub hl [3, 4, 5, 6, 2, 0] rfl) h
            · replace h := fb_f c12 h
              refine lv_iconst (v := (1 : Int32)) hx hb dX9_readLengths_55 (by decide) ?_
              have hu := Option.some.inj h
              exact hret _ _ _ _ _ dX9_readLengths_56 rfl (by rw [← hu]) (by rw [← hu]; exact hP) (by rw [← hu]; exact hD) hS
          · replace h := fb_f c9 h
            refine lv_iload hx hb dX9_readLengths_32 (lv_at hl 0 rfl) ?_
            refine lv_ineg hx hb dX9_readLengths_34 ?_
            have hu := Option.some.inj h
            exact hret _ _ _ _ _ dX9_readLengths_35 rfl (by rw [← hu]) (by rw [← hu]; exact hP) (by rw [← hu]; exact hD) hS
  unfold pX9_readLengths at h
  refine lv_iconst (v := (0 : Int32)) hx hb dX9_readLengths_0 (by decide) ?_
  refine lv_istore_n (lv' := [(2, .int (0 : Int32)), (0, .ref o), (1, .int x1)]) hx hb dX9_readLengths_1 rfl hl (by decide) rfl (fun ls hl => ?_)
  refine lv_iconst (v := (0 : Int32)) hx hb dX9_readLengths_2 (by decide) ?_
  refine lv_istore_n (lv' := [(3, .int (0 : Int32)), (2, .int (0 : Int32)), (0, .ref o), (1, .int x1)]) hx hb dX9_readLengths_3 rfl hl (by decide) rfl (fun ls hl => ?_)
  exact wB4 fb_F o_in_taken o_row_v (0 : Int32) (0 : Int32) _ _ _ hP hD hS (lv_sub hl [2, 3, 1, 0] rfl) h
