theorem dX0_start_0 : decode cX0_start 0 = .ok (.aload_n 0, 1) := by decide +kernel
theorem dX0_start_1 : decode cX0_start 1 = .ok (.bipush 8, 2) := by decide +kernel
theorem dX0_start_3 : decode cX0_start 3 = .ok (.aload_n 0, 1) := by decide +kernel
theorem dX0_start_4 : decode cX0_start 4 = .ok (.getfield 9, 3) := by decide +kernel
theorem dX0_start_7 : decode cX0_start 7 = .ok (.getfield 15, 3) := by decide +kernel
theorem dX0_start_10 : decode cX0_start 10 = .ok (.imul, 1) := by decide +kernel
theorem dX0_start_11 : decode cX0_start 11 = .ok (.putfield 21, 3) := by decide +kernel
theorem dX0_start_14 : decode cX0_start 14 = .ok (.aload_n 0, 1) := by decide +kernel
theorem dX0_start_15 : decode cX0_start 15 = .ok (.iconst 0, 1) := by decide +kernel
theorem dX0_start_16 : decode cX0_start 16 = .ok (.putfield 24, 3) := by decide +kernel
theorem dX0_start_19 : decode cX0_start 19 = .ok (.return_, 1) := by decide +kernel
def pX0_start (o_row_size : Int32)   : Option (Int32 × Int32) :=
  some (((8 : Int32) * o_row_size), (0 : Int32))
theorem hdX0_start : yX0_start.cls = RX0 ∧ yX0_start.cls ≠ "java/lang/invoke/MethodHandle" ∧ yX0_start.cls ≠ "java/lang/invoke/VarHandle" ∧ (parseMethodDescriptor yX0_start.desc).map (fun d => d.parameters.length) = some 0 := by decide +kernel
set_option maxHeartbeats 8000000 in
set_option maxRecDepth 100000 in
theorem mX0_start (l : Launch) (dC : Nat → ClassId) (dI : Nat → Nat → Nat) (o : Nat) (o_row : Nat) (o_row_bytes : Nat)   (o_all : Int32) (o_taken : Int32) (o_row_size : Int32)  (sz : Nat) (u : Int32 × Int32) (h : pX0_start o_row_size = some u) : Met l yX0_start (Cond.code yX0_start cX0_start 1 none :: fb_tb) ({ frames := 0, cells := 0, slots := 0, locals := 0 }) (fb_Pc (dC, dI) [.ref o] sz [] [(o, .inr (0, [.int o_all, .int o_taken, .ref o_row])), (o_row, .inr (6, [.ref o_row_bytes, .int o_row_size]))]) (fb_Qv (dC, dI) [(o, .inr (0, [.int u.1, .int u.2, .ref o_row])), (o_row, .inr (6, [.ref o_row_bytes, .int o_row_size]))] (va_A [(o, .inr (0, [.int o_all, .int o_taken, .ref o_row])), (o_row, .inr (6, [.ref o_row_bytes, .int o_row_size]))] sz)) 0 0 (va_A [(o, .inr (0, [.int o_all, .int o_taken, .ref o_row])), (o_row, .inr (6, [.ref o_row_bytes, .int o_row_size]))] sz) := by
  refine fb_metv (by decide) (Nat.le_of_ble_eq_true rfl) (fun p e s m args below meth c A Q ls H hx hb hml hown hts hP hK hN hZ hD hA hS hret hl => ?_)
  replace hl : lv_has ls 1 [(0, .ref o)] := hl
  unfold pX0_start at h
  refine lv_aload_n hx hb dX0_start_0 rfl (lv_at hl 0 rfl) ?_
  refine lv_bipush (v := (8 : Int32)) hx hb dX0_start_1 (by decide) ?_
  refine lv_aload_n hx hb dX0_start_3 rfl (lv_at hl 0 rfl) ?_
  refine va_get (D := (dC, dI)) (ci := 0) (v := .ref o_row) (C := RX0) (T := TX0) (N := 3) hx hb hts i_X0 hown hK hP 0 rfl rfl 2 (by decide) (hts _ k_356) (fun _ h9 => h9) rfl dX0_start_4 ?_
  refine va_get (D := (dC, dI)) (ci := 6) (v := .int o_row_size) (C := RX6) (T := TX6) (N := 2) hx hb hts i_X6 hown hK hP 1 rfl rfl 1 (by decide) (hts _ k_105) (fun _ h9 => h9) rfl dX0_start_7 ?_
  refine lv_imul hx hb dX0_start_10 ?_
  refine va_put (D := (dC, dI)) (ci := 0) (v := .int ((8 : Int32) * o_row_size)) (ty := .int) (C := RX0) (T := TX0) (N := 3) hx hb hts i_X0 tyX0 tyX0_ok nmX0 hown hK hP hD hS 0 rfl rfl 0 (by decide) (hts _ k_352) (fun _ h9 => h9) rfl (by decide +kernel) rfl rfl (Nat.le_of_ble_eq_true rfl) dX0_start_11 (fun H locs hP hD hS => ?_)
  replace hP : va_P (dC, dI) fb_cl [(o, .inr (0, [.int ((8 : Int32) * o_row_size), .int o_taken, .ref o_row])), (o_row, .inr (6, [.ref o_row_bytes, .int o_row_size]))] H := hP
  replace hD : va_D A [(o, .inr (0, [.int ((8 : Int32) * o_row_size), .int o_taken, .ref o_row])), (o_row, .inr (6, [.ref o_row_bytes, .int o_row_size]))] := hD
  refine lv_aload_n hx hb dX0_start_14 rfl (lv_at hl 0 rfl) ?_
  refine lv_iconst (v := (0 : Int32)) hx hb dX0_start_15 (by decide) ?_
  refine va_put (D := (dC, dI)) (ci := 0) (v := .int (0 : Int32)) (ty := .int) (C := RX0) (T := TX0) (N := 3) hx hb hts i_X0 tyX0 tyX0_ok nmX0 hown hK hP hD hS 0 rfl rfl 1 (by decide) (hts _ k_355) (fun _ h9 => h9) rfl (by decide +kernel) rfl rfl (Nat.le_of_ble_eq_true rfl) dX0_start_16 (fun H locs hP hD hS => ?_)
  replace hP : va_P (dC, dI) fb_cl [(o, .inr (0, [.int ((8 : Int32) * o_row_size), .int (0 : Int32), .ref o_row])), (o_row, .inr (6, [.ref o_row_bytes, .int o_row_size]))] H := hP
  replace hD : va_D A [(o, .inr (0, [.int ((8 : Int32) * o_row_size), .int (0 : Int32), .ref o_row])), (o_row, .inr (6, [.ref o_row_bytes, .int o_row_size]))] := hD
  have hu := Option.some.inj h
  exact hret _ _ _ _ dX0_start_19 (by rw [← hu]; exact hP) (by rw [← hu]; exact hD) hS
theorem dX0_next_0 : decode cX0_next 0 = .ok (.aload_n 0, 1) := by decide +kernel
theorem dX0_next_1 : decode cX0_next 1 = .ok (.getfield 24, 3) := by decide +kernel
theorem dX0_next_4 : decode cX0_next 4 = .ok (.aload_n 0, 1) := by decide +kernel
theorem dX0_next_5 : decode cX0_next 5 = .ok (.getfield 21, 3) := by decide +kernel
theorem dX0_next_8 : decode cX0_next 8 = .ok (.if_icmp .lt 5, 3) := by decide +kernel
theorem dX0_next_11 : decode cX0_next 11 = .ok (.iconst (-1), 1) := by decide +kernel
theorem dX0_next_12 : decode cX0_next 12 = .ok (.ireturn, 1) := by decide +kernel
theorem dX0_next_13 : decode cX0_next 13 = .ok (.aload_n 0, 1) := by decide +kernel
theorem dX0_next_14 : decode cX0_next 14 = .ok (.getfield 9, 3) := by decide +kernel
theorem dX0_next_17 : decode cX0_next 17 = .ok (.getfield 27, 3) := by decide +kernel
theorem dX0_next_20 : decode cX0_next 20 = .ok (.aload_n 0, 1) := by decide +kernel
theorem dX0_next_21 : decode cX0_next 21 = .ok (.getfield 24, 3) := by decide +kernel
theorem dX0_next_24 : decode cX0_next 24 = .ok (.bipush 8, 2) := by decide +kernel
theorem dX0_next_26 : decode cX0_next 26 = .ok (.idiv, 1) := by decide +kernel
theorem dX0_next_27 : decode cX0_next 27 = .ok (.baload, 1) := by decide +kernel
theorem dX0_next_28 : decode cX0_next 28 = .ok (.aload_n 0, 1) := by decide +kernel
theorem dX0_next_29 : decode cX0_next 29 = .ok (.getfield 24, 3) := by decide +kernel
theorem dX0_next_32 : decode cX0_next 32 = .ok (.bipush 8, 2) := by decide +kernel
theorem dX0_next_34 : decode cX0_next 34 = .ok (.irem, 1) := by decide +kernel
theorem dX0_next_35 : decode cX0_next 35 = .ok (.ishr, 1) := by decide +kernel
theorem dX0_next_36 : decode cX0_next 36 = .ok (.iconst 1, 1) := by decide +kernel
theorem dX0_next_37 : decode cX0_next 37 = .ok (.iand, 1) := by decide +kernel
theorem dX0_next_38 : decode cX0_next 38 = .ok (.istore_n 1, 1) := by decide +kernel
theorem dX0_next_39 : decode cX0_next 39 = .ok (.aload_n 0, 1) := by decide +kernel
theorem dX0_next_40 : decode cX0_next 40 = .ok (.dup, 1) := by decide +kernel
theorem dX0_next_41 : decode cX0_next 41 = .ok (.getfield 24, 3) := by decide +kernel
theorem dX0_next_44 : decode cX0_next 44 = .ok (.iconst 1, 1) := by decide +kernel
theorem dX0_next_45 : decode cX0_next 45 = .ok (.iadd, 1) := by decide +kernel
theorem dX0_next_46 : decode cX0_next 46 = .ok (.putfield 24, 3) := by decide +kernel
theorem dX0_next_49 : decode cX0_next 49 = .ok (.iload_n 1, 1) := by decide +kernel
theorem dX0_next_50 : decode cX0_next 50 = .ok (.ireturn, 1) := by decide +kernel
def pX0_next (o_row_bytes_n : Nat) (o_all : Int32) (o_row_bytes_v : Nat → Int32)  (o_taken : Int32) : Option (Int32 × Int32) :=
  if o_taken < o_all then
  (if (o_taken / (8 : Int32)) < 0 ∨ o_row_bytes_n ≤ ((o_taken / (8 : Int32))).toNatClampNeg then none else
  some ((((o_row_bytes_v ((o_taken / (8 : Int32))).toNatClampNeg) >>> ((o_taken - o_taken / (8 : Int32) * (8 : Int32)) &&& 31)) &&& (1 : Int32)), (o_taken + (1 : Int32))))
  else
  (some ((-1 : Int32), o_taken))
theorem hdX0_next : yX0_next.cls = RX0 ∧ yX0_next.cls ≠ "java/lang/invoke/MethodHandle" ∧ yX0_next.cls ≠ "java/lang/invoke/VarHandle" ∧ (parseMethodDescriptor yX0_next.desc).map (fun d => d.parameters.length) = some 0 := by decide +kernel
set_option maxHeartbeats 8000000 in
set_option maxRecDepth 100000 in
theorem mX0_next (l : Launch) (dC : Nat → ClassId) (dI : Nat → Nat → Nat) (o : Nat) (o_row : Nat) (o_row_bytes : Nat) (o_row_bytes_c : ClassId) (o_row_bytes_n : Nat) (o_all : Int32) (o_taken : Int32) (o_row_size : Int32) (o_row_bytes_v : Nat → Int32)  (sz : Nat) (u : Int32 × Int32) (h : pX0_next o_row_bytes_n o_all o_row_bytes_v o_taken = some u) : Met l yX0_next (Cond.code yX0_next cX0_next 2 (some .int) :: fb_tb) ({ frames := 0, cells := 0, slots := 0, locals := 0 }) (fb_Pc (dC, dI) [.ref o] sz [(o_row_bytes_c, .byte)] [(o, .inr (0, [.int o_all, .int o_taken, .ref o_row])), (o_row, .inr (6, [.ref o_row_bytes, .int o_row_size])), (o_row_bytes, .inl (o_row_bytes_c, o_row_bytes_n, .inl o_row_bytes_v))]) (fb_Qi (dC, dI) u.1 [(o, .inr (0, [.int o_all, .int u.2, .ref o_row])), (o_row, .inr (6, [.ref o_row_bytes, .int o_row_size])), (o_row_bytes, .inl (o_row_bytes_c, o_row_bytes_n, .inl o_row_bytes_v))] (va_A [(o, .inr (0, [.int o_all, .int o_taken, .ref o_row])), (o_row, .inr (6, [.ref o_row_bytes, .int o_row_size])), (o_row_bytes, .inl (o_row_bytes_c, o_row_bytes_n, .inl o_row_bytes_v))] sz)) 0 0 (va_A [(o, .inr (0, [.int o_all, .int o_taken, .ref o_row])), (o_row, .inr (6, [.ref o_row_bytes, .int o_row_size])), (o_row_bytes, .inl (o_row_bytes_c, o_row_bytes_n, .inl o_row_bytes_v))] sz) := by
  refine fb_meti (ty := .int) (by decide) (Nat.le_of_ble_eq_true rfl) (fun p e s m args below meth c A Q ls H hx hb hml hown hts hP hK hN hZ hD hA hS hret hl => ?_)
  replace hl : lv_has ls 2 [(0, .ref o)] := hl
  unfold pX0_next at h
  refine lv_aload_n hx hb dX0_next_0 rfl (lv_at hl 0 rfl) ?_
  refine va_get (D := (dC, dI)) (ci := 0) (v := .int o_taken) (C := RX0) (T := TX0) (N := 3) hx hb hts i_X0 hown hK hP 0 rfl rfl 1 (by decide) (hts _ k_355) (fun _ h9 => h9) rfl dX0_next_1 ?_
  refine lv_aload_n hx hb dX0_next_4 rfl (lv_at hl 0 rfl) ?_
  refine va_get (D := (dC, dI)) (ci := 0) (v := .int o_all) (C := RX0) (T := TX0) (N := 3) hx hb hts i_X0 hown hK hP 0 rfl rfl 0 (by decide) (hts _ k_352) (fun _ h9 => h9) rfl dX0_next_5 ?_
  refine lv_icmp_lt (tgt := 13) hx hb dX0_next_8 (by decide) (fun c1 => ?_) (fun c1 => ?_)
  · replace h := fb_t c1 h
    refine lv_aload_n hx hb dX0_next_13 rfl (lv_at hl 0 rfl) ?_
    refine va_get (D := (dC, dI)) (ci := 0) (v := .ref o_row) (C := RX0) (T := TX0) (N := 3) hx hb hts i_X0 hown hK hP 0 rfl rfl 2 (by decide) (hts _ k_356) (fun _ h9 => h9) rfl dX0_next_14 ?_
    refine va_get (D := (dC, dI)) (ci := 6) (v := .ref o_row_bytes) (C := RX6) (T := TX6) (N := 2) hx hb hts i_X6 hown hK hP 1 rfl rfl 0 (by decide) (hts _ k_103) (fun _ h9 => h9) rfl dX0_next_17 ?_
    refine lv_aload_n hx hb dX0_next_20 rfl (lv_at hl 0 rfl) ?_
    refine va_get (D := (dC, dI)) (ci := 0) (v := .int o_taken) (C := RX0) (T := TX0) (N := 3) hx hb hts i_X0 hown hK hP 0 rfl rfl 1 (by decide) (hts _ k_355) (fun _ h9 => h9) rfl dX0_next_21 ?_
    refine lv_bipush (v := (8 : Int32)) hx hb dX0_next_24 (by decide) ?_
    refine lv_idiv hx hb dX0_next_26 (by decide) ?_
    obtain ⟨g2, h⟩ := fb_g h
    refine va_bald hx hb hK hP 2 0 rfl rfl g2 dX0_next_27 ?_
    refine lv_aload_n hx hb dX0_next_28 rfl (lv_at hl 0 rfl) ?_
    refine va_get (D := (dC, dI)) (ci := 0) (v := .int o_taken) (C := RX0) (T := TX0) (N := 3) hx hb hts i_X0 hown hK hP 0 rfl rfl 1 (by decide) (hts _ k_355) (fun _ h9 => h9) rfl dX0_next_29 ?_
    refine lv_bipush (v := (8 : Int32)) hx hb dX0_next_32 (by decide) ?_
    refine lv_irem hx hb dX0_next_34 (by decide) ?_
    refine lv_ishr hx hb dX0_next_35 ?_
    refine lv_iconst (v := (1 : Int32)) hx hb dX0_next_36 (by decide) ?_
    refine lv_iand hx hb dX0_next_37 ?_
    refine lv_istore_n (lv' := [(1, .int (((o_row_bytes_v ((o_taken / (8 : Int32))).toNatClampNeg) >>> ((o_taken - o_taken / (8 : Int32) * (8 : Int32)) &&& 31)) &&& (1 : Int32))), (0, .ref o)]) hx hb dX0_next_38 rfl hl (by decide) rfl (fun ls hl => ?_)
    refine lv_aload_n hx hb dX0_next_39 rfl (lv_at hl 1 rfl) ?_
    refine lv_dup hx hb dX0_next_40 rfl ?_
    refine va_get (D := (dC, dI)) (ci := 0) (v := .int o_taken) (C := RX0) (T := TX0) (N := 3) hx hb hts i_X0 hown hK hP 0 rfl rfl 1 (by decide) (hts _ k_355) (fun _ h9 => h9) rfl dX0_next_41 ?_
    refine lv_iconst (v := (1 : Int32)) hx hb dX0_next_44 (by decide) ?_
    refine lv_iadd hx hb dX0_next_45 ?_
    refine va_put (D := (dC, dI)) (ci := 0) (v := .int (o_taken + (1 : Int32))) (ty := .int) (C := RX0) (T := TX0) (N := 3) hx hb hts i_X0 tyX0 tyX0_ok nmX0 hown hK hP hD hS 0 rfl rfl 1 (by decide) (hts _ k_355) (fun _ h9 => h9) rfl (by decide +kernel) rfl rfl (Nat.le_of_ble_eq_true rfl) dX0_next_46 (fun H locs hP hD hS => ?_)
    replace hP : va_P (dC, dI) fb_cl [(o, .inr (0, [.int o_all, .int (o_taken + (1 : Int32)), .ref o_row])), (o_row, .inr (6, [.ref o_row_bytes, .int o_row_size])), (o_row_bytes, .inl (o_row_bytes_c, o_row_bytes_n, .inl o_row_bytes_v))] H := hP
    replace hD : va_D A [(o, .inr (0, [.int o_all, .int (o_taken + (1 : Int32)), .ref o_row])), (o_row, .inr (6, [.ref o_row_bytes, .int o_row_size])), (o_row_bytes, .inl (o_row_bytes_c, o_row_bytes_n, .inl o_row_bytes_v))] := hD
    refine lv_iload_n hx hb dX0_next_49 rfl (lv_at hl 0 rfl) ?_
    have hu := Option.some.inj h
    exact hret _ _ _ _ _ dX0_next_50 rfl (by rw [← hu]) (by rw [← hu]; exact hP) (by rw [← hu]; exact hD) hS
  · replace h := fb_f c1 h
    refine lv_iconst (v := (-1 : Int32)) hx hb dX0_next_11 (by decide) ?_
    have hu := Option.some.inj h
    exact hret _ _ _ _ _ dX0_next_12 rfl (by rw [← hu]) (by rw [← hu]; exact hP) (by rw [← hu]; exact hD) hS
theorem dX0_number_0 : decode cX0_number 0 = .ok (.iload_n 1, 1) := by decide +kernel
theorem dX0_number_1 : decode cX0_number 1 = .ok (.aload_n 0, 1) := by decide +kernel
theorem dX0_number_2 : decode cX0_number 2 = .ok (.getfield 21, 3) := by decide +kernel
theorem dX0_number_5 : decode cX0_number 5 = .ok (.aload_n 0, 1) := by decide +kernel
theorem dX0_number_6 : decode cX0_number 6 = .ok (.getfield 24, 3) := by decide +kernel
theorem dX0_number_9 : decode cX0_number 9 = .ok (.isub, 1) := by decide +kernel
theorem dX0_number_10 : decode cX0_number 10 = .ok (.if_icmp .le 13, 3) := by decide +kernel
theorem dX0_number_13 : decode cX0_number 13 = .ok (.aload_n 0, 1) := by decide +kernel
theorem dX0_number_14 : decode cX0_number 14 = .ok (.aload_n 0, 1) := by decide +kernel
theorem dX0_number_15 : decode cX0_number 15 = .ok (.getfield 21, 3) := by decide +kernel
theorem dX0_number_18 : decode cX0_number 18 = .ok (.putfield 24, 3) := by decide +kernel
theorem dX0_number_21 : decode cX0_number 21 = .ok (.iconst (-1), 1) := by decide +kernel
theorem dX0_number_22 : decode cX0_number 22 = .ok (.ireturn, 1) := by decide +kernel
theorem dX0_number_23 : decode cX0_number 23 = .ok (.iconst 0, 1) := by decide +kernel
theorem dX0_number_24 : decode cX0_number 24 = .ok (.istore_n 2, 1) := by decide +kernel
theorem dX0_number_25 : decode cX0_number 25 = .ok (.iconst 0, 1) := by decide +kernel
theorem dX0_number_26 : decode cX0_number 26 = .ok (.istore_n 3, 1) := by decide +kernel
theorem dX0_number_27 : decode cX0_number 27 = .ok (.iload_n 3, 1) := by decide +kernel
theorem dX0_number_28 : decode cX0_number 28 = .ok (.iload_n 1, 1) := by decide +kernel
theorem dX0_number_29 : decode cX0_number 29 = .ok (.if_icmp .ge 18, 3) := by decide +kernel
theorem dX0_number_32 : decode cX0_number 32 = .ok (.iload_n 2, 1) := by decide +kernel
theorem dX0_number_33 : decode cX0_number 33 = .ok (.aload_n 0, 1) := by decide +kernel
theorem dX0_number_34 : decode cX0_number 34 = .ok (.invokevirtual 31, 3) := by decide +kernel
theorem dX0_number_37 : decode cX0_number 37 = .ok (.iload_n 3, 1) := by decide +kernel
theorem dX0_number_38 : decode cX0_number 38 = .ok (.ishl, 1) := by decide +kernel
theorem dX0_number_39 : decode cX0_number 39 = .ok (.ior, 1) := by decide +kernel
theorem dX0_number_40 : decode cX0_number 40 = .ok (.istore_n 2, 1) := by decide +kernel
theorem dX0_number_41 : decode cX0_number 41 = .ok (.iinc 3 1, 3) := by decide +kernel
theorem dX0_number_44 : decode cX0_number 44 = .ok (.goto (-17), 3) := by decide +kernel
theorem dX0_number_47 : decode cX0_number 47 = .ok (.iload_n 2, 1) := by decide +kernel
theorem dX0_number_48 : decode cX0_number 48 = .ok (.ireturn, 1) := by decide +kernel
def pX0_number_b27 (o_row_bytes_n : Nat) (o_all : Int32) (o_row_bytes_v : Nat → Int32) (x1 : Int32)  : Nat → Int32 → Int32 → Int32 → Option (Int32 × Int32)
  | 0 => fun _ _ _ => none
  | n + 1 => fun o_taken x2 x3 =>
  if x1 ≤ x3 then
  (some (x2, o_taken))
  else
  ((pX0_next o_row_bytes_n o_all o_row_bytes_v o_taken).bind (fun u2 =>
  (pX0_number_b27 o_row_bytes_n o_all o_row_bytes_v x1 n) u2.2 (x2 ||| (u2.1 <<< (x3 &&& 31))) (x3 + (1 : Int32))))
def pX0_number (o_row_bytes_n : Nat) (o_all : Int32) (o_row_bytes_v : Nat → Int32) (x1 : Int32)  (o_taken : Int32) : Option (Int32 × Int32) :=
  if x1 ≤ (o_all - o_taken) then
  (pX0_number_b27 o_row_bytes_n o_all o_row_bytes_v x1 fb_F o_taken (0 : Int32) (0 : Int32))
  else
  (some ((-1 : Int32), o_all))
theorem hdX0_number : yX0_number.cls = RX0 ∧ yX0_number.cls ≠ "java/lang/invoke/MethodHandle" ∧ yX0_number.cls ≠ "java/lang/invoke/VarHandle" ∧ (parseMethodDescriptor yX0_number.desc).map (fun d => d.parameters.length) = some 1 := by decide +kernel
set_option maxHeartbeats 8000000 in
set_option maxRecDepth 100000 in
theorem mX0_number (l : Launch) (dC : Nat → ClassId) (dI : Nat → Nat → Nat) (o : Nat) (o_row : Nat) (o_row_bytes : Nat) (o_row_bytes_c : ClassId) (o_row_bytes_n : Nat) (o_all : Int32) (o_taken : Int32) (o_row_size : Int32) (o_row_bytes_v : Nat → Int32) (x1 : Int32) (sz : Nat) (u : Int32 × Int32) (h : pX0_number o_row_bytes_n o_all o_row_bytes_v x1 o_taken = some u) : Met l yX0_number (Cond.code yX0_number cX0_number 4 (some .int) :: fb_tb) ({ frames := 1, cells := 0, slots := 0, locals := 21 }) (fb_Pc (dC, dI) [.ref o, .int x1] sz [(o_row_bytes_c, .byte)] [(o, .inr (0, [.int o_all, .int o_taken, .ref o_row])), (o_row, .inr (6, [.ref o_row_bytes, .int o_row_size])), (o_row_bytes, .inl (o_row_bytes_c, o_row_bytes_n, .inl o_row_bytes_v))]) (fb_Qi (dC, dI) u.1 [(o, .inr (0, [.int o_all, .int u.2, .ref o_row])), (o_row, .inr (6, [.ref o_row_bytes, .int o_row_size])), (o_row_bytes, .inl (o_row_bytes_c, o_row_bytes_n, .inl o_row_bytes_v))] (va_A [(o, .inr (0, [.int o_all, .int o_taken, .ref o_row])), (o_row, .inr (6, [.ref o_row_bytes, .int o_row_size])), (o_row_bytes, .inl (o_row_bytes_c, o_row_bytes_n, .inl o_row_bytes_v))] sz)) 0 0 (va_A [(o, .inr (0, [.int o_all, .int o_taken, .ref o_row])), (o_row, .inr (6, [.ref o_row_bytes, .int o_row_size])), (o_row_bytes, .inl (o_row_bytes_c, o_row_bytes_n, .inl o_row_bytes_v))] sz) := by
  refine fb_meti (ty := .int) (by decide) (Nat.le_of_ble_eq_true rfl) (fun p e s m args below meth c A Q ls H hx hb hml hown hts hP hK hN hZ hD hA hS hret hl => ?_)
  replace hl : lv_has ls 4 [(0, .ref o), (1, .int x1)] := hl
  have wB27 : ∀ n : Nat, ∀ (o_taken : Int32) (x2 : Int32) (x3 : Int32) (H : Heap) (locs : List Loc) (ls : Array Slot), va_P (dC, dI) fb_cl [(o, .inr (0, [.int o_all, .int o_taken, .ref o_row])), (o_row, .inr (6, [.ref o_row_bytes, .int o_row_size])), (o_row_bytes, .inl (o_row_bytes_c, o_row_bytes_n, .inl o_row_bytes_v))] H → va_D A [(o, .inr (0, [.int o_all, .int o_taken, .ref o_row])), (o_row, .inr (6, [.ref o_row_bytes, .int o_row_size])), (o_row_bytes, .inl (o_row_bytes_c, o_row_bytes_n, .inl o_row_bytes_v))] → va_S A s.heap H locs → lv_has ls 4 [(0, .ref o), (1, .int x1), (2, .int x2), (3, .int x3)] → pX0_number_b27 o_row_bytes_n o_all o_row_bytes_v x1 n o_taken x2 x3 = some u → W p l e ({ frames := 1, cells := 0, slots := 0, locals := 21 }) s m args below meth c H locs 0 0 Q (F0 m 27 ls []) := by
    intro n
    induction n with
    | zero => intro o_taken x2 x3 H locs ls hP hD hS hl h; cases h
    | succ n ih =>
      intro o_taken x2 x3 H locs ls hP hD hS hl h
      rw [pX0_number_b27] at h
      refine lv_iload_n hx hb dX0_number_27 rfl (lv_at hl 3 rfl) ?_
      refine lv_iload_n hx hb dX0_number_28 rfl (lv_at hl 1 rfl) ?_
      refine lv_icmp_ge (tgt := 47) hx hb dX0_number_29 (by decide) (fun c1 => ?_) (fun c1 => ?_)
      · replace h := fb_t c1 h
        refine lv_iload_n hx hb dX0_number_47 rfl (lv_at hl 2 rfl) ?_
        have hu := Option.some.inj h
        exact hret _ _ _ _ _ dX0_number_48 rfl (by rw [← hu]) (by rw [← hu]; exact hP) (by rw [← hu]; exact hD) hS
      · replace h := fb_f c1 h
        refine lv_iload_n hx hb dX0_number_32 rfl (lv_at hl 2 rfl) ?_
        refine lv_aload_n hx hb dX0_number_33 rfl (lv_at hl 0 rfl) ?_
        obtain ⟨u2, e2, h⟩ := fb_b h
        refine fb_ci (wc := [(o, .inr (0, [.int o_all, .int o_taken, .ref o_row])), (o_row, .inr (6, [.ref o_row_bytes, .int o_row_size])), (o_row_bytes, .inl (o_row_bytes_c, o_row_bytes_n, .inl o_row_bytes_v))]) (wr := []) (w1 := [(o, .inr (0, [.int o_all, .int u2.2, .ref o_row])), (o_row, .inr (6, [.ref o_row_bytes, .int o_row_size])), (o_row_bytes, .inl (o_row_bytes_c, o_row_bytes_n, .inl o_row_bytes_v))]) (ws' := [(o, .inr (0, [.int o_all, .int u2.2, .ref o_row])), (o_row, .inr (6, [.ref o_row_bytes, .int o_row_size])), (o_row_bytes, .inl (o_row_bytes_c, o_row_bytes_n, .inl o_row_bytes_v))]) (va_runV (As := []) (rest := [.int x2]) ⟨hx, hb, hml, hown, hts⟩ (mX0_next l dC dI o o_row o_row_bytes o_row_bytes_c o_row_bytes_n o_all o_taken o_row_size o_row_bytes_v H.size u2 e2) (cwV 0 hts (fb_GV k_688 k_689 k_690 k_73 k_691) rfl rfl rfl hdX0_next ⟨Nat.le_of_ble_eq_true rfl, Nat.le_of_ble_eq_true rfl⟩) (fb_pV hP hD hS hA hK hN hZ [0, 1, 2] rfl rfl [0] rfl (q0 := 0) (ci := 0) rfl rfl) rfl rfl hl.1 rfl (lv_room (Nat.le_of_ble_eq_true rfl)) dX0_number_34 ⟨Nat.le_of_ble_eq_true rfl, Nat.le_of_ble_eq_true rfl⟩) hP hD hS hA [0, 1, 2] [] rfl rfl rfl (by decide) [0, 1, 2] rfl rfl (fun H locs hP hD hS => ?_)
        refine lv_iload_n hx hb dX0_number_37 rfl (lv_at hl 3 rfl) ?_
        refine lv_ishl hx hb dX0_number_38 ?_
        refine lv_ior hx hb dX0_number_39 ?_
        refine lv_istore_n (lv' := [(2, .int (x2 ||| (u2.1 <<< (x3 &&& 31)))), (0, .ref o), (1, .int x1), (3, .int x3)]) hx hb dX0_number_40 rfl hl (by decide) rfl (fun ls hl => ?_)
        refine lv_iinc (v := (x3 + (1 : Int32))) (lv' := [(3, .int (x3 + (1 : Int32))), (2, .int (x2 ||| (u2.1 <<< (x3 &&& 31)))), (0, .ref o), (1, .int x1)]) hx hb dX0_number_41 hl (k := 3) rfl rfl (by decide) rfl (fun ls hl => ?_)
        refine lv_goto (tgt := 27) hx hb dX0_number_44 (by decide) ?_
        exact ih u2.2 (x2 ||| (u2.1 <<< (x3 &&& 31))) (x3 + (1 : Int32)) _ _ _ hP hD hS (lv_sub hl [2, 3, 1, 0] rfl) h
  unfold pX0_number at h
  refine lv_iload_n hx hb dX0_number_0 rfl (lv_at hl 1 rfl) ?_
  refine lv_aload_n hx hb dX0_number_1 rfl (lv_at hl 0 rfl) ?_
  refine va_get (D := (dC, dI)) (ci := 0) (v := .int o_all) (C := RX0) (T := TX0) (N := 3) hx hb hts i_X0 hown hK hP 0 rfl rfl 0 (by decide) (hts _ k_352) (fun _ h9 => h9) rfl dX0_number_2 ?_
  refine lv_aload_n hx hb dX0_number_5 rfl (lv_at hl 0 rfl) ?_
  refine va_get (D := (dC, dI)) (ci := 0) (v := .int o_taken) (C := RX0) (T := TX0) (N := 3) hx hb hts i_X0 hown hK hP 0 rfl rfl 1 (by decide) (hts _ k_355) (fun _ h9 => h9) rfl dX0_number_6 ?_
  refine lv_isub hx hb dX0_number_9 ?_
  refine lv_icmp_le (tgt := 23) hx hb dX0_number_10 (by decide) (fun c3 => ?_) (fun c3 => ?_)
  · replace h := fb_t c3 h
    refine lv_iconst (v := (0 : Int32)) hx hb dX0_number_23 (by decide) ?_
    refine lv_istore_n (lv' := [(2, .int (0 : Int32)), (0, .ref o), (1, .int x1)]) hx hb dX0_number_24 rfl hl (by decide) rfl (fun ls hl => ?_)
    refine lv_iconst (v := (0 : Int32)) hx hb dX0_number_25 (by decide) ?_
    refine lv_istore_n (lv' := [(3, .int (0 : Int32)), (2, .int (0 : Int32)), (0, .ref o), (1, .int x1)]) hx hb dX0_number_26 rfl hl (by decide) rfl (fun ls hl => ?_)
    exact wB27 fb_F o_taken (0 : Int32) (0 : Int32) _ _ _ hP hD hS (lv_sub hl [2, 3, 1, 0] rfl) h
  · replace h := fb_f c3 h
    refine lv_aload_n hx hb dX0_number_13 rfl (lv_at hl 0 rfl) ?_
    refine lv_aload_n hx hb dX0_number_14 rfl (lv_at hl 0 rfl) ?_
    refine va_get (D := (dC, dI)) (ci := 0) (v := .int o_all) (C := RX0) (T := TX0) (N := 3) hx hb hts i_X0 hown hK hP 0 rfl rfl 0 (by decide) (hts _ k_352) (fun _ h9 => h9) rfl dX0_number_15 ?_
    refine va_put (D := (dC, dI)) (ci := 0) (v := .int o_all) (ty := .int) (C := RX0) (T := TX0) (N := 3) hx hb hts i_X0 tyX0 tyX0_ok nmX0 hown hK hP hD hS 0 rfl rfl 1 (by decide) (hts _ k_355) (fun _ h9 => h9) rfl (by decide +kernel) rfl rfl (Nat.le_of_ble_eq_true rfl) dX0_number_18 (fun H locs hP hD hS => ?_)
    replace hP : va_P (dC, dI) fb_cl [(o, .inr (0, [.int o_all, .int o_all, .ref o_row])), (o_row, .inr (6, [.ref o_row_bytes, .int o_row_size])), (o_row_bytes, .inl (o_row_bytes_c, o_row_bytes_n, .inl o_row_bytes_v))] H := hP
    replace hD : va_D A [(o, .inr (0, [.int o_all, .int o_all, .ref o_row])), (o_row, .inr (6, [.ref o_row_bytes, .int o_row_size])), (o_row_bytes, .inl (o_row_bytes_c, o_row_bytes_n, .inl o_row_bytes_v))] := hD
    refine lv_iconst (v := (-1 : Int32)) hx hb dX0_number_21 (by decide) ?_
    have hu := Option.some.inj h
    exact hret _ _ _ _ _ dX0_number_22 rfl (by rw [← hu]) (by rw [← hu]; exact hP) (by rw [← hu]; exact hD) hS
theorem dX0_toWholeByte_0 : decode cX0_toWholeByte 0 = .ok (.aload_n 0, 1) := by decide +kernel
theorem dX0_toWholeByte_1 : decode cX0_toWholeByte 1 = .ok (.aload_n 0, 1) := by decide +kernel
theorem dX0_toWholeByte_2 : decode cX0_toWholeByte 2 = .ok (.getfield 24, 3) := by decide +kernel
theorem dX0_toWholeByte_5 : decode cX0_toWholeByte 5 = .ok (.bipush 7, 2) := by decide +kernel
theorem dX0_toWholeByte_7 : decode cX0_toWholeByte 7 = .ok (.iadd, 1) := by decide +kernel
theorem dX0_toWholeByte_8 : decode cX0_toWholeByte 8 = .ok (.bipush 8, 2) := by decide +kernel
theorem dX0_toWholeByte_10 : decode cX0_toWholeByte 10 = .ok (.idiv, 1) := by decide +kernel
theorem dX0_toWholeByte_11 : decode cX0_toWholeByte 11 = .ok (.bipush 8, 2) := by decide +kernel
theorem dX0_toWholeByte_13 : decode cX0_toWholeByte 13 = .ok (.imul, 1) := by decide +kernel
theorem dX0_toWholeByte_14 : decode cX0_toWholeByte 14 = .ok (.putfield 24, 3) := by decide +kernel
theorem dX0_toWholeByte_17 : decode cX0_toWholeByte 17 = .ok (.return_, 1) := by decide +kernel
def pX0_toWholeByte   (o_taken : Int32) : Option (Int32) :=
  some ((((o_taken + (7 : Int32)) / (8 : Int32)) * (8 : Int32)))
theorem hdX0_toWholeByte : yX0_toWholeByte.cls = RX0 ∧ yX0_toWholeByte.cls ≠ "java/lang/invoke/MethodHandle" ∧ yX0_toWholeByte.cls ≠ "java/lang/invoke/VarHandle" ∧ (parseMethodDescriptor yX0_toWholeByte.desc).map (fun d => d.parameters.length) = some 0 := by decide +kernel
set_option maxHeartbeats 8000000 in
set_option maxRecDepth 100000 in
theorem mX0_toWholeByte (l : Launch) (dC : Nat → ClassId) (dI : Nat → Nat → Nat) (o : Nat) (o_row : Nat)   (o_all : Int32) (o_taken : Int32)  (sz : Nat) (u : Int32) (h : pX0_toWholeByte o_taken = some u) : Met l yX0_toWholeByte (Cond.code yX0_toWholeByte cX0_toWholeByte 1 none :: fb_tb) ({ frames := 0, cells := 0, slots := 0, locals := 0 }) (fb_Pc (dC, dI) [.ref o] sz [] [(o, .inr (0, [.int o_all, .int o_taken, .ref o_row]))]) (fb_Qv (dC, dI) [(o, .inr (0, [.int o_all, .int u, .ref o_row]))] (va_A [(o, .inr (0, [.int o_all, .int o_taken, .ref o_row]))] sz)) 0 0 (va_A [(o, .inr (0, [.int o_all, .int o_taken, .ref o_row]))] sz) := by
  refine fb_metv (by decide) (Nat.le_of_ble_eq_true rfl) (fun p e s m args below meth c A Q ls H hx hb hml hown hts hP hK hN hZ hD hA hS hret hl => ?_)
  replace hl : lv_has ls 1 [(0, .ref o)] := hl
  unfold pX0_toWholeByte at h
  refine lv_aload_n hx hb dX0_toWholeByte_0 rfl (lv_at hl 0 rfl) ?_
  refine lv_aload_n hx hb dX0_toWholeByte_1 rfl (lv_at hl 0 rfl) ?_
  refine va_get (D := (dC, dI)) (ci := 0) (v := .int o_taken) (C := RX0) (T := TX0) (N := 3) hx hb hts i_X0 hown hK hP 0 rfl rfl 1 (by decide) (hts _ k_355) (fun _ h9 => h9) rfl dX0_toWholeByte_2 ?_
  refine lv_bipush (v := (7 : Int32)) hx hb dX0_toWholeByte_5 (by decide) ?_
  refine lv_iadd hx hb dX0_toWholeByte_7 ?_
  refine lv_bipush (v := (8 : Int32)) hx hb dX0_toWholeByte_8 (by decide) ?_
  refine lv_idiv hx hb dX0_toWholeByte_10 (by decide) ?_
  refine lv_bipush (v := (8 : Int32)) hx hb dX0_toWholeByte_11 (by decide) ?_
  refine lv_imul hx hb dX0_toWholeByte_13 ?_
  refine va_put (D := (dC, dI)) (ci := 0) (v := .int (((o_taken + (7 : Int32)) / (8 : Int32)) * (8 : Int32))) (ty := .int) (C := RX0) (T := TX0) (N := 3) hx hb hts i_X0 tyX0 tyX0_ok nmX0 hown hK hP hD hS 0 rfl rfl 1 (by decide) (hts _ k_355) (fun _ h9 => h9) rfl (by decide +kernel) rfl rfl (Nat.le_of_ble_eq_true rfl) dX0_toWholeByte_14 (fun H locs hP hD hS => ?_)
  replace hP : va_P (dC, dI) fb_cl [(o, .inr (0, [.int o_all, .int (((o_taken + (7 : Int32)) / (8 : Int32)) * (8 : Int32)), .ref o_row]))] H := hP
  replace hD : va_D A [(o, .inr (0, [.int o_all, .int (((o_taken + (7 : Int32)) / (8 : Int32)) * (8 : Int32)), .ref o_row]))] := hD
  have hu := Option.some.inj h
  exact hret _ _ _ _ dX0_toWholeByte_17 (by rw [← hu]; exact hP) (by rw [← hu]; exact hD) hS
theorem dX6_clear_0 : decode cX6_clear 0 = .ok (.aload_n 0, 1) := by decide +kernel
theorem dX6_clear_1 : decode cX6_clear 1 = .ok (.iconst 0, 1) := by decide +kernel
theorem dX6_clear_2 : decode cX6_clear 2 = .ok (.putfield 15, 3) := by decide +kernel
theorem dX6_clear_5 : decode cX6_clear 5 = .ok (.return_, 1) := by decide +kernel
def pX6_clear    : Option (Int32) :=
  some ((0 : Int32))
theorem hdX6_clear : yX6_clear.cls = RX6 ∧ yX6_clear.cls ≠ "java/lang/invoke/MethodHandle" ∧ yX6_clear.cls ≠ "java/lang/invoke/VarHandle" ∧ (parseMethodDescriptor yX6_clear.desc).map (fun d => d.parameters.length) = some 0 := by decide +kernel
set_option maxHeartbeats 8000000 in
set_option maxRecDepth 100000 in
theorem mX6_clear (l : Launch) (dC : Nat → ClassId) (dI : Nat → Nat → Nat) (o : Nat) (o_bytes : Nat)   (o_size : Int32)  (sz : Nat) (u : Int32) (h : pX6_clear = some u) : Met l yX6_clear (Cond.code yX6_clear cX6_clear 1 none :: fb_tb) ({ frames := 0, cells := 0, slots := 0, locals := 0 }) (fb_Pc (dC, dI) [.ref o] sz [] [(o, .inr (6, [.ref o_bytes, .int o_size]))]) (fb_Qv (dC, dI) [(o, .inr (6, [.ref o_bytes, .int u]))] (va_A [(o, .inr (6, [.ref o_bytes, .int o_size]))] sz)) 0 0 (va_A [(o, .inr (6, [.ref o_bytes, .int o_size]))] sz) := by
  refine fb_metv (by decide) (Nat.le_of_ble_eq_true rfl) (fun p e s m args below meth c A Q ls H hx hb hml hown hts hP hK hN hZ hD hA hS hret hl => ?_)
  replace hl : lv_has ls 1 [(0, .ref o)] := hl
  unfold pX6_clear at h
  refine lv_aload_n hx hb dX6_clear_0 rfl (lv_at hl 0 rfl) ?_
  refine lv_iconst (v := (0 : Int32)) hx hb dX6_clear_1 (by decide) ?_
  refine va_put (D := (dC, dI)) (ci := 6) (v := .int (0 : Int32)) (ty := .int) (C := RX6) (T := TX6) (N := 2) hx hb hts i_X6 tyX6 tyX6_ok nmX6 hown hK hP hD hS 0 rfl rfl 1 (by decide) (hts _ k_106) (fun _ h9 => h9) rfl (by decide +kernel) rfl rfl (Nat.le_of_ble_eq_true rfl) dX6_clear_2 (fun H locs hP hD hS => ?_)
  replace hP : va_P (dC, dI) fb_cl [(o, .inr (6, [.ref o_bytes, .int (0 : Int32)]))] H := hP
  replace hD : va_D A [(o, .inr (6, [.ref o_bytes, .int (0 : Int32)]))] := hD
  have hu := Option.some.inj h
  exact hret _ _ _ _ dX6_clear_5 (by rw [← hu]; exact hP) (by rw [← hu]; exact hD) hS
theorem dX1_start_0 : decode cX1_start 0 = .ok (.aload_n 0, 1) := by decide +kernel
theorem dX1_start_1 : decode cX1_start 1 = .ok (.getfield 7, 3) := by decide +kernel
theorem dX1_start_4 : decode cX1_start 4 = .ok (.invokevirtual 13, 3) := by decide +kernel
theorem dX1_start_7 : decode cX1_start 7 = .ok (.aload_n 0, 1) := by decide +kernel
theorem dX1_start_8 : decode cX1_start 8 = .ok (.iconst 0, 1) := by decide +kernel
theorem dX1_start_9 : decode cX1_start 9 = .ok (.putfield 18, 3) := by decide +kernel
theorem dX1_start_12 : decode cX1_start 12 = .ok (.aload_n 0, 1) := by decide +kernel
theorem dX1_start_13 : decode cX1_start 13 = .ok (.iconst 0, 1) := by decide +kernel
theorem dX1_start_14 : decode cX1_start 14 = .ok (.putfield 22, 3) := by decide +kernel
theorem dX1_start_17 : decode cX1_start 17 = .ok (.return_, 1) := by decide +kernel
def pX1_start    : Option (Int32 × Int32 × Int32) :=
  (pX6_clear).bind (fun u1 =>
  some ((0 : Int32), (0 : Int32), u1))
theorem hdX1_start : yX1_start.cls = RX1 ∧ yX1_start.cls ≠ "java/lang/invoke/MethodHandle" ∧ yX1_start.cls ≠ "java/lang/invoke/VarHandle" ∧ (parseMethodDescriptor yX1_start.desc).map (fun d => d.parameters.length) = some 0 := by decide +kernel
set_option maxHeartbeats 8000000 in
set_option maxRecDepth 100000 in
theorem mX1_start (l : Launch) (dC : Nat → ClassId) (dI : Nat → Nat → Nat) (o : Nat) (o_row : Nat) (o_row_bytes : Nat)   (o_held : Int32) (o_filled : Int32) (o_row_size : Int32)  (sz : Nat) (u : Int32 × Int32 × Int32) (h : pX1_start = some u) : Met l yX1_start (Cond.code yX1_start cX1_start 1 none :: fb_tb) ({ frames := 1, cells := 0, slots := 0, locals := 20 }) (fb_Pc (dC, dI) [.ref o] sz [] [(o, .inr (1, [.ref o_row, .int o_held, .int o_filled])), (o_row, .inr (6, [.ref o_row_bytes, .int o_row_size]))]) (fb_Qv (dC, dI) [(o, .inr (1, [.ref o_row, .int u.1, .int u.2.1])), (o_row, .inr (6, [.ref o_row_bytes, .int u.2.2]))] (va_A [(o, .inr (1, [.ref o_row, .int o_held, .int o_filled])), (o_row, .inr (6, [.ref o_row_bytes, .int o_row_size]))] sz)) 0 0 (va_A [(o, .inr (1, [.ref o_row, .int o_held, .int o_filled])), (o_row, .inr (6, [.ref o_row_bytes, .int o_row_size]))] sz) := by
  refine fb_metv (by decide) (Nat.le_of_ble_eq_true rfl) (fun p e s m args below meth c A Q ls H hx hb hml hown hts hP hK hN hZ hD hA hS hret hl => ?_)
  replace hl : lv_has ls 1 [(0, .ref o)] := hl
  unfold pX1_start at h
  refine lv_aload_n hx hb dX1_start_0 rfl (lv_at hl 0 rfl) ?_
  refine va_get (D := (dC, dI)) (ci := 1) (v := .ref o_row) (C := RX1) (T := TX1) (N := 3) hx hb hts i_X1 hown hK hP 0 rfl rfl 0 (by decide) (hts _ k_299) (fun _ h9 => h9) rfl dX1_start_1 ?_
  obtain ⟨u1, e1, h⟩ := fb_b h
  refine fb_cv (wc := [(o_row, .inr (6, [.ref o_row_bytes, .int o_row_size]))]) (wr := [(o, .inr (1, [.ref o_row, .int o_held, .int o_filled]))]) (w1 := [(o_row, .inr (6, [.ref o_row_bytes, .int u1]))]) (ws' := [(o, .inr (1, [.ref o_row, .int o_held, .int o_filled])), (o_row, .inr (6, [.ref o_row_bytes, .int u1]))]) (va_runV (As := []) (rest := []) ⟨hx, hb, hml, hown, hts⟩ (mX6_clear l dC dI o_row o_row_bytes o_row_size H.size u1 e1) (cwV 0 hts (fb_GV k_590 k_591 k_592 k_64 k_593) rfl rfl rfl hdX6_clear ⟨Nat.le_of_ble_eq_true rfl, Nat.le_of_ble_eq_true rfl⟩) (fb_pV hP hD hS hA hK hN hZ [1] rfl rfl [] rfl (q0 := 1) (ci := 6) rfl rfl) rfl rfl hl.1 rfl (lv_room (Nat.le_of_ble_eq_true rfl)) dX1_start_4 ⟨Nat.le_of_ble_eq_true rfl, Nat.le_of_ble_eq_true rfl⟩) hP hD hS hA [1] [0] rfl rfl rfl (by decide) [0, 1] rfl rfl (fun H locs hP hD hS => ?_)
  refine lv_aload_n hx hb dX1_start_7 rfl (lv_at hl 0 rfl) ?_
  refine lv_iconst (v := (0 : Int32)) hx hb dX1_start_8 (by decide) ?_
  refine va_put (D := (dC, dI)) (ci := 1) (v := .int (0 : Int32)) (ty := .int) (C := RX1) (T := TX1) (N := 3) hx hb hts i_X1 tyX1 tyX1_ok nmX1 hown hK hP hD hS 0 rfl rfl 1 (by decide) (hts _ k_300) (fun _ h9 => h9) rfl (by decide +kernel) rfl rfl (Nat.le_of_ble_eq_true rfl) dX1_start_9 (fun H locs hP hD hS => ?_)
  replace hP : va_P (dC, dI) fb_cl [(o, .inr (1, [.ref o_row, .int (0 : Int32), .int o_filled])), (o_row, .inr (6, [.ref o_row_bytes, .int u1]))] H := hP
  replace hD : va_D A [(o, .inr (1, [.ref o_row, .int (0 : Int32), .int o_filled])), (o_row, .inr (6, [.ref o_row_bytes, .int u1]))] := hD
  refine lv_aload_n hx hb dX1_start_12 rfl (lv_at hl 0 rfl) ?_
  refine lv_iconst (v := (0 : Int32)) hx hb dX1_start_13 (by decide) ?_
  refine va_put (D := (dC, dI)) (ci := 1) (v := .int (0 : Int32)) (ty := .int) (C := RX1) (T := TX1) (N := 3) hx hb hts i_X1 tyX1 tyX1_ok nmX1 hown hK hP hD hS 0 rfl rfl 2 (by decide) (hts _ k_301) (fun _ h9 => h9) rfl (by decide +kernel) rfl rfl (Nat.le_of_ble_eq_true rfl) dX1_start_14 (fun H locs hP hD hS => ?_)
  replace hP : va_P (dC, dI) fb_cl [(o, .inr (1, [.ref o_row, .int (0 : Int32), .int (0 : Int32)])), (o_row, .inr (6, [.ref o_row_bytes, .int u1]))] H := hP
  replace hD : va_D A [(o, .inr (1, [.ref o_row, .int (0 : Int32), .int (0 : Int32)])), (o_row, .inr (6, [.ref o_row_bytes, .int u1]))] := hD
  have hu := Option.some.inj h
  exact hret _ _ _ _ dX1_start_17 (by rw [← hu]; exact hP) (by rw [← hu]; exact hD) hS
theorem dX6_add_0 : decode cX6_add 0 = .ok (.aload_n 0, 1) := by decide +kernel
theorem dX6_add_1 : decode cX6_add 1 = .ok (.getfield 15, 3) := by decide +kernel
theorem dX6_add_4 : decode cX6_add 4 = .ok (.aload_n 0, 1) := by decide +kernel
theorem dX6_add_5 : decode cX6_add 5 = .ok (.getfield 9, 3) := by decide +kernel
theorem dX6_add_8 : decode cX6_add 8 = .ok (.arraylength, 1) := by decide +kernel
theorem dX6_add_9 : decode cX6_add 9 = .ok (.if_icmp .lt 5, 3) := by decide +kernel
theorem dX6_add_12 : decode cX6_add 12 = .ok (.iconst 0, 1) := by decide +kernel
theorem dX6_add_13 : decode cX6_add 13 = .ok (.ireturn, 1) := by decide +kernel
theorem dX6_add_14 : decode cX6_add 14 = .ok (.aload_n 0, 1) := by decide +kernel
theorem dX6_add_15 : decode cX6_add 15 = .ok (.getfield 9, 3) := by decide +kernel
theorem dX6_add_18 : decode cX6_add 18 = .ok (.aload_n 0, 1) := by decide +kernel
theorem dX6_add_19 : decode cX6_add 19 = .ok (.getfield 15, 3) := by decide +kernel
theorem dX6_add_22 : decode cX6_add 22 = .ok (.iload_n 1, 1) := by decide +kernel
theorem dX6_add_23 : decode cX6_add 23 = .ok (.i2b, 1) := by decide +kernel
theorem dX6_add_24 : decode cX6_add 24 = .ok (.bastore, 1) := by decide +kernel
theorem dX6_add_25 : decode cX6_add 25 = .ok (.aload_n 0, 1) := by decide +kernel
theorem dX6_add_26 : decode cX6_add 26 = .ok (.dup, 1) := by decide +kernel
theorem dX6_add_27 : decode cX6_add 27 = .ok (.getfield 15, 3) := by decide +kernel
theorem dX6_add_30 : decode cX6_add 30 = .ok (.iconst 1, 1) := by decide +kernel
theorem dX6_add_31 : decode cX6_add 31 = .ok (.iadd, 1) := by decide +kernel
theorem dX6_add_32 : decode cX6_add 32 = .ok (.putfield 15, 3) := by decide +kernel
theorem dX6_add_35 : decode cX6_add 35 = .ok (.iconst 1, 1) := by decide +kernel
theorem dX6_add_36 : decode cX6_add 36 = .ok (.ireturn, 1) := by decide +kernel
def pX6_add (o_bytes_n : Nat) (x1 : Int32)  (o_size : Int32) (o_bytes_v : Nat → Int32) : Option (Int32 × Int32 × (Nat → Int32)) :=
  if o_size < (Int32.ofNat o_bytes_n) then
  (if o_size < 0 ∨ o_bytes_n ≤ (o_size).toNatClampNeg then none else
  some ((1 : Int32), (o_size + (1 : Int32)), (upd o_bytes_v (o_size).toNatClampNeg (vp_nar .byte ((x1).toInt8.toInt32)))))
  else
  (some ((0 : Int32), o_size, o_bytes_v))
theorem hdX6_add : yX6_add.cls = RX6 ∧ yX6_add.cls ≠ "java/lang/invoke/MethodHandle" ∧ yX6_add.cls ≠ "java/lang/invoke/VarHandle" ∧ (parseMethodDescriptor yX6_add.desc).map (fun d => d.parameters.length) = some 1 := by decide +kernel
set_option maxHeartbeats 8000000 in
set_option maxRecDepth 100000 in
theorem mX6_add (l : Launch) (dC : Nat → ClassId) (dI : Nat → Nat → Nat) (o : Nat) (o_bytes : Nat) (o_bytes_c : ClassId) (o_bytes_n : Nat) (o_size : Int32) (o_bytes_v : Nat → Int32) (x1 : Int32) (sz : Nat) (u : Int32 × Int32 × (Nat → Int32)) (h : pX6_add o_bytes_n x1 o_size o_bytes_v = some u) : Met l yX6_add (Cond.code yX6_add cX6_add 2 (some .boolean) :: fb_tb) ({ frames := 0, cells := 0, slots := 0, locals := 0 }) (fb_Pc (dC, dI) [.ref o, .int x1] sz [(o_bytes_c, .byte)] [(o, .inr (6, [.ref o_bytes, .int o_size])), (o_bytes, .inl (o_bytes_c, o_bytes_n, .inl o_bytes_v))]) (fb_Qi (dC, dI) u.1 [(o, .inr (6, [.ref o_bytes, .int u.2.1])), (o_bytes, .inl (o_bytes_c, o_bytes_n, .inl u.2.2))] (va_A [(o, .inr (6, [.ref o_bytes, .int o_size])), (o_bytes, .inl (o_bytes_c, o_bytes_n, .inl o_bytes_v))] sz)) 0 0 (va_A [(o, .inr (6, [.ref o_bytes, .int o_size])), (o_bytes, .inl (o_bytes_c, o_bytes_n, .inl o_bytes_v))] sz) := by
  refine fb_meti (ty := .boolean) (by decide) (Nat.le_of_ble_eq_true rfl) (fun p e s m args below meth c A Q ls H hx hb hml hown hts hP hK hN hZ hD hA hS hret hl => ?_)
  replace hl : lv_has ls 2 [(0, .ref o), (1, .int x1)] := hl
  unfold pX6_add at h
  refine lv_aload_n hx hb dX6_add_0 rfl (lv_at hl 0 rfl) ?_
  refine va_get (D := (dC, dI)) (ci := 6) (v := .int o_size) (C := RX6) (T := TX6) (N := 2) hx hb hts i_X6 hown hK hP 0 rfl rfl 1 (by decide) (hts _ k_106) (fun _ h9 => h9) rfl dX6_add_1 ?_
  refine lv_aload_n hx hb dX6_add_4 rfl (lv_at hl 0 rfl) ?_
  refine va_get (D := (dC, dI)) (ci := 6) (v := .ref o_bytes) (C := RX6) (T := TX6) (N := 2) hx hb hts i_X6 hown hK hP 0 rfl rfl 0 (by decide) (hts _ k_102) (fun _ h9 => h9) rfl dX6_add_5 ?_
  refine va_alen (v := (Int32.ofNat o_bytes_n)) hx hb hK hP 1 0 rfl rfl rfl dX6_add_8 ?_
  refine lv_icmp_lt (tgt := 14) hx hb dX6_add_9 (by decide) (fun c1 => ?_) (fun c1 => ?_)
  · replace h := fb_t c1 h
    refine lv_aload_n hx hb dX6_add_14 rfl (lv_at hl 0 rfl) ?_
    refine va_get (D := (dC, dI)) (ci := 6) (v := .ref o_bytes) (C := RX6) (T := TX6) (N := 2) hx hb hts i_X6 hown hK hP 0 rfl rfl 0 (by decide) (hts _ k_102) (fun _ h9 => h9) rfl dX6_add_15 ?_
    refine lv_aload_n hx hb dX6_add_18 rfl (lv_at hl 0 rfl) ?_
    refine va_get (D := (dC, dI)) (ci := 6) (v := .int o_size) (C := RX6) (T := TX6) (N := 2) hx hb hts i_X6 hown hK hP 0 rfl rfl 1 (by decide) (hts _ k_106) (fun _ h9 => h9) rfl dX6_add_19 ?_
    refine lv_iload_n hx hb dX6_add_22 rfl (lv_at hl 1 rfl) ?_
    refine lv_i2b (v := (x1).toInt8.toInt32) hx hb dX6_add_23 rfl ?_
    obtain ⟨g2, h⟩ := fb_g h
    refine va_bast hx hb hK hP hD hS 1 0 rfl rfl g2 dX6_add_24 (fun H locs hP hD hS => ?_)
    replace hP : va_P (dC, dI) fb_cl [(o, .inr (6, [.ref o_bytes, .int o_size])), (o_bytes, .inl (o_bytes_c, o_bytes_n, .inl (upd o_bytes_v (o_size).toNatClampNeg (vp_nar .byte ((x1).toInt8.toInt32)))))] H := hP
    replace hD : va_D A [(o, .inr (6, [.ref o_bytes, .int o_size])), (o_bytes, .inl (o_bytes_c, o_bytes_n, .inl (upd o_bytes_v (o_size).toNatClampNeg (vp_nar .byte ((x1).toInt8.toInt32)))))] := hD
    refine lv_aload_n hx hb dX6_add_25 rfl (lv_at hl 0 rfl) ?_
    refine lv_dup hx hb dX6_add_26 rfl ?_
    refine va_get (D := (dC, dI)) (ci := 6) (v := .int o_size) (C := RX6) (T := TX6) (N := 2) hx hb hts i_X6 hown hK hP 0 rfl rfl 1 (by decide) (hts _ k_106) (fun _ h9 => h9) rfl dX6_add_27 ?_
    refine lv_iconst (v := (1 : Int32)) hx hb dX6_add_30 (by decide) ?_
    refine lv_iadd hx hb dX6_add_31 ?_
    refine va_put (D := (dC, dI)) (ci := 6) (v := .int (o_size + (1 : Int32))) (ty := .int) (C := RX6) (T := TX6) (N := 2) hx hb hts i_X6 tyX6 tyX6_ok nmX6 hown hK hP hD hS 0 rfl rfl 1 (by decide) (hts _ k_106) (fun _ h9 => h9) rfl (by decide +kernel) rfl rfl (Nat.le_of_ble_eq_true rfl) dX6_add_32 (fun H locs hP hD hS => ?_)
    replace hP : va_P (dC, dI) fb_cl [(o, .inr (6, [.ref o_bytes, .int (o_size + (1 : Int32))])), (o_bytes, .inl (o_bytes_c, o_bytes_n, .inl (upd o_bytes_v (o_size).toNatClampNeg (vp_nar .byte ((x1).toInt8.toInt32)))))] H := hP
    replace hD : va_D A [(o, .inr (6, [.ref o_bytes, .int (o_size + (1 : Int32))])), (o_bytes, .inl (o_bytes_c, o_bytes_n, .inl (upd o_bytes_v (o_size).toNatClampNeg (vp_nar .byte ((x1).toInt8.toInt32)))))] := hD
    refine lv_iconst (v := (1 : Int32)) hx hb dX6_add_35 (by decide) ?_
    have hu := Option.some.inj h
    exact hret _ _ _ _ _ dX6_add_36 rfl (by rw [← hu]) (by rw [← hu]; exact hP) (by rw [← hu]; exact hD) hS
  · replace h := fb_f c1 h
    refine lv_iconst (v := (0 : Int32)) hx hb dX6_add_12 (by decide) ?_
    have hu := Option.some.inj h
    exact hret _ _ _ _ _ dX6_add_13 rfl (by rw [← hu]) (by rw [← hu]; exact hP) (by rw [← hu]; exact hD) hS
theorem dX1_put_0 : decode cX1_put 0 = .ok (.aload_n 0, 1) := by decide +kernel
theorem dX1_put_1 : decode cX1_put 1 = .ok (.dup, 1) := by decide +kernel
theorem dX1_put_2 : decode cX1_put 2 = .ok (.getfield 18, 3) := by decide +kernel
theorem dX1_put_5 : decode cX1_put 5 = .ok (.iload_n 1, 1) := by decide +kernel
theorem dX1_put_6 : decode cX1_put 6 = .ok (.aload_n 0, 1) := by decide +kernel
theorem dX1_put_7 : decode cX1_put 7 = .ok (.getfield 22, 3) := by decide +kernel
theorem dX1_put_10 : decode cX1_put 10 = .ok (.ishl, 1) := by decide +kernel
theorem dX1_put_11 : decode cX1_put 11 = .ok (.ior, 1) := by decide +kernel
theorem dX1_put_12 : decode cX1_put 12 = .ok (.putfield 18, 3) := by decide +kernel
theorem dX1_put_15 : decode cX1_put 15 = .ok (.aload_n 0, 1) := by decide +kernel
theorem dX1_put_16 : decode cX1_put 16 = .ok (.dup, 1) := by decide +kernel
theorem dX1_put_17 : decode cX1_put 17 = .ok (.getfield 22, 3) := by decide +kernel
theorem dX1_put_20 : decode cX1_put 20 = .ok (.iconst 1, 1) := by decide +kernel
theorem dX1_put_21 : decode cX1_put 21 = .ok (.iadd, 1) := by decide +kernel
theorem dX1_put_22 : decode cX1_put 22 = .ok (.putfield 22, 3) := by decide +kernel
theorem dX1_put_25 : decode cX1_put 25 = .ok (.aload_n 0, 1) := by decide +kernel
theorem dX1_put_26 : decode cX1_put 26 = .ok (.getfield 22, 3) := by decide +kernel
theorem dX1_put_29 : decode cX1_put 29 = .ok (.bipush 8, 2) := by decide +kernel
theorem dX1_put_31 : decode cX1_put 31 = .ok (.if_icmp .ne 25, 3) := by decide +kernel
theorem dX1_put_34 : decode cX1_put 34 = .ok (.aload_n 0, 1) := by decide +kernel
theorem dX1_put_35 : decode cX1_put 35 = .ok (.getfield 7, 3) := by decide +kernel
theorem dX1_put_38 : decode cX1_put 38 = .ok (.aload_n 0, 1) := by decide +kernel
theorem dX1_put_39 : decode cX1_put 39 = .ok (.getfield 18, 3) := by decide +kernel
theorem dX1_put_42 : decode cX1_put 42 = .ok (.invokevirtual 38, 3) := by decide +kernel
theorem dX1_put_45 : decode cX1_put 45 = .ok (.pop, 1) := by decide +kernel
theorem dX1_put_46 : decode cX1_put 46 = .ok (.aload_n 0, 1) := by decide +kernel
theorem dX1_put_47 : decode cX1_put 47 = .ok (.iconst 0, 1) := by decide +kernel
theorem dX1_put_48 : decode cX1_put 48 = .ok (.putfield 18, 3) := by decide +kernel
theorem dX1_put_51 : decode cX1_put 51 = .ok (.aload_n 0, 1) := by decide +kernel
theorem dX1_put_52 : decode cX1_put 52 = .ok (.iconst 0, 1) := by decide +kernel
theorem dX1_put_53 : decode cX1_put 53 = .ok (.putfield 22, 3) := by decide +kernel
theorem dX1_put_56 : decode cX1_put 56 = .ok (.return_, 1) := by decide +kernel
def pX1_put (o_row_bytes_n : Nat) (x1 : Int32)  (o_held : Int32) (o_filled : Int32) (o_row_size : Int32) (o_row_bytes_v : Nat → Int32) : Option (Int32 × Int32 × Int32 × (Nat → Int32)) :=
  if (o_filled + (1 : Int32)) = (8 : Int32) then
  ((pX6_add o_row_bytes_n (o_held ||| (x1 <<< (o_filled &&& 31))) o_row_size o_row_bytes_v).bind (fun u2 =>
  some ((0 : Int32), (0 : Int32), u2.2.1, u2.2.2)))
  else
  (some ((o_held ||| (x1 <<< (o_filled &&& 31))), (o_filled + (1 : Int32)), o_row_size, o_row_bytes_v))
theorem hdX1_put : yX1_put.cls = RX1 ∧ yX1_put.cls ≠ "java/lang/invoke/MethodHandle" ∧ yX1_put.cls ≠ "java/lang/invoke/VarHandle" ∧ (parseMethodDescriptor yX1_put.desc).map (fun d => d.parameters.length) = some 1 := by decide +kernel
set_option maxHeartbeats 8000000 in
set_option maxRecDepth 100000 in
theorem mX1_put (l : Launch) (dC : Nat → ClassId) (dI : Nat → Nat → Nat) (o : Nat) (o_row : Nat) (o_row_bytes : Nat) (o_row_bytes_c : ClassId) (o_row_bytes_n : Nat) (o_held : Int32) (o_filled : Int32) (o_row_size : Int32) (o_row_bytes_v : Nat → Int32) (x1 : Int32) (sz : Nat) (u : Int32 × Int32 × Int32 × (Nat → Int32)) (h : pX1_put o_row_bytes_n x1 o_held o_filled o_row_size o_row_bytes_v = some u) : Met l yX1_put (Cond.code yX1_put cX1_put 2 none :: fb_tb) ({ frames := 1, cells := 0, slots := 0, locals := 21 }) (fb_Pc (dC, dI) [.ref o, .int x1] sz [(o_row_bytes_c, .byte)] [(o, .inr (1, [.ref o_row, .int o_held, .int o_filled])), (o_row, .inr (6, [.ref o_row_bytes, .int o_row_size])), (o_row_bytes, .inl (o_row_bytes_c, o_row_bytes_n, .inl o_row_bytes_v))]) (fb_Qv (dC, dI) [(o, .inr (1, [.ref o_row, .int u.1, .int u.2.1])), (o_row, .inr (6, [.ref o_row_bytes, .int u.2.2.1])), (o_row_bytes, .inl (o_row_bytes_c, o_row_bytes_n, .inl u.2.2.2))] (va_A [(o, .inr (1, [.ref o_row, .int o_held, .int o_filled])), (o_row, .inr (6, [.ref o_row_bytes, .int o_row_size])), (o_row_bytes, .inl (o_row_bytes_c, o_row_bytes_n, .inl o_row_bytes_v))] sz)) 0 0 (va_A [(o, .inr (1, [.ref o_row, .int o_held, .int o_filled])), (o_row, .inr (6, [.ref o_row_bytes, .int o_row_size])), (o_row_bytes, .inl (o_row_bytes_c, o_row_bytes_n, .inl o_row_bytes_v))] sz) := by
  refine fb_metv (by decide) (Nat.le_of_ble_eq_true rfl) (fun p e s m args below meth c A Q ls H hx hb hml hown hts hP hK hN hZ hD hA hS hret hl => ?_)
  replace hl : lv_has ls 2 [(0, .ref o), (1, .int x1)] := hl
  unfold pX1_put at h
  refine lv_aload_n hx hb dX1_put_0 rfl (lv_at hl 0 rfl) ?_
  refine lv_dup hx hb dX1_put_1 rfl ?_
  refine va_get (D := (dC, dI)) (ci := 1) (v := .int o_held) (C := RX1) (T := TX1) (N := 3) hx hb hts i_X1 hown hK hP 0 rfl rfl 1 (by decide) (hts _ k_300) (fun _ h9 => h9) rfl dX1_put_2 ?_
  refine lv_iload_n hx hb dX1_put_5 rfl (lv_at hl 1 rfl) ?_
  refine lv_aload_n hx hb dX1_put_6 rfl (lv_at hl 0 rfl) ?_
  refine va_get (D := (dC, dI)) (ci := 1) (v := .int o_filled) (C := RX1) (T := TX1) (N := 3) hx hb hts i_X1 hown hK hP 0 rfl rfl 2 (by decide) (hts _ k_301) (fun _ h9 => h9) rfl dX1_put_7 ?_
  refine lv_ishl hx hb dX1_put_10 ?_
  refine lv_ior hx hb dX1_put_11 ?_
  refine va_put (D := (dC, dI)) (ci := 1) (v := .int (o_held ||| (x1 <<< (o_filled &&& 31)))) (ty := .int) (C := RX1) (T := TX1) (N := 3) hx hb hts i_X1 tyX1 tyX1_ok nmX1 hown hK hP hD hS 0 rfl rfl 1 (by decide) (hts _ k_300) (fun _ h9 => h9) rfl (by decide +kernel) rfl rfl (Nat.le_of_ble_eq_true rfl) dX1_put_12 (fun H locs hP hD hS => ?_)
  replace hP : va_P (dC, dI) fb_cl [(o, .inr (1, [.ref o_row, .int (o_held ||| (x1 <<< (o_filled &&& 31))), .int o_filled])), (o_row, .inr (6, [.ref o_row_bytes, .int o_row_size])), (o_row_bytes, .inl (o_row_bytes_c, o_row_bytes_n, .inl o_row_bytes_v))] H := hP
  replace hD : va_D A [(o, .inr (1, [.ref o_row, .int (o_held ||| (x1 <<< (o_filled &&& 31))), .int o_filled])), (o_row, .inr (6, [.ref o_row_bytes, .int o_row_size])), (o_row_bytes, .inl (o_row_bytes_c, o_row_bytes_n, .inl o_row_bytes_v))] := hD
  refine lv_aload_n hx hb dX1_put_15 rfl (lv_at hl 0 rfl) ?_
  refine lv_dup hx hb dX1_put_16 rfl ?_
  refine va_get (D := (dC, dI)) (ci := 1) (v := .int o_filled) (C := RX1) (T := TX1) (N := 3) hx hb hts i_X1 hown hK hP 0 rfl rfl 2 (by decide) (hts _ k_301) (fun _ h9 => h9) rfl dX1_put_17 ?_
  refine lv_iconst (v := (1 : Int32)) hx hb dX1_put_20 (by decide) ?_
  refine lv_iadd hx hb dX1_put_21 ?_
  refine va_put (D := (dC, dI)) (ci := 1) (v := .int (o_filled + (1 : Int32))) (ty := .int) (C := RX1) (T := TX1) (N := 3) hx hb hts i_X1 tyX1 tyX1_ok nmX1 hown hK hP hD hS 0 rfl rfl 2 (by decide) (hts _ k_301) (fun _ h9 => h9) rfl (by decide +kernel) rfl rfl (Nat.le_of_ble_eq_true rfl) dX1_put_22 (fun H locs hP hD hS => ?_)
  replace hP : va_P (dC, dI) fb_cl [(o, .inr (1, [.ref o_row, .int (o_held ||| (x1 <<< (o_filled &&& 31))), .int (o_filled + (1 : Int32))])), (o_row, .inr (6, [.ref o_row_bytes, .int o_row_size])), (o_row_bytes, .inl (o_row_bytes_c, o_row_bytes_n, .inl o_row_bytes_v))] H := hP
  replace hD : va_D A [(o, .inr (1, [.ref o_row, .int (o_held ||| (x1 <<< (o_filled &&& 31))), .int (o_filled + (1 : Int32))])), (o_row, .inr (6, [.ref o_row_bytes, .int o_row_size])), (o_row_bytes, .inl (o_row_bytes_c, o_row_bytes_n, .inl o_row_bytes_v))] := hD
  refine lv_aload_n hx hb dX1_put_25 rfl (lv_at hl 0 rfl) ?_
  refine va_get (D := (dC, dI)) (ci := 1) (v := .int (o_filled + (1 : Int32))) (C := RX1) (T := TX1) (N := 3) hx hb hts i_X1 hown hK hP 0 rfl rfl 2 (by decide) (hts _ k_301) (fun _ h9 => h9) rfl dX1_put_26 ?_
  refine lv_bipush (v := (8 : Int32)) hx hb dX1_put_29 (by decide) ?_
  refine lv_icmp_ne (tgt := 56) hx hb dX1_put_31 (by decide) (fun c1 => ?_) (fun c1 => ?_)
  · replace h := fb_f c1 h
    have hu := Option.some.inj h
    exact hret _ _ _ _ dX1_put_56 (by rw [← hu]; exact hP) (by rw [← hu]; exact hD) hS
  · replace h := fb_t c1 h
    refine lv_aload_n hx hb dX1_put_34 rfl (lv_at hl 0 rfl) ?_
    refine va_get (D := (dC, dI)) (ci := 1) (v := .ref o_row) (C := RX1) (T := TX1) (N := 3) hx hb hts i_X1 hown hK hP 0 rfl rfl 0 (by decide) (hts _ k_299) (fun _ h9 => h9) rfl dX1_put_35 ?_
    refine lv_aload_n hx hb dX1_put_38 rfl (lv_at hl 0 rfl) ?_
    refine va_get (D := (dC, dI)) (ci := 1) (v := .int (o_held ||| (x1 <<< (o_filled &&& 31)))) (C := RX1) (T := TX1) (N := 3) hx hb hts i_X1 hown hK hP 0 rfl rfl 1 (by decide) (hts _ k_300) (fun _ h9 => h9) rfl dX1_put_39 ?_
    obtain ⟨u2, e2, h⟩ := fb_b h
    refine fb_ci (wc := [(o_row, .inr (6, [.ref o_row_bytes, .int o_row_size])), (o_row_bytes, .inl (o_row_bytes_c, o_row_bytes_n, .inl o_row_bytes_v))]) (wr := [(o, .inr (1, [.ref o_row, .int (o_held ||| (x1 <<< (o_filled &&& 31))), .int (o_filled + (1 : Int32))]))]) (w1 := [(o_row, .inr (6, [.ref o_row_bytes, .int u2.2.1])), (o_row_bytes, .inl (o_row_bytes_c, o_row_bytes_n, .inl u2.2.2))]) (ws' := [(o, .inr (1, [.ref o_row, .int (o_held ||| (x1 <<< (o_filled &&& 31))), .int (o_filled + (1 : Int32))])), (o_row, .inr (6, [.ref o_row_bytes, .int u2.2.1])), (o_row_bytes, .inl (o_row_bytes_c, o_row_bytes_n, .inl u2.2.2))]) (va_runV (As := [.int (o_held ||| (x1 <<< (o_filled &&& 31)))]) (rest := []) ⟨hx, hb, hml, hown, hts⟩ (mX6_add l dC dI o_row o_row_bytes o_row_bytes_c o_row_bytes_n o_row_size o_row_bytes_v (o_held ||| (x1 <<< (o_filled &&& 31))) H.size u2 e2) (cwV 1 hts (fb_GV k_606 k_410 k_411 k_64 k_412) rfl rfl rfl hdX6_add ⟨Nat.le_of_ble_eq_true rfl, Nat.le_of_ble_eq_true rfl⟩) (fb_pV hP hD hS hA hK hN hZ [1, 2] rfl rfl [0] rfl (q0 := 1) (ci := 6) rfl rfl) rfl rfl hl.1 rfl (lv_room (Nat.le_of_ble_eq_true rfl)) dX1_put_42 ⟨Nat.le_of_ble_eq_true rfl, Nat.le_of_ble_eq_true rfl⟩) hP hD hS hA [1, 2] [0] rfl rfl rfl (by decide) [0, 1, 2] rfl rfl (fun H locs hP hD hS => ?_)
    refine lv_pop hx hb dX1_put_45 rfl ?_
    refine lv_aload_n hx hb dX1_put_46 rfl (lv_at hl 0 rfl) ?_
    refine lv_iconst (v := (0 : Int32)) hx hb dX1_put_47 (by decide) ?_
    refine va_put (D := (dC, dI)) (ci := 1) (v := .int (0 : Int32)) (ty := .int) (C := RX1) (T := TX1) (N := 3) hx hb hts i_X1 tyX1 tyX1_ok nmX1 hown hK hP hD hS 0 rfl rfl 1 (by decide) (hts _ k_300) (fun _ h9 => h9) rfl (by decide +kernel) rfl rfl (Nat.le_of_ble_eq_true rfl) dX1_put_48 (fun H locs hP hD hS => ?_)
    replace hP : va_P (dC, dI) fb_cl [(o, .inr (1, [.ref o_row, .int (0 : Int32), .int (o_filled + (1 : Int32))])), (o_row, .inr (6, [.ref o_row_bytes, .int u2.2.1])), (o_row_bytes, .inl (o_row_bytes_c, o_row_bytes_n, .inl u2.2.2))] H := hP
    replace hD : va_D A [(o, .inr (1, [.ref o_row, .int (0 : Int32), .int (o_filled + (1 : Int32))])), (o_row, .inr (6, [.ref o_row_bytes, .int u2.2.1])), (o_row_bytes, .inl (o_row_bytes_c, o_row_bytes_n, .inl u2.2.2))] := hD
    refine lv_aload_n hx hb dX1_put_51 rfl (lv_at hl 0 rfl) ?_
    refine lv_iconst (v := (0 : Int32)) hx hb dX1_put_52 (by decide) ?_
    refine va_put (D := (dC, dI)) (ci := 1) (v := .int (0 : Int32)) (ty := .int) (C := RX1) (T := TX1) (N := 3) hx hb hts i_X1 tyX1 tyX1_ok nmX1 hown hK hP hD hS 0 rfl rfl 2 (by decide) (hts _ k_301) (fun _ h9 => h9) rfl (by decide +kernel) rfl rfl (Nat.le_of_ble_eq_true rfl) dX1_put_53 (fun H locs hP hD hS => ?_)
    replace hP : va_P (dC, dI) fb_cl [(o, .inr (1, [.ref o_row, .int (0 : Int32), .int (0 : Int32)])), (o_row, .inr (6, [.ref o_row_bytes, .int u2.2.1])), (o_row_bytes, .inl (o_row_bytes_c, o_row_bytes_n, .inl u2.2.2))] H := hP
    replace hD : va_D A [(o, .inr (1, [.ref o_row, .int (0 : Int32), .int (0 : Int32)])), (o_row, .inr (6, [.ref o_row_bytes, .int u2.2.1])), (o_row_bytes, .inl (o_row_bytes_c, o_row_bytes_n, .inl u2.2.2))] := hD
    have hu := Option.some.inj h
    exact hret _ _ _ _ dX1_put_56 (by rw [← hu]; exact hP) (by rw [← hu]; exact hD) hS
theorem dX1_number_0 : decode cX1_number 0 = .ok (.iconst 0, 1) := by decide +kernel
theorem dX1_number_1 : decode cX1_number 1 = .ok (.istore_n 3, 1) := by decide +kernel
theorem dX1_number_2 : decode cX1_number 2 = .ok (.iload_n 3, 1) := by decide +kernel
theorem dX1_number_3 : decode cX1_number 3 = .ok (.iload_n 2, 1) := by decide +kernel
theorem dX1_number_4 : decode cX1_number 4 = .ok (.if_icmp .ge 18, 3) := by decide +kernel
theorem dX1_number_7 : decode cX1_number 7 = .ok (.aload_n 0, 1) := by decide +kernel
theorem dX1_number_8 : decode cX1_number 8 = .ok (.iload_n 1, 1) := by decide +kernel
theorem dX1_number_9 : decode cX1_number 9 = .ok (.iload_n 3, 1) := by decide +kernel
theorem dX1_number_10 : decode cX1_number 10 = .ok (.ishr, 1) := by decide +kernel
theorem dX1_number_11 : decode cX1_number 11 = .ok (.iconst 1, 1) := by decide +kernel
theorem dX1_number_12 : decode cX1_number 12 = .ok (.iand, 1) := by decide +kernel
theorem dX1_number_13 : decode cX1_number 13 = .ok (.invokevirtual 25, 3) := by decide +kernel
theorem dX1_number_16 : decode cX1_number 16 = .ok (.iinc 3 1, 3) := by decide +kernel
theorem dX1_number_19 : decode cX1_number 19 = .ok (.goto (-17), 3) := by decide +kernel
theorem dX1_number_22 : decode cX1_number 22 = .ok (.return_, 1) := by decide +kernel
def pX1_number_b2 (o_row_bytes_n : Nat) (x1 : Int32) (x2 : Int32)  : Nat → Int32 → Int32 → Int32 → (Nat → Int32) → Int32 → Option (Int32 × Int32 × Int32 × (Nat → Int32))
  | 0 => fun _ _ _ _ _ => none
  | n + 1 => fun o_held o_filled o_row_size o_row_bytes_v x3 =>
  if x2 ≤ x3 then
  (some (o_held, o_filled, o_row_size, o_row_bytes_v))
  else
  ((pX1_put o_row_bytes_n ((x1 >>> (x3 &&& 31)) &&& (1 : Int32)) o_held o_filled o_row_size o_row_bytes_v).bind (fun u2 =>
  (pX1_number_b2 o_row_bytes_n x1 x2 n) u2.1 u2.2.1 u2.2.2.1 u2.2.2.2 (x3 + (1 : Int32))))
def pX1_number (o_row_bytes_n : Nat) (x1 : Int32) (x2 : Int32)  (o_held : Int32) (o_filled : Int32) (o_row_size : Int32) (o_row_bytes_v : Nat → Int32) : Option (Int32 × Int32 × Int32 × (Nat → Int32)) :=
  pX1_number_b2 o_row_bytes_n x1 x2 fb_F o_held o_filled o_row_size o_row_bytes_v (0 : Int32)
theorem hdX1_number : yX1_number.cls = RX1 ∧ yX1_number.cls ≠ "java/lang/invoke/MethodHandle" ∧ yX1_number.cls ≠ "java/lang/invoke/VarHandle" ∧ (parseMethodDescriptor yX1_number.desc).map (fun d => d.parameters.length) = some 2 := by decide +kernel
set_option maxHeartbeats 8000000 in
set_option maxRecDepth 100000 in
theorem mX1_number (l : Launch) (dC : Nat → ClassId) (dI : Nat → Nat → Nat) (o : Nat) (o_row : Nat) (o_row_bytes : Nat) (o_row_bytes_c : ClassId) (o_row_bytes_n : Nat) (o_held : Int32) (o_filled : Int32) (o_row_size : Int32) (o_row_bytes_v : Nat → Int32) (x1 : Int32) (x2 : Int32) (sz : Nat) (u : Int32 × Int32 × Int32 × (Nat → Int32)) (h : pX1_number o_row_bytes_n x1 x2 o_held o_filled o_row_size o_row_bytes_v = some u) : Met l yX1_number (Cond.code yX1_number cX1_number 4 none :: fb_tb) ({ frames := 2, cells := 0, slots := 0, locals := 42 }) (fb_Pc (dC, dI) [.ref o, .int x1, .int x2] sz [(o_row_bytes_c, .byte)] [(o, .inr (1, [.ref o_row, .int o_held, .int o_filled])), (o_row, .inr (6, [.ref o_row_bytes, .int o_row_size])), (o_row_bytes, .inl (o_row_bytes_c, o_row_bytes_n, .inl o_row_bytes_v))]) (fb_Qv (dC, dI) [(o, .inr (1, [.ref o_row, .int u.1, .int u.2.1])), (o_row, .inr (6, [.ref o_row_bytes, .int u.2.2.1])), (o_row_bytes, .inl (o_row_bytes_c, o_row_bytes_n, .inl u.2.2.2))] (va_A [(o, .inr (1, [.ref o_row, .int o_held, .int o_filled])), (o_row, .inr (6, [.ref o_row_bytes, .int o_row_size])), (o_row_bytes, .inl (o_row_bytes_c, o_row_bytes_n, .inl o_row_bytes_v))] sz)) 0 0 (va_A [(o, .inr (1, [.ref o_row, .int o_held, .int o_filled])), (o_row, .inr (6, [.ref o_row_bytes, .int o_row_size])), (o_row_bytes, .inl (o_row_bytes_c, o_row_bytes_n, .inl o_row_bytes_v))] sz) := by
  refine fb_metv (by decide) (Nat.le_of_ble_eq_true rfl) (fun p e s m args below meth c A Q ls H hx hb hml hown hts hP hK hN hZ hD hA hS hret hl => ?_)
  replace hl : lv_has ls 4 [(0, .ref o), (1, .int x1), (2, .int x2)] := hl
  have wB2 : ∀ n : Nat, ∀ (o_held : Int32) (o_filled : Int32) (o_row_size : Int32) (o_row_bytes_v : Nat → Int32) (x3 : Int32) (H : Heap) (locs : List Loc) (ls : Array Slot), va_P (dC, dI) fb_cl [(o, .inr (1, [.ref o_row, .int o_held, .int o_filled])), (o_row, .inr (6, [.ref o_row_bytes, .int o_row_size])), (o_row_bytes, .inl (o_row_bytes_c, o_row_bytes_n, .inl o_row_bytes_v))] H → va_D A [(o, .inr (1, [.ref o_row, .int o_held, .int o_filled])), (o_row, .inr (6, [.ref o_row_bytes, .int o_row_size])), (o_row_bytes, .inl (o_row_bytes_c, o_row_bytes_n, .inl o_row_bytes_v))] → va_S A s.heap H locs → lv_has ls 4 [(0, .ref o), (1, .int x1), (2, .int x2), (3, .int x3)] → pX1_number_b2 o_row_bytes_n x1 x2 n o_held o_filled o_row_size o_row_bytes_v x3 = some u → W p l e ({ frames := 2, cells := 0, slots := 0, locals := 42 }) s m args below meth c H locs 0 0 Q (F0 m 2 ls []) := by
    intro n
    induction n with
    | zero => intro o_held o_filled o_row_size o_row_bytes_v x3 H locs ls hP hD hS hl h; cases h
    | succ n ih =>
      intro o_held o_filled o_row_size o_row_bytes_v x3 H locs ls hP hD hS hl h
      rw [pX1_number_b2] at h
      refine lv_iload_n hx hb dX1_number_2 rfl (lv_at hl 3 rfl) ?_
      refine lv_iload_n hx hb dX1_number_3 rfl (lv_at hl 2 rfl) ?_
      refine lv_icmp_ge (tgt := 22) hx hb dX1_number_4 (by decide) (fun c1 => ?_) (fun c1 => ?_)
      · replace h := fb_t c1 h
        have hu := Option.some.inj h
        exact hret _ _ _ _ dX1_number_22 (by rw [← hu]; exact hP) (by rw [← hu]; exact hD) hS
      · replace h := fb_f c1 h
        refine lv_aload_n hx hb dX1_number_7 rfl (lv_at hl 0 rfl) ?_
        refine lv_iload_n hx hb dX1_number_8 rfl (lv_at hl 1 rfl) ?_
        refine lv_iload_n hx hb dX1_number_9 rfl (lv_at hl 3 rfl) ?_
        refine lv_ishr hx hb dX1_number_10 ?_
        refine lv_iconst (v := (1 : Int32)) hx hb dX1_number_11 (by decide) ?_
        refine lv_iand hx hb dX1_number_12 ?_
        obtain ⟨u2, e2, h⟩ := fb_b h
        refine fb_cv (wc := [(o, .inr (1, [.ref o_row, .int o_held, .int o_filled])), (o_row, .inr (6, [.ref o_row_bytes, .int o_row_size])), (o_row_bytes, .inl (o_row_bytes_c, o_row_bytes_n, .inl o_row_bytes_v))]) (wr := []) (w1 := [(o, .inr (1, [.ref o_row, .int u2.1, .int u2.2.1])), (o_row, .inr (6, [.ref o_row_bytes, .int u2.2.2.1])), (o_row_bytes, .inl (o_row_bytes_c, o_row_bytes_n, .inl u2.2.2.2))]) (ws' := [(o, .inr (1, [.ref o_row, .int u2.1, .int u2.2.1])), (o_row, .inr (6, [.ref o_row_bytes, .int u2.2.2.1])), (o_row_bytes, .inl (o_row_bytes_c, o_row_bytes_n, .inl u2.2.2.2))]) (va_runV (As := [.int ((x1 >>> (x3 &&& 31)) &&& (1 : Int32))]) (rest := []) ⟨hx, hb, hml, hown, hts⟩ (mX1_put l dC dI o o_row o_row_bytes o_row_bytes_c o_row_bytes_n o_held o_filled o_row_size o_row_bytes_v ((x1 >>> (x3 &&& 31)) &&& (1 : Int32)) H.size u2 e2) (cwV 1 hts (fb_GV k_602 k_604 k_19 k_71 k_605) rfl rfl rfl hdX1_put ⟨Nat.le_of_ble_eq_true rfl, Nat.le_of_ble_eq_true rfl⟩) (fb_pV hP hD hS hA hK hN hZ [0, 1, 2] rfl rfl [0] rfl (q0 := 0) (ci := 1) rfl rfl) rfl rfl hl.1 rfl (lv_room (Nat.le_of_ble_eq_true rfl)) dX1_number_13 ⟨Nat.le_of_ble_eq_true rfl, Nat.le_of_ble_eq_true rfl⟩) hP hD hS hA [0, 1, 2] [] rfl rfl rfl (by decide) [0, 1, 2] rfl rfl (fun H locs hP hD hS => ?_)
        refine lv_iinc (v := (x3 + (1 : Int32))) (lv' := [(3, .int (x3 + (1 : Int32))), (0, .ref o), (1, .int x1), (2, .int x2)]) hx hb dX1_number_16 hl (k := 3) rfl rfl (by decide) rfl (fun ls hl => ?_)
        refine lv_goto (tgt := 2) hx hb dX1_number_19 (by decide) ?_
        exact ih u2.1 u2.2.1 u2.2.2.1 u2.2.2.2 (x3 + (1 : Int32)) _ _ _ hP hD hS (lv_sub hl [1, 2, 3, 0] rfl) h
  unfold pX1_number at h
  refine lv_iconst (v := (0 : Int32)) hx hb dX1_number_0 (by decide) ?_
  refine lv_istore_n (lv' := [(3, .int (0 : Int32)), (0, .ref o), (1, .int x1), (2, .int x2)]) hx hb dX1_number_1 rfl hl (by decide) rfl (fun ls hl => ?_)
  exact wB2 fb_F o_held o_filled o_row_size o_row_bytes_v (0 : Int32) _ _ _ hP hD hS (lv_sub hl [1, 2, 3, 0] rfl) h
theorem dX1_symbol_0 : decode cX1_symbol 0 = .ok (.aload_n 1, 1) := by decide +kernel
theorem dX1_symbol_1 : decode cX1_symbol 1 = .ok (.getfield 29, 3) := by decide +kernel
theorem dX1_symbol_4 : decode cX1_symbol 4 = .ok (.iload_n 2, 1) := by decide +kernel
theorem dX1_symbol_5 : decode cX1_symbol 5 = .ok (.iaload, 1) := by decide +kernel
theorem dX1_symbol_6 : decode cX1_symbol 6 = .ok (.istore_n 3, 1) := by decide +kernel
theorem dX1_symbol_7 : decode cX1_symbol 7 = .ok (.aload_n 1, 1) := by decide +kernel
theorem dX1_symbol_8 : decode cX1_symbol 8 = .ok (.getfield 35, 3) := by decide +kernel
theorem dX1_symbol_11 : decode cX1_symbol 11 = .ok (.iload_n 2, 1) := by decide +kernel
theorem dX1_symbol_12 : decode cX1_symbol 12 = .ok (.iaload, 1) := by decide +kernel
theorem dX1_symbol_13 : decode cX1_symbol 13 = .ok (.iconst 1, 1) := by decide +kernel
theorem dX1_symbol_14 : decode cX1_symbol 14 = .ok (.isub, 1) := by decide +kernel
theorem dX1_symbol_15 : decode cX1_symbol 15 = .ok (.istore 4, 2) := by decide +kernel
theorem dX1_symbol_17 : decode cX1_symbol 17 = .ok (.iload 4, 2) := by decide +kernel
theorem dX1_symbol_19 : decode cX1_symbol 19 = .ok (.ifCond .lt 19, 3) := by decide +kernel
theorem dX1_symbol_22 : decode cX1_symbol 22 = .ok (.aload_n 0, 1) := by decide +kernel
theorem dX1_symbol_23 : decode cX1_symbol 23 = .ok (.iload_n 3, 1) := by decide +kernel
theorem dX1_symbol_24 : decode cX1_symbol 24 = .ok (.iload 4, 2) := by decide +kernel
theorem dX1_symbol_26 : decode cX1_symbol 26 = .ok (.ishr, 1) := by decide +kernel
theorem dX1_symbol_27 : decode cX1_symbol 27 = .ok (.iconst 1, 1) := by decide +kernel
theorem dX1_symbol_28 : decode cX1_symbol 28 = .ok (.iand, 1) := by decide +kernel
theorem dX1_symbol_29 : decode cX1_symbol 29 = .ok (.invokevirtual 25, 3) := by decide +kernel
theorem dX1_symbol_32 : decode cX1_symbol 32 = .ok (.iinc 4 (-1), 3) := by decide +kernel
theorem dX1_symbol_35 : decode cX1_symbol 35 = .ok (.goto (-18), 3) := by decide +kernel
theorem dX1_symbol_38 : decode cX1_symbol 38 = .ok (.return_, 1) := by decide +kernel
def pX1_symbol_b17 (o_row_bytes_n : Nat)  : Nat → Int32 → Int32 → Int32 → (Nat → Int32) → Int32 → Int32 → Option (Int32 × Int32 × Int32 × (Nat → Int32))
  | 0 => fun _ _ _ _ _ _ => none
  | n + 1 => fun o_held o_filled o_row_size o_row_bytes_v x3 x4 =>
  if x4 < 0 then
  (some (o_held, o_filled, o_row_size, o_row_bytes_v))
  else
  ((pX1_put o_row_bytes_n ((x3 >>> (x4 &&& 31)) &&& (1 : Int32)) o_held o_filled o_row_size o_row_bytes_v).bind (fun u2 =>
  (pX1_symbol_b17 o_row_bytes_n n) u2.1 u2.2.1 u2.2.2.1 u2.2.2.2 x3 (x4 + (-1 : Int32))))
def pX1_symbol (o_row_bytes_n : Nat) (a1_codes_n : Nat) (a1_lengths_n : Nat) (a1_codes_v : Nat → Int32) (a1_lengths_v : Nat → Int32) (x2 : Int32)  (o_held : Int32) (o_filled : Int32) (o_row_size : Int32) (o_row_bytes_v : Nat → Int32) : Option (Int32 × Int32 × Int32 × (Nat → Int32)) :=
  if x2 < 0 ∨ a1_codes_n ≤ (x2).toNatClampNeg then none else
  if x2 < 0 ∨ a1_lengths_n ≤ (x2).toNatClampNeg then none else
  pX1_symbol_b17 o_row_bytes_n fb_F o_held o_filled o_row_size o_row_bytes_v (a1_codes_v (x2).toNatClampNeg) ((a1_lengths_v (x2).toNatClampNeg) - (1 : Int32))
theorem hdX1_symbol : yX1_symbol.cls = RX1 ∧ yX1_symbol.cls ≠ "java/lang/invoke/MethodHandle" ∧ yX1_symbol.cls ≠ "java/lang/invoke/VarHandle" ∧ (parseMethodDescriptor yX1_symbol.desc).map (fun d => d.parameters.length) = some 2 := by decide +kernel
set_option maxHeartbeats 8000000 in
set_option maxRecDepth 100000 in
theorem mX1_symbol (l : Launch) (dC : Nat → ClassId) (dI : Nat → Nat → Nat) (o : Nat) (a1 : Nat) (o_row : Nat) (o_row_bytes : Nat) (a1_codes : Nat) (a1_lengths : Nat) (a1_byCode : Nat) (a1_ofLength : Nat) (a1_firstCode : Nat) (a1_firstPlace : Nat) (a1_given : Nat) (o_row_bytes_c : ClassId) (a1_codes_c : ClassId) (a1_lengths_c : ClassId) (o_row_bytes_n : Nat) (a1_codes_n : Nat) (a1_lengths_n : Nat) (o_held : Int32) (o_filled : Int32) (o_row_size : Int32) (o_row_bytes_v : Nat → Int32) (a1_longest : Int32) (a1_codes_v : Nat → Int32) (a1_lengths_v : Nat → Int32) (x2 : Int32) (sz : Nat) (u : Int32 × Int32 × Int32 × (Nat → Int32)) (h : pX1_symbol o_row_bytes_n a1_codes_n a1_lengths_n a1_codes_v a1_lengths_v x2 o_held o_filled o_row_size o_row_bytes_v = some u) : Met l yX1_symbol (Cond.code yX1_symbol cX1_symbol 5 none :: fb_tb) ({ frames := 2, cells := 0, slots := 0, locals := 42 }) (fb_Pc (dC, dI) [.ref o, .ref a1, .int x2] sz [(o_row_bytes_c, .byte), (a1_codes_c, .int), (a1_lengths_c, .int)] [(o, .inr (1, [.ref o_row, .int o_held, .int o_filled])), (o_row, .inr (6, [.ref o_row_bytes, .int o_row_size])), (o_row_bytes, .inl (o_row_bytes_c, o_row_bytes_n, .inl o_row_bytes_v)), (a1, .inr (2, [.ref a1_lengths, .ref a1_codes, .ref a1_byCode, .ref a1_ofLength, .ref a1_firstCode, .ref a1_firstPlace, .ref a1_given, .int a1_longest])), (a1_codes, .inl (a1_codes_c, a1_codes_n, .inl a1_codes_v)), (a1_lengths, .inl (a1_lengths_c, a1_lengths_n, .inl a1_lengths_v))]) (fb_Qv (dC, dI) [(o, .inr (1, [.ref o_row, .int u.1, .int u.2.1])), (o_row, .inr (6, [.ref o_row_bytes, .int u.2.2.1])), (o_row_bytes, .inl (o_row_bytes_c, o_row_bytes_n, .inl u.2.2.2)), (a1, .inr (2, [.ref a1_lengths, .ref a1_codes, .ref a1_byCode, .ref a1_ofLength, .ref a1_firstCode, .ref a1_firstPlace, .ref a1_given, .int a1_longest])), (a1_codes, .inl (a1_codes_c, a1_codes_n, .inl a1_codes_v)), (a1_lengths, .inl (a1_lengths_c, a1_lengths_n, .inl a1_lengths_v))] (va_A [(o, .inr (1, [.ref o_row, .int o_held, .int o_filled])), (o_row, .inr (6, [.ref o_row_bytes, .int o_row_size])), (o_row_bytes, .inl (o_row_bytes_c, o_row_bytes_n, .inl o_row_bytes_v)), (a1, .inr (2, [.ref a1_lengths, .ref a1_codes, .ref a1_byCode, .ref a1_ofLength, .ref a1_firstCode, .ref a1_firstPlace, .ref a1_given, .int a1_longest])), (a1_codes, .inl (a1_codes_c, a1_codes_n, .inl a1_codes_v)), (a1_lengths, .inl (a1_lengths_c, a1_lengths_n, .inl a1_lengths_v))] sz)) 0 0 (va_A [(o, .inr (1, [.ref o_row, .int o_held, .int o_filled])), (o_row, .inr (6, [.ref o_row_bytes, .int o_row_size])), (o_row_bytes, .inl (o_row_bytes_c, o_row_bytes_n, .inl o_row_bytes_v)), (a1, .inr (2, [.ref a1_lengths, .ref a1_codes, .ref a1_byCode, .ref a1_ofLength, .ref a1_firstCode, .ref a1_firstPlace, .ref a1_given, .int a1_longest])), (a1_codes, .inl (a1_codes_c, a1_codes_n, .inl a1_codes_v)), (a1_lengths, .inl (a1_lengths_c, a1_lengths_n, .inl a1_lengths_v))] sz) := by
  refine fb_metv (by decide) (Nat.le_of_ble_eq_true rfl) (fun p e s m args below meth c A Q ls H hx hb hml hown hts hP hK hN hZ hD hA hS hret hl => ?_)
  replace hl : lv_has ls 5 [(0, .ref o), (1, .ref a1), (2, .int x2)] := hl
  have wB17 : ∀ n : Nat, ∀ (o_held : Int32) (o_filled : Int32) (o_row_size : Int32) (o_row_bytes_v : Nat → Int32) (x3 : Int32) (x4 : Int32) (H : Heap) (locs : List Loc) (ls : Array Slot), va_P (dC, dI) fb_cl [(o, .inr (1, [.ref o_row, .int o_held, .int o_filled])), (o_row, .inr (6, [.ref o_row_bytes, .int o_row_size])), (o_row_bytes, .inl (o_row_bytes_c, o_row_bytes_n, .inl o_row_bytes_v)), (a1, .inr (2, [.ref a1_lengths, .ref a1_codes, .ref a1_byCode, .ref a1_ofLength, .ref a1_firstCode, .ref a1_firstPlace, .ref a1_given, .int a1_longest])), (a1_codes, .inl (a1_codes_c, a1_codes_n, .inl a1_codes_v)), (a1_lengths, .inl (a1_lengths_c, a1_lengths_n, .inl a1_lengths_v))] H → va_D A [(o, .inr (1, [.ref o_row, .int o_held, .int o_filled])), (o_row, .inr (6, [.ref o_row_bytes, .int o_row_size])), (o_row_bytes, .inl (o_row_bytes_c, o_row_bytes_n, .inl o_row_bytes_v)), (a1, .inr (2, [.ref a1_lengths, .ref a1_codes, .ref a1_byCode, .ref a1_ofLength, .ref a1_firstCode, .ref a1_firstPlace, .ref a1_given, .int a1_longest])), (a1_codes, .inl (a1_codes_c, a1_codes_n, .inl a1_codes_v)), (a1_lengths, .inl (a1_lengths_c, a1_lengths_n, .inl a1_lengths_v))] → va_S A s.heap H locs → lv_has ls 5 [(0, .ref o), (3, .int x3), (4, .int x4)] → pX1_symbol_b17 o_row_bytes_n n o_held o_filled o_row_size o_row_bytes_v x3 x4 = some u → W p l e ({ frames := 2, cells := 0, slots := 0, locals := 42 }) s m args below meth c H locs 0 0 Q (F0 m 17 ls []) := by
    intro n
    induction n with
    | zero => intro o_held o_filled o_row_size o_row_bytes_v x3 x4 H locs ls hP hD hS hl h; cases h
    | succ n ih =>
      intro o_held o_filled o_row_size o_row_bytes_v x3 x4 H locs ls hP hD hS hl h
      rw [pX1_symbol_b17] at h
      refine lv_iload hx hb dX1_symbol_17 (lv_at hl 2 rfl) ?_
      refine lv_if_lt (tgt := 38) hx hb dX1_symbol_19 (by decide) (fun c1 => ?_) (fun c1 => ?_)
      · replace h := fb_t c1 h
        have hu := Option.some.inj h
        exact hret _ _ _ _ dX1_symbol_38 (by rw [← hu]; exact hP) (by rw [← hu]; exact hD) hS
      · replace h := fb_f c1 h
        refine lv_aload_n hx hb dX1_symbol_22 rfl (lv_at hl 0 rfl) ?_
        refine lv_iload_n hx hb dX1_symbol_23 rfl (lv_at hl 1 rfl) ?_
        refine lv_iload hx hb dX1_symbol_24 (lv_at hl 2 rfl) ?_
        refine lv_ishr hx hb dX1_symbol_26 ?_
        refine lv_iconst (v := (1 : Int32)) hx hb dX1_symbol_27 (by decide) ?_
        refine lv_iand hx hb dX1_symbol_28 ?_
        obtain ⟨u2, e2, h⟩ := fb_b h
        refine fb_cv (wc := [(o, .inr (1, [.ref o_row, .int o_held, .int o_filled])), (o_row, .inr (6, [.ref o_row_bytes, .int o_row_size])), (o_row_bytes, .inl (o_row_bytes_c, o_row_bytes_n, .inl o_row_bytes_v))]) (wr := [(a1, .inr (2, [.ref a1_lengths, .ref a1_codes, .ref a1_byCode, .ref a1_ofLength, .ref a1_firstCode, .ref a1_firstPlace, .ref a1_given, .int a1_longest])), (a1_codes, .inl (a1_codes_c, a1_codes_n, .inl a1_codes_v)), (a1_lengths, .inl (a1_lengths_c, a1_lengths_n, .inl a1_lengths_v))]) (w1 := [(o, .inr (1, [.ref o_row, .int u2.1, .int u2.2.1])), (o_row, .inr (6, [.ref o_row_bytes, .int u2.2.2.1])), (o_row_bytes, .inl (o_row_bytes_c, o_row_bytes_n, .inl u2.2.2.2))]) (ws' := [(o, .inr (1, [.ref o_row, .int u2.1, .int u2.2.1])), (o_row, .inr (6, [.ref o_row_bytes, .int u2.2.2.1])), (o_row_bytes, .inl (o_row_bytes_c, o_row_bytes_n, .inl u2.2.2.2)), (a1, .inr (2, [.ref a1_lengths, .ref a1_codes, .ref a1_byCode, .ref a1_ofLength, .ref a1_firstCode, .ref a1_firstPlace, .ref a1_given, .int a1_longest])), (a1_codes, .inl (a1_codes_c, a1_codes_n, .inl a1_codes_v)), (a1_lengths, .inl (a1_lengths_c, a1_lengths_n, .inl a1_lengths_v))]) (va_runV (As := [.int ((x3 >>> (x4 &&& 31)) &&& (1 : Int32))]) (rest := []) ⟨hx, hb, hml, hown, hts⟩ (mX1_put l dC dI o o_row o_row_bytes o_row_bytes_c o_row_bytes_n o_held o_filled o_row_size o_row_bytes_v ((x3 >>> (x4 &&& 31)) &&& (1 : Int32)) H.size u2 e2) (cwV 1 hts (fb_GV k_602 k_604 k_19 k_71 k_605) rfl rfl rfl hdX1_put ⟨Nat.le_of_ble_eq_true rfl, Nat.le_of_ble_eq_true rfl⟩) (fb_pV hP hD hS hA hK hN hZ [0, 1, 2] rfl rfl [0] rfl (q0 := 0) (ci := 1) rfl rfl) rfl rfl hl.1 rfl (lv_room (Nat.le_of_ble_eq_true rfl)) dX1_symbol_29 ⟨Nat.le_of_ble_eq_true rfl, Nat.le_of_ble_eq_true rfl⟩) hP hD hS hA [0, 1, 2] [3, 4, 5] rfl rfl rfl (by decide) [3, 4, 5, 0, 1, 2] rfl rfl (fun H locs hP hD hS => ?_)
        refine lv_iinc (v := (x4 + (-1 : Int32))) (lv' := [(4, .int (x4 + (-1 : Int32))), (0, .ref o), (3, .int x3)]) hx hb dX1_symbol_32 hl (k := 2) rfl rfl (by decide) rfl (fun ls hl => ?_)
        refine lv_goto (tgt := 17) hx hb dX1_symbol_35 (by decide) ?_
        exact ih u2.1 u2.2.1 u2.2.2.1 u2.2.2.2 x3 (x4 + (-1 : Int32)) _ _ _ hP hD hS (lv_sub hl [1, 2, 0] rfl) h
  unfold pX1_symbol at h
  refine lv_aload_n hx hb dX1_symbol_0 rfl (lv_at hl 1 rfl) ?_
  refine va_get (D := (dC, dI)) (ci := 2) (v := .ref a1_codes) (C := RX2) (T := TX2) (N := 8) hx hb hts i_X2 hown hK hP 3 rfl rfl 1 (by decide) (hts _ k_162) (fun _ h9 => h9) rfl dX1_symbol_1 ?_
  refine lv_iload_n hx hb dX1_symbol_4 rfl (lv_at hl 2 rfl) ?_
  obtain ⟨g3, h⟩ := fb_g h
  refine va_iald hx hb hK hP 4 1 rfl rfl g3 dX1_symbol_5 ?_
  refine lv_istore_n (lv' := [(3, .int (a1_codes_v (x2).toNatClampNeg)), (0, .ref o), (1, .ref a1), (2, .int x2)]) hx hb dX1_symbol_6 rfl hl (by decide) rfl (fun ls hl => ?_)
  refine lv_aload_n hx hb dX1_symbol_7 rfl (lv_at hl 2 rfl) ?_
  refine va_get (D := (dC, dI)) (ci := 2) (v := .ref a1_lengths) (C := RX2) (T := TX2) (N := 8) hx hb hts i_X2 hown hK hP 3 rfl rfl 0 (by decide) (hts _ k_158) (fun _ h9 => h9) rfl dX1_symbol_8 ?_
  refine lv_iload_n hx hb dX1_symbol_11 rfl (lv_at hl 3 rfl) ?_
  obtain ⟨g4, h⟩ := fb_g h
  refine va_iald hx hb hK hP 5 2 rfl rfl g4 dX1_symbol_12 ?_
  refine lv_iconst (v := (1 : Int32)) hx hb dX1_symbol_13 (by decide) ?_
  refine lv_isub hx hb dX1_symbol_14 ?_
  refine lv_istore (lv' := [(4, .int ((a1_lengths_v (x2).toNatClampNeg) - (1 : Int32))), (3, .int (a1_codes_v (x2).toNatClampNeg)), (0, .ref o), (1, .ref a1), (2, .int x2)]) hx hb dX1_symbol_15 hl (by decide) rfl (fun ls hl => ?_)
  exact wB17 fb_F o_held o_filled o_row_size o_row_bytes_v (a1_codes_v (x2).toNatClampNeg) ((a1_lengths_v (x2).toNatClampNeg) - (1 : Int32)) _ _ _ hP hD hS (lv_sub hl [2, 1, 0] rfl) h
theorem dX1_toWholeByte_0 : decode cX1_toWholeByte 0 = .ok (.bipush 8, 2) := by decide +kernel
theorem dX1_toWholeByte_2 : decode cX1_toWholeByte 2 = .ok (.aload_n 0, 1) := by decide +kernel
theorem dX1_toWholeByte_3 : decode cX1_toWholeByte 3 = .ok (.getfield 22, 3) := by decide +kernel
theorem dX1_toWholeByte_6 : decode cX1_toWholeByte 6 = .ok (.isub, 1) := by decide +kernel
theorem dX1_toWholeByte_7 : decode cX1_toWholeByte 7 = .ok (.bipush 8, 2) := by decide +kernel
theorem dX1_toWholeByte_9 : decode cX1_toWholeByte 9 = .ok (.irem, 1) := by decide +kernel
theorem dX1_toWholeByte_10 : decode cX1_toWholeByte 10 = .ok (.istore_n 1, 1) := by decide +kernel
theorem dX1_toWholeByte_11 : decode cX1_toWholeByte 11 = .ok (.iconst 0, 1) := by decide +kernel
theorem dX1_toWholeByte_12 : decode cX1_toWholeByte 12 = .ok (.istore_n 2, 1) := by decide +kernel
theorem dX1_toWholeByte_13 : decode cX1_toWholeByte 13 = .ok (.iload_n 2, 1) := by decide +kernel
theorem dX1_toWholeByte_14 : decode cX1_toWholeByte 14 = .ok (.iload_n 1, 1) := by decide +kernel
theorem dX1_toWholeByte_15 : decode cX1_toWholeByte 15 = .ok (.if_icmp .ge 14, 3) := by decide +kernel
theorem dX1_toWholeByte_18 : decode cX1_toWholeByte 18 = .ok (.aload_n 0, 1) := by decide +kernel
theorem dX1_toWholeByte_19 : decode cX1_toWholeByte 19 = .ok (.iconst 0, 1) := by decide +kernel
theorem dX1_toWholeByte_20 : decode cX1_toWholeByte 20 = .ok (.invokevirtual 25, 3) := by decide +kernel
theorem dX1_toWholeByte_23 : decode cX1_toWholeByte 23 = .ok (.iinc 2 1, 3) := by decide +kernel
theorem dX1_toWholeByte_26 : decode cX1_toWholeByte 26 = .ok (.goto (-13), 3) := by decide +kernel
theorem dX1_toWholeByte_29 : decode cX1_toWholeByte 29 = .ok (.return_, 1) := by decide +kernel
def pX1_toWholeByte_b13 (o_row_bytes_n : Nat)  : Nat → Int32 → Int32 → Int32 → (Nat → Int32) → Int32 → Int32 → Option (Int32 × Int32 × Int32 × (Nat → Int32))
  | 0 => fun _ _ _ _ _ _ => none
  | n + 1 => fun o_held o_filled o_row_size o_row_bytes_v x1 x2 =>
  if x1 ≤ x2 then
  (some (o_held, o_filled, o_row_size, o_row_bytes_v))
  else
  ((pX1_put o_row_bytes_n (0 : Int32) o_held o_filled o_row_size o_row_bytes_v).bind (fun u2 =>
  (pX1_toWholeByte_b13 o_row_bytes_n n) u2.1 u2.2.1 u2.2.2.1 u2.2.2.2 x1 (x2 + (1 : Int32))))
def pX1_toWholeByte (o_row_bytes_n : Nat)  (o_held : Int32) (o_filled : Int32) (o_row_size : Int32) (o_row_bytes_v : Nat → Int32) : Option (Int32 × Int32 × Int32 × (Nat → Int32)) :=
  pX1_toWholeByte_b13 o_row_bytes_n fb_F o_held o_filled o_row_size o_row_bytes_v (((8 : Int32) - o_filled) - ((8 : Int32) - o_filled) / (8 : Int32) * (8 : Int32)) (0 : Int32)
theorem hdX1_toWholeByte : yX1_toWholeByte.cls = RX1 ∧ yX1_toWholeByte.cls ≠ "java/lang/invoke/MethodHandle" ∧ yX1_toWholeByte.cls ≠ "java/lang/invoke/VarHandle" ∧ (parseMethodDescriptor yX1_toWholeByte.desc).map (fun d => d.parameters.length) = some 0 := by decide +kernel
set_option maxHeartbeats 8000000 in
set_option maxRecDepth 100000 in
theorem mX1_toWholeByte (l : Launch) (dC : Nat → ClassId) (dI : Nat → Nat → Nat) (o : Nat) (o_row : Nat) (o_row_bytes : Nat) (o_row_bytes_c : ClassId) (o_row_bytes_n : Nat) (o_held : Int32) (o_filled : Int32) (o_row_size : Int32) (o_row_bytes_v : Nat → Int32)  (sz : Nat) (u : Int32 × Int32 × Int32 × (Nat → Int32)) (h : pX1_toWholeByte o_row_bytes_n o_held o_filled o_row_size o_row_bytes_v = some u) : Met l yX1_toWholeByte (Cond.code yX1_toWholeByte cX1_toWholeByte 3 none :: fb_tb) ({ frames := 2, cells := 0, slots := 0, locals := 42 }) (fb_Pc (dC, dI) [.ref o] sz [(o_row_bytes_c, .byte)] [(o, .inr (1, [.ref o_row, .int o_held, .int o_filled])), (o_row, .inr (6, [.ref o_row_bytes, .int o_row_size])), (o_row_bytes, .inl (o_row_bytes_c, o_row_bytes_n, .inl o_row_bytes_v))]) (fb_Qv (dC, dI) [(o, .inr (1, [.ref o_row, .int u.1, .int u.2.1])), (o_row, .inr (6, [.ref o_row_bytes, .int u.2.2.1])), (o_row_bytes, .inl (o_row_bytes_c, o_row_bytes_n, .inl u.2.2.2))] (va_A [(o, .inr (1, [.ref o_row, .int o_held, .int o_filled])), (o_row, .inr (6, [.ref o_row_bytes, .int o_row_size])), (o_row_bytes, .inl (o_row_bytes_c, o_row_bytes_n, .inl o_row_bytes_v))] sz)) 0 0 (va_A [(o, .inr (1, [.ref o_row, .int o_held, .int o_filled])), (o_row, .inr (6, [.ref o_row_bytes, .int o_row_size])), (o_row_bytes, .inl (o_row_bytes_c, o_row_bytes_n, .inl o_row_bytes_v))] sz) := by
  refine fb_metv (by decide) (Nat.le_of_ble_eq_true rfl) (fun p e s m args below meth c A Q ls H hx hb hml hown hts hP hK hN hZ hD hA hS hret hl => ?_)
  replace hl : lv_has ls 3 [(0, .ref o)] := hl
  have wB13 : ∀ n : Nat, ∀ (o_held : Int32) (o_filled : Int32) (o_row_size : Int32) (o_row_bytes_v : Nat → Int32) (x1 : Int32) (x2 : Int32) (H : Heap) (locs : List Loc) (ls : Array Slot), va_P (dC, dI) fb_cl [(o, .inr (1, [.ref o_row, .int o_held, .int o_filled])), (o_row, .inr (6, [.ref o_row_bytes, .int o_row_size])), (o_row_bytes, .inl (o_row_bytes_c, o_row_bytes_n, .inl o_row_bytes_v))] H → va_D A [(o, .inr (1, [.ref o_row, .int o_held, .int o_filled])), (o_row, .inr (6, [.ref o_row_bytes, .int o_row_size])), (o_row_bytes, .inl (o_row_bytes_c, o_row_bytes_n, .inl o_row_bytes_v))] → va_S A s.heap H locs → lv_has ls 3 [(0, .ref o), (1, .int x1), (2, .int x2)] → pX1_toWholeByte_b13 o_row_bytes_n n o_held o_filled o_row_size o_row_bytes_v x1 x2 = some u → W p l e ({ frames := 2, cells := 0, slots := 0, locals := 42 }) s m args below meth c H locs 0 0 Q (F0 m 13 ls []) := by
    intro n
    induction n with
    | zero => intro o_held o_filled o_row_size o_row_bytes_v x1 x2 H locs ls hP hD hS hl h; cases h
    | succ n ih =>
      intro o_held o_filled o_row_size o_row_bytes_v x1 x2 H locs ls hP hD hS hl h
      rw [pX1_toWholeByte_b13] at h
      refine lv_iload_n hx hb dX1_toWholeByte_13 rfl (lv_at hl 2 rfl) ?_
      refine lv_iload_n hx hb dX1_toWholeByte_14 rfl (lv_at hl 1 rfl) ?_
      refine lv_icmp_ge (tgt := 29) hx hb dX1_toWholeByte_15 (by decide) (fun c1 => ?_) (fun c1 => ?_)
      · replace h := fb_t c1 h
        have hu := Option.some.inj h
        exact hret _ _ _ _ dX1_toWholeByte_29 (by rw [← hu]; exact hP) (by rw [← hu]; exact hD) hS
      · replace h := fb_f c1 h
        refine lv_aload_n hx hb dX1_toWholeByte_18 rfl (lv_at hl 0 rfl) ?_
        refine lv_iconst (v := (0 : Int32)) hx hb dX1_toWholeByte_19 (by decide) ?_
        obtain ⟨u2, e2, h⟩ := fb_b h
        refine fb_cv (wc := [(o, .inr (1, [.ref o_row, .int o_held, .int o_filled])), (o_row, .inr (6, [.ref o_row_bytes, .int o_row_size])), (o_row_bytes, .inl (o_row_bytes_c, o_row_bytes_n, .inl o_row_bytes_v))]) (wr := []) (w1 := [(o, .inr (1, [.ref o_row, .int u2.1, .int u2.2.1])), (o_row, .inr (6, [.ref o_row_bytes, .int u2.2.2.1])), (o_row_bytes, .inl (o_row_bytes_c, o_row_bytes_n, .inl u2.2.2.2))]) (ws' := [(o, .inr (1, [.ref o_row, .int u2.1, .int u2.2.1])), (o_row, .inr (6, [.ref o_row_bytes, .int u2.2.2.1])), (o_row_bytes, .inl (o_row_bytes_c, o_row_bytes_n, .inl u2.2.2.2))]) (va_runV (As := [.int (0 : Int32)]) (rest := []) ⟨hx, hb, hml, hown, hts⟩ (mX1_put l dC dI o o_row o_row_bytes o_row_bytes_c o_row_bytes_n o_held o_filled o_row_size o_row_bytes_v (0 : Int32) H.size u2 e2) (cwV 1 hts (fb_GV k_602 k_604 k_19 k_71 k_605) rfl rfl rfl hdX1_put ⟨Nat.le_of_ble_eq_true rfl, Nat.le_of_ble_eq_true rfl⟩) (fb_pV hP hD hS hA hK hN hZ [0, 1, 2] rfl rfl [0] rfl (q0 := 0) (ci := 1) rfl rfl) rfl rfl hl.1 rfl (lv_room (Nat.le_of_ble_eq_true rfl)) dX1_toWholeByte_20 ⟨Nat.le_of_ble_eq_true rfl, Nat.le_of_ble_eq_true rfl⟩) hP hD hS hA [0, 1, 2] [] rfl rfl rfl (by decide) [0, 1, 2] rfl rfl (fun H locs hP hD hS => ?_)
        refine lv_iinc (v := (x2 + (1 : Int32))) (lv' := [(2, .int (x2 + (1 : Int32))), (0, .ref o), (1, .int x1)]) hx hb dX1_toWholeByte_23 hl (k := 2) rfl rfl (by decide) rfl (fun ls hl => ?_)
        refine lv_goto (tgt := 13) hx hb dX1_toWholeByte_26 (by decide) ?_
        exact ih u2.1 u2.2.1 u2.2.2.1 u2.2.2.2 x1 (x2 + (1 : Int32)) _ _ _ hP hD hS (lv_sub hl [1, 2, 0] rfl) h
  unfold pX1_toWholeByte at h
  refine lv_bipush (v := (8 : Int32)) hx hb dX1_toWholeByte_0 (by decide) ?_
  refine lv_aload_n hx hb dX1_toWholeByte_2 rfl (lv_at hl 0 rfl) ?_
  refine va_get (D := (dC, dI)) (ci := 1) (v := .int o_filled) (C := RX1) (T := TX1) (N := 3) hx hb hts i_X1 hown hK hP 0 rfl rfl 2 (by decide) (hts _ k_301) (fun _ h9 => h9) rfl dX1_toWholeByte_3 ?_
  refine lv_isub hx hb dX1_toWholeByte_6 ?_
  refine lv_bipush (v := (8 : Int32)) hx hb dX1_toWholeByte_7 (by decide) ?_
  refine lv_irem hx hb dX1_toWholeByte_9 (by decide) ?_
  refine lv_istore_n (lv' := [(1, .int (((8 : Int32) - o_filled) - ((8 : Int32) - o_filled) / (8 : Int32) * (8 : Int32))), (0, .ref o)]) hx hb dX1_toWholeByte_10 rfl hl (by decide) rfl (fun ls hl => ?_)
  refine lv_iconst (v := (0 : Int32)) hx hb dX1_toWholeByte_11 (by decide) ?_
  refine lv_istore_n (lv' := [(2, .int (0 : Int32)), (1, .int (((8 : Int32) - o_filled) - ((8 : Int32) - o_filled) / (8 : Int32) * (8 : Int32))), (0, .ref o)]) hx hb dX1_toWholeByte_12 rfl hl (by decide) rfl (fun ls hl => ?_)
  exact wB13 fb_F o_held o_filled o_row_size o_row_bytes_v (((8 : Int32) - o_filled) - ((8 : Int32) - o_filled) / (8 : Int32) * (8 : Int32)) (0 : Int32) _ _ _ hP hD hS (lv_sub hl [2, 1, 0] rfl) h
theorem dJ7_fill_53178_0 : decode cJ7_fill_53178 0 = .ok (.iconst 0, 1) := by decide +kernel
theorem dJ7_fill_53178_1 : decode cJ7_fill_53178 1 = .ok (.istore_n 2, 1) := by decide +kernel
theorem dJ7_fill_53178_2 : decode cJ7_fill_53178 2 = .ok (.aload_n 0, 1) := by decide +kernel
theorem dJ7_fill_53178_3 : decode cJ7_fill_53178 3 = .ok (.arraylength, 1) := by decide +kernel
theorem dJ7_fill_53178_4 : decode cJ7_fill_53178 4 = .ok (.istore_n 3, 1) := by decide +kernel
theorem dJ7_fill_53178_5 : decode cJ7_fill_53178 5 = .ok (.iload_n 2, 1) := by decide +kernel
theorem dJ7_fill_53178_6 : decode cJ7_fill_53178 6 = .ok (.iload_n 3, 1) := by decide +kernel
theorem dJ7_fill_53178_7 : decode cJ7_fill_53178 7 = .ok (.if_icmp .ge 13, 3) := by decide +kernel
theorem dJ7_fill_53178_10 : decode cJ7_fill_53178 10 = .ok (.aload_n 0, 1) := by decide +kernel
theorem dJ7_fill_53178_11 : decode cJ7_fill_53178 11 = .ok (.iload_n 2, 1) := by decide +kernel
theorem dJ7_fill_53178_12 : decode cJ7_fill_53178 12 = .ok (.iload_n 1, 1) := by decide +kernel
theorem dJ7_fill_53178_13 : decode cJ7_fill_53178 13 = .ok (.iastore, 1) := by decide +kernel
theorem dJ7_fill_53178_14 : decode cJ7_fill_53178 14 = .ok (.iinc 2 1, 3) := by decide +kernel
theorem dJ7_fill_53178_17 : decode cJ7_fill_53178 17 = .ok (.goto (-12), 3) := by decide +kernel
theorem dJ7_fill_53178_20 : decode cJ7_fill_53178 20 = .ok (.return_, 1) := by decide +kernel
def pJ7_fill_53178_b5 (a0_n : Nat) (x1 : Int32)  : Nat → (Nat → Int32) → Int32 → Int32 → Option ((Nat → Int32))
  | 0 => fun _ _ _ => none
  | n + 1 => fun a0_v x2 x3 =>
  if x3 ≤ x2 then
  (some (a0_v))
  else
  (if x2 < 0 ∨ a0_n ≤ (x2).toNatClampNeg then none else
  (pJ7_fill_53178_b5 a0_n x1 n) (upd a0_v (x2).toNatClampNeg x1) (x2 + (1 : Int32)) x3)
def pJ7_fill_53178 (a0_n : Nat) (x1 : Int32)  (a0_v : Nat → Int32) : Option ((Nat → Int32)) :=
  pJ7_fill_53178_b5 a0_n x1 fb_F a0_v (0 : Int32) (Int32.ofNat a0_n)
theorem hdJ7_fill_53178 : yJ7_fill_53178.cls ≠ "java/lang/invoke/MethodHandle" ∧ yJ7_fill_53178.cls ≠ "java/lang/invoke/VarHandle" ∧ (parseMethodDescriptor yJ7_fill_53178.desc).map (fun d => d.parameters.length) = some 2 := by decide +kernel
set_option maxHeartbeats 8000000 in
set_option maxRecDepth 100000 in
theorem mJ7_fill_53178 (l : Launch) (dC : Nat → ClassId) (dI : Nat → Nat → Nat) (a0 : Nat) (a0_c : ClassId) (a0_n : Nat) (a0_v : Nat → Int32) (x1 : Int32) (sz : Nat) (u : (Nat → Int32)) (h : pJ7_fill_53178 a0_n x1 a0_v = some u) : Met l yJ7_fill_53178 (Cond.code yJ7_fill_53178 cJ7_fill_53178 4 none :: fb_tb) ({ frames := 0, cells := 0, slots := 0, locals := 0 }) (fb_Pc (dC, dI) [.ref a0, .int x1] sz [(a0_c, .int)] [(a0, .inl (a0_c, a0_n, .inl a0_v))]) (fb_Qv (dC, dI) [(a0, .inl (a0_c, a0_n, .inl u))] (va_A [(a0, .inl (a0_c, a0_n, .inl a0_v))] sz)) 0 0 (va_A [(a0, .inl (a0_c, a0_n, .inl a0_v))] sz) := by
  refine fb_metv (by decide) (Nat.le_of_ble_eq_true rfl) (fun p e s m args below meth c A Q ls H hx hb hml hown hts hP hK hN hZ hD hA hS hret hl => ?_)
  replace hl : lv_has ls 4 [(0, .ref a0), (1, .int x1)] := hl
  have wB5 : ∀ n : Nat, ∀ (a0_v : Nat → Int32) (x2 : Int32) (x3 : Int32) (H : Heap) (locs : List Loc) (ls : Array Slot), va_P (dC, dI) fb_cl [(a0, .inl (a0_c, a0_n, .inl a0_v))] H → va_D A [(a0, .inl (a0_c, a0_n, .inl a0_v))] → va_S A s.heap H locs → lv_has ls 4 [(0, .ref a0), (1, .int x1), (2, .int x2), (3, .int x3)] → pJ7_fill_53178_b5 a0_n x1 n a0_v x2 x3 = some u → W p l e ({ frames := 0, cells := 0, slots := 0, locals := 0 }) s m args below meth c H locs 0 0 Q (F0 m 5 ls []) := by
    intro n
    induction n with
    | zero => intro a0_v x2 x3 H locs ls hP hD hS hl h; cases h
    | succ n ih =>
      intro a0_v x2 x3 H locs ls hP hD hS hl h
      rw [pJ7_fill_53178_b5] at h
      refine lv_iload_n hx hb dJ7_fill_53178_5 rfl (lv_at hl 2 rfl) ?_
      refine lv_iload_n hx hb dJ7_fill_53178_6 rfl (lv_at hl 3 rfl) ?_
      refine lv_icmp_ge (tgt := 20) hx hb dJ7_fill_53178_7 (by decide) (fun c1 => ?_) (fun c1 => ?_)
      · replace h := fb_t c1 h
        have hu := Option.some.inj h
        exact hret _ _ _ _ dJ7_fill_53178_20 (by rw [← hu]; exact hP) (by rw [← hu]; exact hD) hS
      · replace h := fb_f c1 h
        refine lv_aload_n hx hb dJ7_fill_53178_10 rfl (lv_at hl 0 rfl) ?_
        refine lv_iload_n hx hb dJ7_fill_53178_11 rfl (lv_at hl 2 rfl) ?_
        refine lv_iload_n hx hb dJ7_fill_53178_12 rfl (lv_at hl 1 rfl) ?_
        obtain ⟨g2, h⟩ := fb_g h
        refine va_iast hx hb hK hP hD hS 0 0 rfl rfl g2 dJ7_fill_53178_13 (fun H locs hP hD hS => ?_)
        replace hP : va_P (dC, dI) fb_cl [(a0, .inl (a0_c, a0_n, .inl (upd a0_v (x2).toNatClampNeg x1)))] H := hP
        replace hD : va_D A [(a0, .inl (a0_c, a0_n, .inl (upd a0_v (x2).toNatClampNeg x1)))] := hD
        refine lv_iinc (v := (x2 + (1 : Int32))) (lv' := [(2, .int (x2 + (1 : Int32))), (0, .ref a0), (1, .int x1), (3, .int x3)]) hx hb dJ7_fill_53178_14 hl (k := 2) rfl rfl (by decide) rfl (fun ls hl => ?_)
        refine lv_goto (tgt := 5) hx hb dJ7_fill_53178_17 (by decide) ?_
        exact ih (upd a0_v (x2).toNatClampNeg x1) (x2 + (1 : Int32)) x3 _ _ _ hP hD hS (lv_sub hl [1, 2, 0, 3] rfl) h
  unfold pJ7_fill_53178 at h
  refine lv_iconst (v := (0 : Int32)) hx hb dJ7_fill_53178_0 (by decide) ?_
  refine lv_istore_n (lv' := [(2, .int (0 : Int32)), (0, .ref a0), (1, .int x1)]) hx hb dJ7_fill_53178_1 rfl hl (by decide) rfl (fun ls hl => ?_)
  refine lv_aload_n hx hb dJ7_fill_53178_2 rfl (lv_at hl 1 rfl) ?_
  refine va_alen (v := (Int32.ofNat a0_n)) hx hb hK hP 0 0 rfl rfl rfl dJ7_fill_53178_3 ?_
  refine lv_istore_n (lv' := [(3, .int (Int32.ofNat a0_n)), (2, .int (0 : Int32)), (0, .ref a0), (1, .int x1)]) hx hb dJ7_fill_53178_4 rfl hl (by decide) rfl (fun ls hl => ?_)
  exact wB5 fb_F a0_v (0 : Int32) (Int32.ofNat a0_n) _ _ _ hP hD hS (lv_sub hl [2, 3, 1, 0] rfl) h
theorem dX2_tell_0 : decode cX2_tell 0 = .ok (.aload_n 0, 1) := by decide +kernel
theorem dX2_tell_1 : decode cX2_tell 1 = .ok (.getfield 24, 3) := by decide +kernel
theorem dX2_tell_4 : decode cX2_tell 4 = .ok (.iconst 0, 1) := by decide +kernel
theorem dX2_tell_5 : decode cX2_tell 5 = .ok (.invokestatic 33, 3) := by decide +kernel
theorem dX2_tell_8 : decode cX2_tell 8 = .ok (.aload_n 1, 1) := by decide +kernel
theorem dX2_tell_9 : decode cX2_tell 9 = .ok (.iload_n 2, 1) := by decide +kernel
theorem dX2_tell_10 : decode cX2_tell 10 = .ok (.aload_n 0, 1) := by decide +kernel
theorem dX2_tell_11 : decode cX2_tell 11 = .ok (.getfield 24, 3) := by decide +kernel
theorem dX2_tell_14 : decode cX2_tell 14 = .ok (.iconst 0, 1) := by decide +kernel
theorem dX2_tell_15 : decode cX2_tell 15 = .ok (.iload_n 3, 1) := by decide +kernel
theorem dX2_tell_16 : decode cX2_tell 16 = .ok (.invokestatic 39, 3) := by decide +kernel
theorem dX2_tell_19 : decode cX2_tell 19 = .ok (.return_, 1) := by decide +kernel
def pX2_tell (o_lengths_n : Nat) (a1_n : Nat) (a1_v : Nat → Int32) (x2 : Int32) (x3 : Int32)  (o_lengths_v : Nat → Int32) : Option ((Nat → Int32)) :=
  (pJ7_fill_53178 o_lengths_n (0 : Int32) o_lengths_v).bind (fun u1 =>
  if ¬ x2 < 0 ∧ ¬ (0 : Int32) < 0 ∧ ¬ x3 < 0 ∧ (x2).toNatClampNeg + (x3).toNatClampNeg ≤ a1_n ∧ ((0 : Int32)).toNatClampNeg + (x3).toNatClampNeg ≤ o_lengths_n then
  (some ((va_cpy a1_v u1 (x2).toNatClampNeg ((0 : Int32)).toNatClampNeg (x3).toNatClampNeg))) else none)
theorem hdX2_tell : yX2_tell.cls = RX2 ∧ yX2_tell.cls ≠ "java/lang/invoke/MethodHandle" ∧ yX2_tell.cls ≠ "java/lang/invoke/VarHandle" ∧ (parseMethodDescriptor yX2_tell.desc).map (fun d => d.parameters.length) = some 3 := by decide +kernel
set_option maxHeartbeats 8000000 in
set_option maxRecDepth 100000 in
theorem mX2_tell (l : Launch) (dC : Nat → ClassId) (dI : Nat → Nat → Nat) (o : Nat) (a1 : Nat) (o_lengths : Nat) (o_codes : Nat) (o_byCode : Nat) (o_ofLength : Nat) (o_firstCode : Nat) (o_firstPlace : Nat) (o_given : Nat) (o_lengths_c : ClassId) (a1_c : ClassId) (o_lengths_n : Nat) (a1_n : Nat) (o_longest : Int32) (o_lengths_v : Nat → Int32) (a1_v : Nat → Int32) (x2 : Int32) (x3 : Int32) (sz : Nat) (u : (Nat → Int32)) (h : pX2_tell o_lengths_n a1_n a1_v x2 x3 o_lengths_v = some u) : Met l yX2_tell (Cond.code yX2_tell cX2_tell 4 none :: fb_tb) ({ frames := 1, cells := 0, slots := 0, locals := 23 }) (fb_Pc (dC, dI) [.ref o, .ref a1, .int x2, .int x3] sz [(o_lengths_c, .int), (a1_c, .int)] [(o, .inr (2, [.ref o_lengths, .ref o_codes, .ref o_byCode, .ref o_ofLength, .ref o_firstCode, .ref o_firstPlace, .ref o_given, .int o_longest])), (o_lengths, .inl (o_lengths_c, o_lengths_n, .inl o_lengths_v)), (a1, .inl (a1_c, a1_n, .inl a1_v))]) (fb_Qv (dC, dI) [(o, .inr (2, [.ref o_lengths, .ref o_codes, .ref o_byCode, .ref o_ofLength, .ref o_firstCode, .ref o_firstPlace, .ref o_given, .int o_longest])), (o_lengths, .inl (o_lengths_c, o_lengths_n, .inl u)), (a1, .inl (a1_c, a1_n, .inl a1_v))] (va_A [(o, .inr (2, [.ref o_lengths, .ref o_codes, .ref o_byCode, .ref o_ofLength, .ref o_firstCode, .ref o_firstPlace, .ref o_given, .int o_longest])), (o_lengths, .inl (o_lengths_c, o_lengths_n, .inl o_lengths_v)), (a1, .inl (a1_c, a1_n, .inl a1_v))] sz)) 0 0 (va_A [(o, .inr (2, [.ref o_lengths, .ref o_codes, .ref o_byCode, .ref o_ofLength, .ref o_firstCode, .ref o_firstPlace, .ref o_given, .int o_longest])), (o_lengths, .inl (o_lengths_c, o_lengths_n, .inl o_lengths_v)), (a1, .inl (a1_c, a1_n, .inl a1_v))] sz) := by
  refine fb_metv (by decide) (Nat.le_of_ble_eq_true rfl) (fun p e s m args below meth c A Q ls H hx hb hml hown hts hP hK hN hZ hD hA hS hret hl => ?_)
  replace hl : lv_has ls 4 [(0, .ref o), (1, .ref a1), (2, .int x2), (3, .int x3)] := hl
  unfold pX2_tell at h
  refine lv_aload_n hx hb dX2_tell_0 rfl (lv_at hl 0 rfl) ?_
  refine va_get (D := (dC, dI)) (ci := 2) (v := .ref o_lengths) (C := RX2) (T := TX2) (N := 8) hx hb hts i_X2 hown hK hP 0 rfl rfl 0 (by decide) (hts _ k_156) (fun _ h9 => h9) rfl dX2_tell_1 ?_
  refine lv_iconst (v := (0 : Int32)) hx hb dX2_tell_4 (by decide) ?_
  obtain ⟨u1, e1, h⟩ := fb_b h
  refine fb_cv (wc := [(o_lengths, .inl (o_lengths_c, o_lengths_n, .inl o_lengths_v))]) (wr := [(o, .inr (2, [.ref o_lengths, .ref o_codes, .ref o_byCode, .ref o_ofLength, .ref o_firstCode, .ref o_firstPlace, .ref o_given, .int o_longest])), (a1, .inl (a1_c, a1_n, .inl a1_v))]) (w1 := [(o_lengths, .inl (o_lengths_c, o_lengths_n, .inl u1))]) (ws' := [(o, .inr (2, [.ref o_lengths, .ref o_codes, .ref o_byCode, .ref o_ofLength, .ref o_firstCode, .ref o_firstPlace, .ref o_given, .int o_longest])), (o_lengths, .inl (o_lengths_c, o_lengths_n, .inl u1)), (a1, .inl (a1_c, a1_n, .inl a1_v))]) (va_runS (As := [.ref o_lengths, .int (0 : Int32)]) (rest := []) ⟨hx, hb, hml, hown, hts⟩ (mJ7_fill_53178 l dC dI o_lengths o_lengths_c o_lengths_n o_lengths_v (0 : Int32) H.size u1 e1) (va_cwS 2 hts (fb_GSx k_524 k_438 k_75 k_439) rfl rfl rfl hdJ7_fill_53178 ⟨Nat.le_of_ble_eq_true rfl, Nat.le_of_ble_eq_true rfl⟩) (fb_pS hP hD hS hA hK hN hZ [1] rfl rfl [0] rfl) rfl rfl hl.1 rfl (lv_room (Nat.le_of_ble_eq_true rfl)) dX2_tell_5 ⟨Nat.le_of_ble_eq_true rfl, Nat.le_of_ble_eq_true rfl⟩) hP hD hS hA [1] [0, 2] rfl rfl rfl (by decide) [0, 2, 1] rfl rfl (fun H locs hP hD hS => ?_)
  refine lv_aload_n hx hb dX2_tell_8 rfl (lv_at hl 1 rfl) ?_
  refine lv_iload_n hx hb dX2_tell_9 rfl (lv_at hl 2 rfl) ?_
  refine lv_aload_n hx hb dX2_tell_10 rfl (lv_at hl 0 rfl) ?_
  refine va_get (D := (dC, dI)) (ci := 2) (v := .ref o_lengths) (C := RX2) (T := TX2) (N := 8) hx hb hts i_X2 hown hK hP 0 rfl rfl 0 (by decide) (hts _ k_156) (fun _ h9 => h9) rfl dX2_tell_11 ?_
  refine lv_iconst (v := (0 : Int32)) hx hb dX2_tell_14 (by decide) ?_
  refine lv_iload_n hx hb dX2_tell_15 rfl (lv_at hl 3 rfl) ?_
  obtain ⟨g2, h⟩ := fb_h h
  refine va_copyi (ty := .int) hx hb (hml.trans hl.1.symm) hown (hts _ k_769) (hts _ k_493) (hts _ k_492) (hts _ k_76) hK hP hD hS 2 1 1 0 rfl rfl rfl rfl rfl g2.1 g2.2.1 g2.2.2.1 g2.2.2.2.1 g2.2.2.2.2 (fun _ _ => rfl) (Nat.le_of_ble_eq_true rfl) (Nat.le_of_ble_eq_true rfl) dX2_tell_16 (fun H locs hP hD hS => ?_)
  replace hP : va_P (dC, dI) fb_cl [(o, .inr (2, [.ref o_lengths, .ref o_codes, .ref o_byCode, .ref o_ofLength, .ref o_firstCode, .ref o_firstPlace, .ref o_given, .int o_longest])), (o_lengths, .inl (o_lengths_c, o_lengths_n, .inl (va_cpy a1_v u1 (x2).toNatClampNeg ((0 : Int32)).toNatClampNeg (x3).toNatClampNeg))), (a1, .inl (a1_c, a1_n, .inl a1_v))] H := hP
  replace hD : va_D A [(o, .inr (2, [.ref o_lengths, .ref o_codes, .ref o_byCode, .ref o_ofLength, .ref o_firstCode, .ref o_firstPlace, .ref o_given, .int o_longest])), (o_lengths, .inl (o_lengths_c, o_lengths_n, .inl (va_cpy a1_v u1 (x2).toNatClampNeg ((0 : Int32)).toNatClampNeg (x3).toNatClampNeg))), (a1, .inl (a1_c, a1_n, .inl a1_v))] := hD
  have hu := Option.some.inj h
  exact hret _ _ _ _ dX2_tell_19 (by rw [← hu]; exact hP) (by rw [← hu]; exact hD) hS
theorem dJ7_rangeCheck_23922_0 : decode cJ7_rangeCheck_23922 0 = .ok (.iload_n 1, 1) := by decide +kernel
theorem dJ7_rangeCheck_23922_1 : decode cJ7_rangeCheck_23922 1 = .ok (.iload_n 2, 1) := by decide +kernel
theorem dJ7_rangeCheck_23922_2 : decode cJ7_rangeCheck_23922 2 = .ok (.if_icmp .le 44, 3) := by decide +kernel
theorem dJ7_rangeCheck_23922_46 : decode cJ7_rangeCheck_23922 46 = .ok (.iload_n 1, 1) := by decide +kernel
theorem dJ7_rangeCheck_23922_47 : decode cJ7_rangeCheck_23922 47 = .ok (.ifCond .ge 12, 3) := by decide +kernel
theorem dJ7_rangeCheck_23922_59 : decode cJ7_rangeCheck_23922 59 = .ok (.iload_n 2, 1) := by decide +kernel
theorem dJ7_rangeCheck_23922_60 : decode cJ7_rangeCheck_23922 60 = .ok (.iload_n 0, 1) := by decide +kernel
theorem dJ7_rangeCheck_23922_61 : decode cJ7_rangeCheck_23922 61 = .ok (.if_icmp .le 12, 3) := by decide +kernel
theorem dJ7_rangeCheck_23922_73 : decode cJ7_rangeCheck_23922 73 = .ok (.return_, 1) := by decide +kernel
def pJ7_rangeCheck_23922 (x0 : Int32) (x1 : Int32) (x2 : Int32)   : Option (Unit) :=
  if x1 ≤ x2 then
  (if 0 ≤ x1 then
  (if x2 ≤ x0 then
  (some (()))
  else
  (none))
  else
  (none))
  else
  (none)
theorem hdJ7_rangeCheck_23922 : yJ7_rangeCheck_23922.cls ≠ "java/lang/invoke/MethodHandle" ∧ yJ7_rangeCheck_23922.cls ≠ "java/lang/invoke/VarHandle" ∧ (parseMethodDescriptor yJ7_rangeCheck_23922.desc).map (fun d => d.parameters.length) = some 3 := by decide +kernel
set_option maxHeartbeats 8000000 in
set_option maxRecDepth 100000 in
theorem mJ7_rangeCheck_23922 (l : Launch) (dC : Nat → ClassId) (dI : Nat → Nat → Nat)     (x0 : Int32) (x1 : Int32) (x2 : Int32) (sz : Nat) (u : Unit) (h : pJ7_rangeCheck_23922 x0 x1 x2 = some u) : Met l yJ7_rangeCheck_23922 (Cond.code yJ7_rangeCheck_23922 cJ7_rangeCheck_23922 3 none :: fb_tb) ({ frames := 0, cells := 0, slots := 0, locals := 0 }) (fb_Pc (dC, dI) [.int x0, .int x1, .int x2] sz [] []) (fb_Qv (dC, dI) [] (va_A [] sz)) 0 0 (va_A [] sz) := by
  refine fb_metv (by decide) (Nat.le_of_ble_eq_true rfl) (fun p e s m args below meth c A Q ls H hx hb hml hown hts hP hK hN hZ hD hA hS hret hl => ?_)
  replace hl : lv_has ls 3 [(0, .int x0), (1, .int x1), (2, .int x2)] := hl
  unfold pJ7_rangeCheck_23922 at h
  refine lv_iload_n hx hb dJ7_rangeCheck_23922_0 rfl (lv_at hl 1 rfl) ?_
  refine lv_iload_n hx hb dJ7_rangeCheck_23922_1 rfl (lv_at hl 2 rfl) ?_
  refine lv_icmp_le (tgt := 46) hx hb dJ7_rangeCheck_23922_2 (by decide) (fun c1 => ?_) (fun c1 => ?_)
  · replace h := fb_t c1 h
    refine lv_iload_n hx hb dJ7_rangeCheck_23922_46 rfl (lv_at hl 1 rfl) ?_
    refine lv_if_ge (tgt := 59) hx hb dJ7_rangeCheck_23922_47 (by decide) (fun c2 => ?_) (fun c2 => ?_)
    · replace h := fb_t c2 h
      refine lv_iload_n hx hb dJ7_rangeCheck_23922_59 rfl (lv_at hl 2 rfl) ?_
      refine lv_iload_n hx hb dJ7_rangeCheck_23922_60 rfl (lv_at hl 0 rfl) ?_
      refine lv_icmp_le (tgt := 73) hx hb dJ7_rangeCheck_23922_61 (by decide) (fun c3 => ?_) (fun c3 => ?_)
      · replace h := fb_t c3 h
        have hu := Option.some.inj h
        exact hret _ _ _ _ dJ7_rangeCheck_23922_73 hP hD hS
      · replace h := fb_f c3 h
        cases h
    · replace h := fb_f c2 h
      cases h
  · replace h := fb_f c1 h
    cases h
theorem dJ7_fill_fda19_0 : decode cJ7_fill_fda19 0 = .ok (.aload_n 0, 1) := by decide +kernel
theorem dJ7_fill_fda19_1 : decode cJ7_fill_fda19 1 = .ok (.arraylength, 1) := by decide +kernel
theorem dJ7_fill_fda19_2 : decode cJ7_fill_fda19 2 = .ok (.iload_n 1, 1) := by decide +kernel
theorem dJ7_fill_fda19_3 : decode cJ7_fill_fda19 3 = .ok (.iload_n 2, 1) := by decide +kernel
theorem dJ7_fill_fda19_4 : decode cJ7_fill_fda19 4 = .ok (.invokestatic 13, 3) := by decide +kernel
theorem dJ7_fill_fda19_7 : decode cJ7_fill_fda19 7 = .ok (.iload_n 1, 1) := by decide +kernel
theorem dJ7_fill_fda19_8 : decode cJ7_fill_fda19 8 = .ok (.istore 4, 2) := by decide +kernel
theorem dJ7_fill_fda19_10 : decode cJ7_fill_fda19 10 = .ok (.iload 4, 2) := by decide +kernel
theorem dJ7_fill_fda19_12 : decode cJ7_fill_fda19 12 = .ok (.iload_n 2, 1) := by decide +kernel
theorem dJ7_fill_fda19_13 : decode cJ7_fill_fda19 13 = .ok (.if_icmp .ge 14, 3) := by decide +kernel
theorem dJ7_fill_fda19_16 : decode cJ7_fill_fda19 16 = .ok (.aload_n 0, 1) := by decide +kernel
theorem dJ7_fill_fda19_17 : decode cJ7_fill_fda19 17 = .ok (.iload 4, 2) := by decide +kernel
theorem dJ7_fill_fda19_19 : decode cJ7_fill_fda19 19 = .ok (.iload_n 3, 1) := by decide +kernel
theorem dJ7_fill_fda19_20 : decode cJ7_fill_fda19 20 = .ok (.iastore, 1) := by decide +kernel
theorem dJ7_fill_fda19_21 : decode cJ7_fill_fda19 21 = .ok (.iinc 4 1, 3) := by decide +kernel
theorem dJ7_fill_fda19_24 : decode cJ7_fill_fda19 24 = .ok (.goto (-14), 3) := by decide +kernel
theorem dJ7_fill_fda19_27 : decode cJ7_fill_fda19 27 = .ok (.return_, 1) := by decide +kernel
def pJ7_fill_fda19_b10 (a0_n : Nat) (x2 : Int32) (x3 : Int32)  : Nat → (Nat → Int32) → Int32 → Option ((Nat → Int32))
  | 0 => fun _ _ => none
  | n + 1 => fun a0_v x4 =>
  if x2 ≤ x4 then
  (some (a0_v))
  else
  (if x4 < 0 ∨ a0_n ≤ (x4).toNatClampNeg then none else
  (pJ7_fill_fda19_b10 a0_n x2 x3 n) (upd a0_v (x4).toNatClampNeg x3) (x4 + (1 : Int32)))
def pJ7_fill_fda19 (a0_n : Nat) (x1 : Int32) (x2 : Int32) (x3 : Int32)  (a0_v : Nat → Int32) : Option ((Nat → Int32)) :=
  (pJ7_rangeCheck_23922 (Int32.ofNat a0_n) x1 x2).bind (fun u3 =>
  pJ7_fill_fda19_b10 a0_n x2 x3 fb_F a0_v x1)
theorem hdJ7_fill_fda19 : yJ7_fill_fda19.cls ≠ "java/lang/invoke/MethodHandle" ∧ yJ7_fill_fda19.cls ≠ "java/lang/invoke/VarHandle" ∧ (parseMethodDescriptor yJ7_fill_fda19.desc).map (fun d => d.parameters.length) = some 4 := by decide +kernel
set_option maxHeartbeats 8000000 in
set_option maxRecDepth 100000 in
theorem mJ7_fill_fda19 (l : Launch) (dC : Nat → ClassId) (dI : Nat → Nat → Nat) (a0 : Nat) (a0_c : ClassId) (a0_n : Nat) (a0_v : Nat → Int32) (x1 : Int32) (x2 : Int32) (x3 : Int32) (sz : Nat) (u : (Nat → Int32)) (h : pJ7_fill_fda19 a0_n x1 x2 x3 a0_v = some u) : Met l yJ7_fill_fda19 (Cond.code yJ7_fill_fda19 cJ7_fill_fda19 5 none :: fb_tb) ({ frames := 1, cells := 0, slots := 0, locals := 22 }) (fb_Pc (dC, dI) [.ref a0, .int x1, .int x2, .int x3] sz [(a0_c, .int)] [(a0, .inl (a0_c, a0_n, .inl a0_v))]) (fb_Qv (dC, dI) [(a0, .inl (a0_c, a0_n, .inl u))] (va_A [(a0, .inl (a0_c, a0_n, .inl a0_v))] sz)) 0 0 (va_A [(a0, .inl (a0_c, a0_n, .inl a0_v))] sz) := by
  refine fb_metv (by decide) (Nat.le_of_ble_eq_true rfl) (fun p e s m args below meth c A Q ls H hx hb hml hown hts hP hK hN hZ hD hA hS hret hl => ?_)
  replace hl : lv_has ls 5 [(0, .ref a0), (1, .int x1), (2, .int x2), (3, .int x3)] := hl
  have wB10 : ∀ n : Nat, ∀ (a0_v : Nat → Int32) (x4 : Int32) (H : Heap) (locs : List Loc) (ls : Array Slot), va_P (dC, dI) fb_cl [(a0, .inl (a0_c, a0_n, .inl a0_v))] H → va_D A [(a0, .inl (a0_c, a0_n, .inl a0_v))] → va_S A s.heap H locs → lv_has ls 5 [(0, .ref a0), (2, .int x2), (3, .int x3), (4, .int x4)] → pJ7_fill_fda19_b10 a0_n x2 x3 n a0_v x4 = some u → W p l e ({ frames := 1, cells := 0, slots := 0, locals := 22 }) s m args below meth c H locs 0 0 Q (F0 m 10 ls []) := by
    intro n
    induction n with
    | zero => intro a0_v x4 H locs ls hP hD hS hl h; cases h
    | succ n ih =>
      intro a0_v x4 H locs ls hP hD hS hl h
      rw [pJ7_fill_fda19_b10] at h
      refine lv_iload hx hb dJ7_fill_fda19_10 (lv_at hl 3 rfl) ?_
      refine lv_iload_n hx hb dJ7_fill_fda19_12 rfl (lv_at hl 1 rfl) ?_
      refine lv_icmp_ge (tgt := 27) hx hb dJ7_fill_fda19_13 (by decide) (fun c1 => ?_) (fun c1 => ?_)
      · replace h := fb_t c1 h
        have hu := Option.some.inj h
        exact hret _ _ _ _ dJ7_fill_fda19_27 (by rw [← hu]; exact hP) (by rw [← hu]; exact hD) hS
      · replace h := fb_f c1 h
        refine lv_aload_n hx hb dJ7_fill_fda19_16 rfl (lv_at hl 0 rfl) ?_
        refine lv_iload hx hb dJ7_fill_fda19_17 (lv_at hl 3 rfl) ?_
        refine lv_iload_n hx hb dJ7_fill_fda19_19 rfl (lv_at hl 2 rfl) ?_
        obtain ⟨g2, h⟩ := fb_g h
        refine va_iast hx hb hK hP hD hS 0 0 rfl rfl g2 dJ7_fill_fda19_20 (fun H locs hP hD hS => ?_)
        replace hP : va_P (dC, dI) fb_cl [(a0, .inl (a0_c, a0_n, .inl (upd a0_v (x4).toNatClampNeg x3)))] H := hP
        replace hD : va_D A [(a0, .inl (a0_c, a0_n, .inl (upd a0_v (x4).toNatClampNeg x3)))] := hD
        refine lv_iinc (v := (x4 + (1 : Int32))) (lv' := [(4, .int (x4 + (1 : Int32))), (0, .ref a0), (2, .int x2), (3, .int x3)]) hx hb dJ7_fill_fda19_21 hl (k := 3) rfl rfl (by decide) rfl (fun ls hl => ?_)
        refine lv_goto (tgt := 10) hx hb dJ7_fill_fda19_24 (by decide) ?_
        exact ih (upd a0_v (x4).toNatClampNeg x3) (x4 + (1 : Int32)) _ _ _ hP hD hS (lv_sub hl [1, 2, 3, 0] rfl) h
  unfold pJ7_fill_fda19 at h
  refine lv_aload_n hx hb dJ7_fill_fda19_0 rfl (lv_at hl 0 rfl) ?_
  refine va_alen (v := (Int32.ofNat a0_n)) hx hb hK hP 0 0 rfl rfl rfl dJ7_fill_fda19_1 ?_
  refine lv_iload_n hx hb dJ7_fill_fda19_2 rfl (lv_at hl 1 rfl) ?_
  refine lv_iload_n hx hb dJ7_fill_fda19_3 rfl (lv_at hl 2 rfl) ?_
  obtain ⟨u3, e3, h⟩ := fb_b h
  refine fb_cv (wc := []) (wr := [(a0, .inl (a0_c, a0_n, .inl a0_v))]) (w1 := []) (ws' := [(a0, .inl (a0_c, a0_n, .inl a0_v))]) (va_runS (As := [.int (Int32.ofNat a0_n), .int x1, .int x2]) (rest := []) ⟨hx, hb, hml, hown, hts⟩ (mJ7_rangeCheck_23922 l dC dI (Int32.ofNat a0_n) x1 x2 H.size u3 e3) (va_cwS 3 hts (fb_GSx k_717 k_718 k_75 k_719) rfl rfl rfl hdJ7_rangeCheck_23922 ⟨Nat.le_of_ble_eq_true rfl, Nat.le_of_ble_eq_true rfl⟩) (fb_pS hP hD hS hA hK hN hZ [] rfl rfl [] rfl) rfl rfl hl.1 rfl (lv_room (Nat.le_of_ble_eq_true rfl)) dJ7_fill_fda19_4 ⟨Nat.le_of_ble_eq_true rfl, Nat.le_of_ble_eq_true rfl⟩) hP hD hS hA [] [0] rfl rfl rfl (by decide) [0] rfl rfl (fun H locs hP hD hS => ?_)
  refine lv_iload_n hx hb dJ7_fill_fda19_7 rfl (lv_at hl 1 rfl) ?_
  refine lv_istore (lv' := [(4, .int x1), (0, .ref a0), (1, .int x1), (2, .int x2), (3, .int x3)]) hx hb dJ7_fill_fda19_8 hl (by decide) rfl (fun ls hl => ?_)
  exact wB10 fb_F a0_v x1 _ _ _ hP hD hS (lv_sub hl [1, 3, 4, 0] rfl) h
theorem dX2_fill_0 : decode cX2_fill 0 = .ok (.aload_n 0, 1) := by decide +kernel
theorem dX2_fill_1 : decode cX2_fill 1 = .ok (.getfield 24, 3) := by decide +kernel
theorem dX2_fill_4 : decode cX2_fill 4 = .ok (.iload_n 1, 1) := by decide +kernel
theorem dX2_fill_5 : decode cX2_fill 5 = .ok (.iload_n 2, 1) := by decide +kernel
theorem dX2_fill_6 : decode cX2_fill 6 = .ok (.iload_n 3, 1) := by decide +kernel
theorem dX2_fill_7 : decode cX2_fill 7 = .ok (.invokestatic 45, 3) := by decide +kernel
theorem dX2_fill_10 : decode cX2_fill 10 = .ok (.return_, 1) := by decide +kernel
def pX2_fill (o_lengths_n : Nat) (x1 : Int32) (x2 : Int32) (x3 : Int32)  (o_lengths_v : Nat → Int32) : Option ((Nat → Int32)) :=
  (pJ7_fill_fda19 o_lengths_n x1 x2 x3 o_lengths_v).bind (fun u1 =>
  some (u1))
theorem hdX2_fill : yX2_fill.cls = RX2 ∧ yX2_fill.cls ≠ "java/lang/invoke/MethodHandle" ∧ yX2_fill.cls ≠ "java/lang/invoke/VarHandle" ∧ (parseMethodDescriptor yX2_fill.desc).map (fun d => d.parameters.length) = some 3 := by decide +kernel
set_option maxHeartbeats 8000000 in
set_option maxRecDepth 100000 in
theorem mX2_fill (l : Launch) (dC : Nat → ClassId) (dI : Nat → Nat → Nat) (o : Nat) (o_lengths : Nat) (o_codes : Nat) (o_byCode : Nat) (o_ofLength : Nat) (o_firstCode : Nat) (o_firstPlace : Nat) (o_given : Nat) (o_lengths_c : ClassId) (o_lengths_n : Nat) (o_longest : Int32) (o_lengths_v : Nat → Int32) (x1 : Int32) (x2 : Int32) (x3 : Int32) (sz : Nat) (u : (Nat → Int32)) (h : pX2_fill o_lengths_n x1 x2 x3 o_lengths_v = some u) : Met l yX2_fill (Cond.code yX2_fill cX2_fill 4 none :: fb_tb) ({ frames := 2, cells := 0, slots := 0, locals := 46 }) (fb_Pc (dC, dI) [.ref o, .int x1, .int x2, .int x3] sz [(o_lengths_c, .int)] [(o, .inr (2, [.ref o_lengths, .ref o_codes, .ref o_byCode, .ref o_ofLength, .ref o_firstCode, .ref o_firstPlace, .ref o_given, .int o_longest])), (o_lengths, .inl (o_lengths_c, o_lengths_n, .inl o_lengths_v))]) (fb_Qv (dC, dI) [(o, .inr (2, [.ref o_lengths, .ref o_codes, .ref o_byCode, .ref o_ofLength, .ref o_firstCode, .ref o_firstPlace, .ref o_given, .int o_longest])), (o_lengths, .inl (o_lengths_c, o_lengths_n, .inl u))] (va_A [(o, .inr (2, [.ref o_lengths, .ref o_codes, .ref o_byCode, .ref o_ofLength, .ref o_firstCode, .ref o_firstPlace, .ref o_given, .int o_longest])), (o_lengths, .inl (o_lengths_c, o_lengths_n, .inl o_lengths_v))] sz)) 0 0 (va_A [(o, .inr (2, [.ref o_lengths, .ref o_codes, .ref o_byCode, .ref o_ofLength, .ref o_firstCode, .ref o_firstPlace, .ref o_given, .int o_longest])), (o_lengths, .inl (o_lengths_c, o_lengths_n, .inl o_lengths_v))] sz) := by
  refine fb_metv (by decide) (Nat.le_of_ble_eq_true rfl) (fun p e s m args below meth c A Q ls H hx hb hml hown hts hP hK hN hZ hD hA hS hret hl => ?_)
  replace hl : lv_has ls 4 [(0, .ref o), (1, .int x1), (2, .int x2), (3, .int x3)] := hl
  unfold pX2_fill at h
  refine lv_aload_n hx hb dX2_fill_0 rfl (lv_at hl 0 rfl) ?_
  refine va_get (D := (dC, dI)) (ci := 2) (v := .ref o_lengths) (C := RX2) (T := TX2) (N := 8) hx hb hts i_X2 hown hK hP 0 rfl rfl 0 (by decide) (hts _ k_156) (fun _ h9 => h9) rfl dX2_fill_1 ?_
  refine lv_iload_n hx hb dX2_fill_4 rfl (lv_at hl 1 rfl) ?_
  refine lv_iload_n hx hb dX2_fill_5 rfl (lv_at hl 2 rfl) ?_
  refine lv_iload_n hx hb dX2_fill_6 rfl (lv_at hl 3 rfl) ?_
  obtain ⟨u1, e1, h⟩ := fb_b h
  refine fb_cv (wc := [(o_lengths, .inl (o_lengths_c, o_lengths_n, .inl o_lengths_v))]) (wr := [(o, .inr (2, [.ref o_lengths, .ref o_codes, .ref o_byCode, .ref o_ofLength, .ref o_firstCode, .ref o_firstPlace, .ref o_given, .int o_longest]))]) (w1 := [(o_lengths, .inl (o_lengths_c, o_lengths_n, .inl u1))]) (ws' := [(o, .inr (2, [.ref o_lengths, .ref o_codes, .ref o_byCode, .ref o_ofLength, .ref o_firstCode, .ref o_firstPlace, .ref o_given, .int o_longest])), (o_lengths, .inl (o_lengths_c, o_lengths_n, .inl u1))]) (va_runS (As := [.ref o_lengths, .int x1, .int x2, .int x3]) (rest := []) ⟨hx, hb, hml, hown, hts⟩ (mJ7_fill_fda19 l dC dI o_lengths o_lengths_c o_lengths_n o_lengths_v x1 x2 x3 H.size u1 e1) (va_cwS 4 hts (fb_GSx k_714 k_715 k_75 k_716) rfl rfl rfl hdJ7_fill_fda19 ⟨Nat.le_of_ble_eq_true rfl, Nat.le_of_ble_eq_true rfl⟩) (fb_pS hP hD hS hA hK hN hZ [1] rfl rfl [0] rfl) rfl rfl hl.1 rfl (lv_room (Nat.le_of_ble_eq_true rfl)) dX2_fill_7 ⟨Nat.le_of_ble_eq_true rfl, Nat.le_of_ble_eq_true rfl⟩) hP hD hS hA [1] [0] rfl rfl rfl (by decide) [0, 1] rfl rfl (fun H locs hP hD hS => ?_)
  have hu := Option.some.inj h
  exact hret _ _ _ _ dX2_fill_10 (by rw [← hu]; exact hP) (by rw [← hu]; exact hD) hS
theorem dX2_countLengths_0 : decode cX2_countLengths 0 = .ok (.aload_n 0, 1) := by decide +kernel
theorem dX2_countLengths_1 : decode cX2_countLengths 1 = .ok (.getfield 9, 3) := by decide +kernel
theorem dX2_countLengths_4 : decode cX2_countLengths 4 = .ok (.iconst 0, 1) := by decide +kernel
theorem dX2_countLengths_5 : decode cX2_countLengths 5 = .ok (.invokestatic 33, 3) := by decide +kernel
theorem dX2_countLengths_8 : decode cX2_countLengths 8 = .ok (.aload_n 0, 1) := by decide +kernel
theorem dX2_countLengths_9 : decode cX2_countLengths 9 = .ok (.iconst 0, 1) := by decide +kernel
theorem dX2_countLengths_10 : decode cX2_countLengths 10 = .ok (.putfield 51, 3) := by decide +kernel
theorem dX2_countLengths_13 : decode cX2_countLengths 13 = .ok (.aload_n 0, 1) := by decide +kernel
theorem dX2_countLengths_14 : decode cX2_countLengths 14 = .ok (.getfield 24, 3) := by decide +kernel
theorem dX2_countLengths_17 : decode cX2_countLengths 17 = .ok (.astore_n 1, 1) := by decide +kernel
theorem dX2_countLengths_18 : decode cX2_countLengths 18 = .ok (.aload_n 1, 1) := by decide +kernel
theorem dX2_countLengths_19 : decode cX2_countLengths 19 = .ok (.arraylength, 1) := by decide +kernel
theorem dX2_countLengths_20 : decode cX2_countLengths 20 = .ok (.istore_n 2, 1) := by decide +kernel
theorem dX2_countLengths_21 : decode cX2_countLengths 21 = .ok (.iconst 0, 1) := by decide +kernel
theorem dX2_countLengths_22 : decode cX2_countLengths 22 = .ok (.istore_n 3, 1) := by decide +kernel
theorem dX2_countLengths_23 : decode cX2_countLengths 23 = .ok (.iload_n 3, 1) := by decide +kernel
theorem dX2_countLengths_24 : decode cX2_countLengths 24 = .ok (.iload_n 2, 1) := by decide +kernel
theorem dX2_countLengths_25 : decode cX2_countLengths 25 = .ok (.if_icmp .ge 43, 3) := by decide +kernel
theorem dX2_countLengths_28 : decode cX2_countLengths 28 = .ok (.aload_n 1, 1) := by decide +kernel
theorem dX2_countLengths_29 : decode cX2_countLengths 29 = .ok (.iload_n 3, 1) := by decide +kernel
theorem dX2_countLengths_30 : decode cX2_countLengths 30 = .ok (.iaload, 1) := by decide +kernel
theorem dX2_countLengths_31 : decode cX2_countLengths 31 = .ok (.istore 4, 2) := by decide +kernel
theorem dX2_countLengths_33 : decode cX2_countLengths 33 = .ok (.iload 4, 2) := by decide +kernel
theorem dX2_countLengths_35 : decode cX2_countLengths 35 = .ok (.ifCond .le 27, 3) := by decide +kernel
theorem dX2_countLengths_38 : decode cX2_countLengths 38 = .ok (.aload_n 0, 1) := by decide +kernel
theorem dX2_countLengths_39 : decode cX2_countLengths 39 = .ok (.getfield 9, 3) := by decide +kernel
theorem dX2_countLengths_42 : decode cX2_countLengths 42 = .ok (.iload 4, 2) := by decide +kernel
theorem dX2_countLengths_44 : decode cX2_countLengths 44 = .ok (.dup2, 1) := by decide +kernel
theorem dX2_countLengths_45 : decode cX2_countLengths 45 = .ok (.iaload, 1) := by decide +kernel
theorem dX2_countLengths_46 : decode cX2_countLengths 46 = .ok (.iconst 1, 1) := by decide +kernel
theorem dX2_countLengths_47 : decode cX2_countLengths 47 = .ok (.iadd, 1) := by decide +kernel
theorem dX2_countLengths_48 : decode cX2_countLengths 48 = .ok (.iastore, 1) := by decide +kernel
theorem dX2_countLengths_49 : decode cX2_countLengths 49 = .ok (.aload_n 0, 1) := by decide +kernel
theorem dX2_countLengths_50 : decode cX2_countLengths 50 = .ok (.aload_n 0, 1) := by decide +kernel
theorem dX2_countLengths_51 : decode cX2_countLengths 51 = .ok (.getfield 51, 3) := by decide +kernel
theorem dX2_countLengths_54 : decode cX2_countLengths 54 = .ok (.iload 4, 2) := by decide +kernel
theorem dX2_countLengths_56 : decode cX2_countLengths 56 = .ok (.invokestatic 55, 3) := by decide +kernel
theorem dX2_countLengths_59 : decode cX2_countLengths 59 = .ok (.putfield 51, 3) := by decide +kernel
theorem dX2_countLengths_62 : decode cX2_countLengths 62 = .ok (.iinc 3 1, 3) := by decide +kernel
theorem dX2_countLengths_65 : decode cX2_countLengths 65 = .ok (.goto (-42), 3) := by decide +kernel
theorem dX2_countLengths_68 : decode cX2_countLengths 68 = .ok (.return_, 1) := by decide +kernel
def pX2_countLengths_b23 (o_ofLength_n : Nat) (o_lengths_n : Nat) (o_lengths_v : Nat → Int32)  : Nat → Int32 → (Nat → Int32) → Int32 → Int32 → Option (Int32 × (Nat → Int32))
  | 0 => fun _ _ _ _ => none
  | n + 1 => fun o_longest o_ofLength_v x2 x3 =>
  if x2 ≤ x3 then
  (some (o_longest, o_ofLength_v))
  else
  (if x3 < 0 ∨ o_lengths_n ≤ (x3).toNatClampNeg then none else
  if (o_lengths_v (x3).toNatClampNeg) ≤ 0 then
  ((pX2_countLengths_b23 o_ofLength_n o_lengths_n o_lengths_v n) o_longest o_ofLength_v x2 (x3 + (1 : Int32)))
  else
  (if (o_lengths_v (x3).toNatClampNeg) < 0 ∨ o_ofLength_n ≤ ((o_lengths_v (x3).toNatClampNeg)).toNatClampNeg then none else
  if (o_lengths_v (x3).toNatClampNeg) < 0 ∨ o_ofLength_n ≤ ((o_lengths_v (x3).toNatClampNeg)).toNatClampNeg then none else
  (pX2_countLengths_b23 o_ofLength_n o_lengths_n o_lengths_v n) (if o_longest < (o_lengths_v (x3).toNatClampNeg) then (o_lengths_v (x3).toNatClampNeg) else o_longest) (upd o_ofLength_v ((o_lengths_v (x3).toNatClampNeg)).toNatClampNeg ((o_ofLength_v ((o_lengths_v (x3).toNatClampNeg)).toNatClampNeg) + (1 : Int32))) x2 (x3 + (1 : Int32))))
def pX2_countLengths (o_ofLength_n : Nat) (o_lengths_n : Nat) (o_lengths_v : Nat → Int32)  (o_ofLength_v : Nat → Int32) : Option (Int32 × (Nat → Int32)) :=
  (pJ7_fill_53178 o_ofLength_n (0 : Int32) o_ofLength_v).bind (fun u6 =>
  pX2_countLengths_b23 o_ofLength_n o_lengths_n o_lengths_v fb_F (0 : Int32) u6 (Int32.ofNat o_lengths_n) (0 : Int32))
theorem hdX2_countLengths : yX2_countLengths.cls = RX2 ∧ yX2_countLengths.cls ≠ "java/lang/invoke/MethodHandle" ∧ yX2_countLengths.cls ≠ "java/lang/invoke/VarHandle" ∧ (parseMethodDescriptor yX2_countLengths.desc).map (fun d => d.parameters.length) = some 0 := by decide +kernel
set_option maxHeartbeats 8000000 in
set_option maxRecDepth 100000 in
theorem mX2_countLengths (l : Launch) (dC : Nat → ClassId) (dI : Nat → Nat → Nat) (o : Nat) (o_ofLength : Nat) (o_lengths : Nat) (o_codes : Nat) (o_byCode : Nat) (o_firstCode : Nat) (o_firstPlace : Nat) (o_given : Nat) (o_ofLength_c : ClassId) (o_lengths_c : ClassId) (o_ofLength_n : Nat) (o_lengths_n : Nat) (o_longest : Int32) (o_ofLength_v : Nat → Int32) (o_lengths_v : Nat → Int32)  (sz : Nat) (u : Int32 × (Nat → Int32)) (h : pX2_countLengths o_ofLength_n o_lengths_n o_lengths_v o_ofLength_v = some u) : Met l yX2_countLengths (Cond.code yX2_countLengths cX2_countLengths 5 none :: fb_tb) ({ frames := 1, cells := 0, slots := 0, locals := 23 }) (fb_Pc (dC, dI) [.ref o] sz [(o_ofLength_c, .int), (o_lengths_c, .int)] [(o, .inr (2, [.ref o_lengths, .ref o_codes, .ref o_byCode, .ref o_ofLength, .ref o_firstCode, .ref o_firstPlace, .ref o_given, .int o_longest])), (o_ofLength, .inl (o_ofLength_c, o_ofLength_n, .inl o_ofLength_v)), (o_lengths, .inl (o_lengths_c, o_lengths_n, .inl o_lengths_v))]) (fb_Qv (dC, dI) [(o, .inr (2, [.ref o_lengths, .ref o_codes, .ref o_byCode, .ref o_ofLength, .ref o_firstCode, .ref o_firstPlace, .ref o_given, .int u.1])), (o_ofLength, .inl (o_ofLength_c, o_ofLength_n, .inl u.2)), (o_lengths, .inl (o_lengths_c, o_lengths_n, .inl o_lengths_v))] (va_A [(o, .inr (2, [.ref o_lengths, .ref o_codes, .ref o_byCode, .ref o_ofLength, .ref o_firstCode, .ref o_firstPlace, .ref o_given, .int o_longest])), (o_ofLength, .inl (o_ofLength_c, o_ofLength_n, .inl o_ofLength_v)), (o_lengths, .inl (o_lengths_c, o_lengths_n, .inl o_lengths_v))] sz)) 0 0 (va_A [(o, .inr (2, [.ref o_lengths, .ref o_codes, .ref o_byCode, .ref o_ofLength, .ref o_firstCode, .ref o_firstPlace, .ref o_given, .int o_longest])), (o_ofLength, .inl (o_ofLength_c, o_ofLength_n, .inl o_ofLength_v)), (o_lengths, .inl (o_lengths_c, o_lengths_n, .inl o_lengths_v))] sz) := by
  refine fb_metv (by decide) (Nat.le_of_ble_eq_true rfl) (fun p e s m args below meth c A Q ls H hx hb hml hown hts hP hK hN hZ hD hA hS hret hl => ?_)
  replace hl : lv_has ls 5 [(0, .ref o)] := hl
  have wB23 : ∀ n : Nat, ∀ (o_longest : Int32) (o_ofLength_v : Nat → Int32) (x2 : Int32) (x3 : Int32) (H : Heap) (locs : List Loc) (ls : Array Slot), va_P (dC, dI) fb_cl [(o, .inr (2, [.ref o_lengths, .ref o_codes, .ref o_byCode, .ref o_ofLength, .ref o_firstCode, .ref o_firstPlace, .ref o_given, .int o_longest])), (o_ofLength, .inl (o_ofLength_c, o_ofLength_n, .inl o_ofLength_v)), (o_lengths, .inl (o_lengths_c, o_lengths_n, .inl o_lengths_v))] H → va_D A [(o, .inr (2, [.ref o_lengths, .ref o_codes, .ref o_byCode, .ref o_ofLength, .ref o_firstCode, .ref o_firstPlace, .ref o_given, .int o_longest])), (o_ofLength, .inl (o_ofLength_c, o_ofLength_n, .inl o_ofLength_v)), (o_lengths, .inl (o_lengths_c, o_lengths_n, .inl o_lengths_v))] → va_S A s.heap H locs → lv_has ls 5 [(0, .ref o), (1, .ref o_lengths), (2, .int x2), (3, .int x3)] → pX2_countLengths_b23 o_ofLength_n o_lengths_n o_lengths_v n o_longest o_ofLength_v x2 x3 = some u → W p l e ({ frames := 1, cells := 0, slots := 0, locals := 23 }) s m args below meth c H locs 0 0 Q (F0 m 23 ls []) := by
    intro n
    induction n with
    | zero => intro o_longest o_ofLength_v x2 x3 H locs ls hP hD hS hl h; cases h
    | succ n ih =>
      intro o_longest o_ofLength_v x2 x3 H locs ls hP hD hS hl h
      rw [pX2_countLengths_b23] at h
      refine lv_iload_n hx hb dX2_countLengths_23 rfl (lv_at hl 3 rfl) ?_
      refine lv_iload_n hx hb dX2_countLengths_24 rfl (lv_at hl 2 rfl) ?_
      refine lv_icmp_ge (tgt := 68) hx hb dX2_countLengths_25 (by decide) (fun c1 => ?_) (fun c1 => ?_)
      · replace h := fb_t c1 h
        have hu := Option.some.inj h
        exact hret _ _ _ _ dX2_countLengths_68 (by rw [← hu]; exact hP) (by rw [← hu]; exact hD) hS
      · replace h := fb_f c1 h
        refine lv_aload_n hx hb dX2_countLengths_28 rfl (lv_at hl 1 rfl) ?_
        refine lv_iload_n hx hb dX2_countLengths_29 rfl (lv_at hl 3 rfl) ?_
        obtain ⟨g2, h⟩ := fb_g h
        refine va_iald hx hb hK hP 2 1 rfl rfl g2 dX2_countLengths_30 ?_
        refine lv_istore (lv' := [(4, .int (o_lengths_v (x3).toNatClampNeg)), (0, .ref o), (1, .ref o_lengths), (2, .int x2), (3, .int x3)]) hx hb dX2_countLengths_31 hl (by decide) rfl (fun ls hl => ?_)
        refine lv_iload hx hb dX2_countLengths_33 (lv_at hl 0 rfl) ?_
        refine lv_if_le (tgt := 62) hx hb dX2_countLengths_35 (by decide) (fun c3 => ?_) (fun c3 => ?_)
        · replace h := fb_t c3 h
          refine lv_iinc (v := (x3 + (1 : Int32))) (lv' := [(3, .int (x3 + (1 : Int32))), (4, .int (o_lengths_v (x3).toNatClampNeg)), (0, .ref o), (1, .ref o_lengths), (2, .int x2)]) hx hb dX2_countLengths_62 hl (k := 4) rfl rfl (by decide) rfl (fun ls hl => ?_)
          refine lv_goto (tgt := 23) hx hb dX2_countLengths_65 (by decide) ?_
          exact ih o_longest o_ofLength_v x2 (x3 + (1 : Int32)) _ _ _ hP hD hS (lv_sub hl [2, 3, 4, 0] rfl) h
        · replace h := fb_f c3 h
          refine lv_aload_n hx hb dX2_countLengths_38 rfl (lv_at hl 1 rfl) ?_
          refine va_get (D := (dC, dI)) (ci := 2) (v := .ref o_ofLength) (C := RX2) (T := TX2) (N := 8) hx hb hts i_X2 hown hK hP 0 rfl rfl 3 (by decide) (hts _ k_164) (fun _ h9 => h9) rfl dX2_countLengths_39 ?_
          refine lv_iload hx hb dX2_countLengths_42 (lv_at hl 0 rfl) ?_
          refine lv_dup2_11 hx hb dX2_countLengths_44 rfl rfl ?_
          obtain ⟨g4, h⟩ := fb_g h
          refine va_iald hx hb hK hP 1 0 rfl rfl g4 dX2_countLengths_45 ?_
          refine lv_iconst (v := (1 : Int32)) hx hb dX2_countLengths_46 (by decide) ?_
          refine lv_iadd hx hb dX2_countLengths_47 ?_
          obtain ⟨g5, h⟩ := fb_g h
          refine va_iast hx hb hK hP hD hS 1 0 rfl rfl g5 dX2_countLengths_48 (fun H locs hP hD hS => ?_)
          replace hP : va_P (dC, dI) fb_cl [(o, .inr (2, [.ref o_lengths, .ref o_codes, .ref o_byCode, .ref o_ofLength, .ref o_firstCode, .ref o_firstPlace, .ref o_given, .int o_longest])), (o_ofLength, .inl (o_ofLength_c, o_ofLength_n, .inl (upd o_ofLength_v ((o_lengths_v (x3).toNatClampNeg)).toNatClampNeg ((o_ofLength_v ((o_lengths_v (x3).toNatClampNeg)).toNatClampNeg) + (1 : Int32))))), (o_lengths, .inl (o_lengths_c, o_lengths_n, .inl o_lengths_v))] H := hP
          replace hD : va_D A [(o, .inr (2, [.ref o_lengths, .ref o_codes, .ref o_byCode, .ref o_ofLength, .ref o_firstCode, .ref o_firstPlace, .ref o_given, .int o_longest])), (o_ofLength, .inl (o_ofLength_c, o_ofLength_n, .inl (upd o_ofLength_v ((o_lengths_v (x3).toNatClampNeg)).toNatClampNeg ((o_ofLength_v ((o_lengths_v (x3).toNatClampNeg)).toNatClampNeg) + (1 : Int32))))), (o_lengths, .inl (o_lengths_c, o_lengths_n, .inl o_lengths_v))] := hD
          refine lv_aload_n hx hb dX2_countLengths_49 rfl (lv_at hl 1 rfl) ?_
          refine lv_aload_n hx hb dX2_countLengths_50 rfl (lv_at hl 1 rfl) ?_
          refine va_get (D := (dC, dI)) (ci := 2) (v := .int o_longest) (C := RX2) (T := TX2) (N := 8) hx hb hts i_X2 hown hK hP 0 rfl rfl 7 (by decide) (hts _ k_168) (fun _ h9 => h9) rfl dX2_countLengths_51 ?_
          refine lv_iload hx hb dX2_countLengths_54 (lv_at hl 0 rfl) ?_
          refine va_mmax hx hb (hml.trans hl.1.symm) hown (hts _ k_525) (hts _ k_93) (hts _ k_63) (hts _ k_94) (Nat.le_of_ble_eq_true rfl) (Nat.le_of_ble_eq_true rfl) (Nat.zero_le _) (Nat.zero_le _) dX2_countLengths_56 ?_
          refine va_put (D := (dC, dI)) (ci := 2) (v := .int (if o_longest < (o_lengths_v (x3).toNatClampNeg) then (o_lengths_v (x3).toNatClampNeg) else o_longest)) (ty := .int) (C := RX2) (T := TX2) (N := 8) hx hb hts i_X2 tyX2 tyX2_ok nmX2 hown hK hP hD hS 0 rfl rfl 7 (by decide) (hts _ k_168) (fun _ h9 => h9) rfl (by decide +kernel) rfl rfl (Nat.le_of_ble_eq_true rfl) dX2_countLengths_59 (fun H locs hP hD hS => ?_)
          replace hP : va_P (dC, dI) fb_cl [(o, .inr (2, [.ref o_lengths, .ref o_codes, .ref o_byCode, .ref o_ofLength, .ref o_firstCode, .ref o_firstPlace, .ref o_given, .int (if o_longest < (o_lengths_v (x3).toNatClampNeg) then (o_lengths_v (x3).toNatClampNeg) else o_longest)])), (o_ofLength, .inl (o_ofLength_c, o_ofLength_n, .inl (upd o_ofLength_v ((o_lengths_v (x3).toNatClampNeg)).toNatClampNeg ((o_ofLength_v ((o_lengths_v (x3).toNatClampNeg)).toNatClampNeg) + (1 : Int32))))), (o_lengths, .inl (o_lengths_c, o_lengths_n, .inl o_lengths_v))] H := hP
          replace hD : va_D A [(o, .inr (2, [.ref o_lengths, .ref o_codes, .ref o_byCode, .ref o_ofLength, .ref o_firstCode, .ref o_firstPlace, .ref o_given, .int (if o_longest < (o_lengths_v (x3).toNatClampNeg) then (o_lengths_v (x3).toNatClampNeg) else o_longest)])), (o_ofLength, .inl (o_ofLength_c, o_ofLength_n, .inl (upd o_ofLength_v ((o_lengths_v (x3).toNatClampNeg)).toNatClampNeg ((o_ofLength_v ((o_lengths_v (x3).toNatClampNeg)).toNatClampNeg) + (1 : Int32))))), (o_lengths, .inl (o_lengths_c, o_lengths_n, .inl o_lengths_v))] := hD
          refine lv_iinc (v := (x3 + (1 : Int32))) (lv' := [(3, .int (x3 + (1 : Int32))), (4, .int (o_lengths_v (x3).toNatClampNeg)), (0, .ref o), (1, .ref o_lengths), (2, .int x2)]) hx hb dX2_countLengths_62 hl (k := 4) rfl rfl (by decide) rfl (fun ls hl => ?_)
          refine lv_goto (tgt := 23) hx hb dX2_countLengths_65 (by decide) ?_
          exact ih (if o_longest < (o_lengths_v (x3).toNatClampNeg) then (o_lengths_v (x3).toNatClampNeg) else o_longest) (upd o_ofLength_v ((o_lengths_v (x3).toNatClampNeg)).toNatClampNeg ((o_ofLength_v ((o_lengths_v (x3).toNatClampNeg)).toNatClampNeg) + (1 : Int32))) x2 (x3 + (1 : Int32)) _ _ _ hP hD hS (lv_sub hl [2, 3, 4, 0] rfl) h
  unfold pX2_countLengths at h
  refine lv_aload_n hx hb dX2_countLengths_0 rfl (lv_at hl 0 rfl) ?_
  refine va_get (D := (dC, dI)) (ci := 2) (v := .ref o_ofLength) (C := RX2) (T := TX2) (N := 8) hx hb hts i_X2 hown hK hP 0 rfl rfl 3 (by decide) (hts _ k_164) (fun _ h9 => h9) rfl dX2_countLengths_1 ?_
  refine lv_iconst (v := (0 : Int32)) hx hb dX2_countLengths_4 (by decide) ?_
  obtain ⟨u6, e6, h⟩ := fb_b h
  refine fb_cv (wc := [(o_ofLength, .inl (o_ofLength_c, o_ofLength_n, .inl o_ofLength_v))]) (wr := [(o, .inr (2, [.ref o_lengths, .ref o_codes, .ref o_byCode, .ref o_ofLength, .ref o_firstCode, .ref o_firstPlace, .ref o_given, .int o_longest])), (o_lengths, .inl (o_lengths_c, o_lengths_n, .inl o_lengths_v))]) (w1 := [(o_ofLength, .inl (o_ofLength_c, o_ofLength_n, .inl u6))]) (ws' := [(o, .inr (2, [.ref o_lengths, .ref o_codes, .ref o_byCode, .ref o_ofLength, .ref o_firstCode, .ref o_firstPlace, .ref o_given, .int o_longest])), (o_ofLength, .inl (o_ofLength_c, o_ofLength_n, .inl u6)), (o_lengths, .inl (o_lengths_c, o_lengths_n, .inl o_lengths_v))]) (va_runS (As := [.ref o_ofLength, .int (0 : Int32)]) (rest := []) ⟨hx, hb, hml, hown, hts⟩ (mJ7_fill_53178 l dC dI o_ofLength o_ofLength_c o_ofLength_n o_ofLength_v (0 : Int32) H.size u6 e6) (va_cwS 2 hts (fb_GSx k_524 k_438 k_75 k_439) rfl rfl rfl hdJ7_fill_53178 ⟨Nat.le_of_ble_eq_true rfl, Nat.le_of_ble_eq_true rfl⟩) (fb_pS hP hD hS hA hK hN hZ [1] rfl rfl [0] rfl) rfl rfl hl.1 rfl (lv_room (Nat.le_of_ble_eq_true rfl)) dX2_countLengths_5 ⟨Nat.le_of_ble_eq_true rfl, Nat.le_of_ble_eq_true rfl⟩) hP hD hS hA [1] [0, 2] rfl rfl rfl (by decide) [0, 2, 1] rfl rfl (fun H locs hP hD hS => ?_)
  refine lv_aload_n hx hb dX2_countLengths_8 rfl (lv_at hl 0 rfl) ?_
  refine lv_iconst (v := (0 : Int32)) hx hb dX2_countLengths_9 (by decide) ?_
  refine va_put (D := (dC, dI)) (ci := 2) (v := .int (0 : Int32)) (ty := .int) (C := RX2) (T := TX2) (N := 8) hx hb hts i_X2 tyX2 tyX2_ok nmX2 hown hK hP hD hS 0 rfl rfl 7 (by decide) (hts _ k_168) (fun _ h9 => h9) rfl (by decide +kernel) rfl rfl (Nat.le_of_ble_eq_true rfl) dX2_countLengths_10 (fun H locs hP hD hS => ?_)
  replace hP : va_P (dC, dI) fb_cl [(o, .inr (2, [.ref o_lengths, .ref o_codes, .ref o_byCode, .ref o_ofLength, .ref o_firstCode, .ref o_firstPlace, .ref o_given, .int (0 : Int32)])), (o_ofLength, .inl (o_ofLength_c, o_ofLength_n, .inl u6)), (o_lengths, .inl (o_lengths_c, o_lengths_n, .inl o_lengths_v))] H := hP
  replace hD : va_D A [(o, .inr (2, [.ref o_lengths, .ref o_codes, .ref o_byCode, .ref o_ofLength, .ref o_firstCode, .ref o_firstPlace, .ref o_given, .int (0 : Int32)])), (o_ofLength, .inl (o_ofLength_c, o_ofLength_n, .inl u6)), (o_lengths, .inl (o_lengths_c, o_lengths_n, .inl o_lengths_v))] := hD
  refine lv_aload_n hx hb dX2_countLengths_13 rfl (lv_at hl 0 rfl) ?_
  refine va_get (D := (dC, dI)) (ci := 2) (v := .ref o_lengths) (C := RX2) (T := TX2) (N := 8) hx hb hts i_X2 hown hK hP 0 rfl rfl 0 (by decide) (hts _ k_156) (fun _ h9 => h9) rfl dX2_countLengths_14 ?_
  refine lv_astore_n (lv' := [(1, .ref o_lengths), (0, .ref o)]) hx hb dX2_countLengths_17 rfl hl (by decide) rfl (fun ls hl => ?_)
  refine lv_aload_n hx hb dX2_countLengths_18 rfl (lv_at hl 0 rfl) ?_
  refine va_alen (v := (Int32.ofNat o_lengths_n)) hx hb hK hP 2 1 rfl rfl rfl dX2_countLengths_19 ?_
  refine lv_istore_n (lv' := [(2, .int (Int32.ofNat o_lengths_n)), (1, .ref o_lengths), (0, .ref o)]) hx hb dX2_countLengths_20 rfl hl (by decide) rfl (fun ls hl => ?_)
  refine lv_iconst (v := (0 : Int32)) hx hb dX2_countLengths_21 (by decide) ?_
  refine lv_istore_n (lv' := [(3, .int (0 : Int32)), (2, .int (Int32.ofNat o_lengths_n)), (1, .ref o_lengths), (0, .ref o)]) hx hb dX2_countLengths_22 rfl hl (by decide) rfl (fun ls hl => ?_)
  exact wB23 fb_F (0 : Int32) u6 (Int32.ofNat o_lengths_n) (0 : Int32) _ _ _ hP hD hS (lv_sub hl [3, 2, 1, 0] rfl) h
