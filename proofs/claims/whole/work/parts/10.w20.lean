theorem dX11_isLike_0 : decode cX11_isLike 0 = .ok (.aload_n 0, 1) := by decide +kernel
theorem dX11_isLike_1 : decode cX11_isLike 1 = .ok (.getfield 8, 3) := by decide +kernel
theorem dX11_isLike_4 : decode cX11_isLike 4 = .ok (.iload_n 1, 1) := by decide +kernel
theorem dX11_isLike_5 : decode cX11_isLike 5 = .ok (.iaload, 1) := by decide +kernel
theorem dX11_isLike_6 : decode cX11_isLike 6 = .ok (.aload_n 0, 1) := by decide +kernel
theorem dX11_isLike_7 : decode cX11_isLike 7 = .ok (.getfield 8, 3) := by decide +kernel
theorem dX11_isLike_10 : decode cX11_isLike 10 = .ok (.iload_n 2, 1) := by decide +kernel
theorem dX11_isLike_11 : decode cX11_isLike 11 = .ok (.iaload, 1) := by decide +kernel
theorem dX11_isLike_12 : decode cX11_isLike 12 = .ok (.if_icmp .ne 45, 3) := by decide +kernel
theorem dX11_isLike_15 : decode cX11_isLike 15 = .ok (.aload_n 0, 1) := by decide +kernel
theorem dX11_isLike_16 : decode cX11_isLike 16 = .ok (.getfield 8, 3) := by decide +kernel
theorem dX11_isLike_19 : decode cX11_isLike 19 = .ok (.iload_n 1, 1) := by decide +kernel
theorem dX11_isLike_20 : decode cX11_isLike 20 = .ok (.iconst 1, 1) := by decide +kernel
theorem dX11_isLike_21 : decode cX11_isLike 21 = .ok (.iadd, 1) := by decide +kernel
theorem dX11_isLike_22 : decode cX11_isLike 22 = .ok (.iaload, 1) := by decide +kernel
theorem dX11_isLike_23 : decode cX11_isLike 23 = .ok (.aload_n 0, 1) := by decide +kernel
theorem dX11_isLike_24 : decode cX11_isLike 24 = .ok (.getfield 8, 3) := by decide +kernel
theorem dX11_isLike_27 : decode cX11_isLike 27 = .ok (.iload_n 2, 1) := by decide +kernel
theorem dX11_isLike_28 : decode cX11_isLike 28 = .ok (.iconst 1, 1) := by decide +kernel
theorem dX11_isLike_29 : decode cX11_isLike 29 = .ok (.iadd, 1) := by decide +kernel
theorem dX11_isLike_30 : decode cX11_isLike 30 = .ok (.iaload, 1) := by decide +kernel
theorem dX11_isLike_31 : decode cX11_isLike 31 = .ok (.if_icmp .ne 26, 3) := by decide +kernel
theorem dX11_isLike_34 : decode cX11_isLike 34 = .ok (.aload_n 0, 1) := by decide +kernel
theorem dX11_isLike_35 : decode cX11_isLike 35 = .ok (.getfield 8, 3) := by decide +kernel
theorem dX11_isLike_38 : decode cX11_isLike 38 = .ok (.iload_n 1, 1) := by decide +kernel
theorem dX11_isLike_39 : decode cX11_isLike 39 = .ok (.iconst 2, 1) := by decide +kernel
theorem dX11_isLike_40 : decode cX11_isLike 40 = .ok (.iadd, 1) := by decide +kernel
theorem dX11_isLike_41 : decode cX11_isLike 41 = .ok (.iaload, 1) := by decide +kernel
theorem dX11_isLike_42 : decode cX11_isLike 42 = .ok (.aload_n 0, 1) := by decide +kernel
theorem dX11_isLike_43 : decode cX11_isLike 43 = .ok (.getfield 8, 3) := by decide +kernel
theorem dX11_isLike_46 : decode cX11_isLike 46 = .ok (.iload_n 2, 1) := by decide +kernel
theorem dX11_isLike_47 : decode cX11_isLike 47 = .ok (.iconst 2, 1) := by decide +kernel
theorem dX11_isLike_48 : decode cX11_isLike 48 = .ok (.iadd, 1) := by decide +kernel
theorem dX11_isLike_49 : decode cX11_isLike 49 = .ok (.iaload, 1) := by decide +kernel
theorem dX11_isLike_50 : decode cX11_isLike 50 = .ok (.if_icmp .ne 7, 3) := by decide +kernel
theorem dX11_isLike_53 : decode cX11_isLike 53 = .ok (.iconst 1, 1) := by decide +kernel
theorem dX11_isLike_54 : decode cX11_isLike 54 = .ok (.goto 4, 3) := by decide +kernel
theorem dX11_isLike_57 : decode cX11_isLike 57 = .ok (.iconst 0, 1) := by decide +kernel
theorem dX11_isLike_58 : decode cX11_isLike 58 = .ok (.ireturn, 1) := by decide +kernel
def pX11_isLike (o_text_n : Nat) (o_text_v : Nat → Int32) (x1 : Int32) (x2 : Int32)   : Option (Int32) :=
  if x1 < 0 ∨ o_text_n ≤ (x1).toNatClampNeg then none else
  if x2 < 0 ∨ o_text_n ≤ (x2).toNatClampNeg then none else
  if (o_text_v (x1).toNatClampNeg) = (o_text_v (x2).toNatClampNeg) then
  (if (x1 + (1 : Int32)) < 0 ∨ o_text_n ≤ ((x1 + (1 : Int32))).toNatClampNeg then none else
  if (x2 + (1 : Int32)) < 0 ∨ o_text_n ≤ ((x2 + (1 : Int32))).toNatClampNeg then none else
  if (o_text_v ((x1 + (1 : Int32))).toNatClampNeg) = (o_text_v ((x2 + (1 : Int32))).toNatClampNeg) then
  (if (x1 + (2 : Int32)) < 0 ∨ o_text_n ≤ ((x1 + (2 : Int32))).toNatClampNeg then none else
  if (x2 + (2 : Int32)) < 0 ∨ o_text_n ≤ ((x2 + (2 : Int32))).toNatClampNeg then none else
  if (o_text_v ((x1 + (2 : Int32))).toNatClampNeg) = (o_text_v ((x2 + (2 : Int32))).toNatClampNeg) then
  (some ((1 : Int32)))
  else
  (some ((0 : Int32))))
  else
  (some ((0 : Int32))))
  else
  (some ((0 : Int32)))
theorem hdX11_isLike : yX11_isLike.cls = RX11 ∧ yX11_isLike.cls ≠ "java/lang/invoke/MethodHandle" ∧ yX11_isLike.cls ≠ "java/lang/invoke/VarHandle" ∧ (parseMethodDescriptor yX11_isLike.desc).map (fun d => d.parameters.length) = some 2 := by decide +kernel
set_option maxHeartbeats 8000000 in
set_option maxRecDepth 100000 in
theorem mX11_isLike (l : Launch) (dC : Nat → ClassId) (dI : Nat → Nat → Nat) (o : Nat) (o_text : Nat) (o_packed : Nat) (o_loaded : Nat) (o_out : Nat) (o_lengths : Nat) (o_distances : Nat) (o_heads : Nat) (o_earlier : Nat) (o_often : Nat) (o_symbolLengths : Nat) (o_distanceLengths : Nat) (o_lengthLengths : Nat) (o_symbolCodes : Nat) (o_distanceCodes : Nat) (o_lengthCodes : Nat) (o_counts : Nat) (o_parents : Nat) (o_alone : Nat) (o_row : Nat) (o_toldSymbols : Nat) (o_toldNumbers : Nat) (o_text_c : ClassId) (o_text_n : Nat) (o_textRoom : Int32) (o_byteRoom : Int32) (o_chain : Int32) (o_textSize : Int32) (o_packedSize : Int32) (o_matches : Int32) (o_loadedSize : Int32) (o_outSize : Int32) (o_bits : Int32) (o_tokens : Int32) (o_told : Int32) (o_place : Int32) (o_fail : Int32) (o_found : Int32) (o_symbolCount : Int32) (o_distanceCount : Int32) (o_lengthCount : Int32) (o_text_v : Nat → Int32) (x1 : Int32) (x2 : Int32) (sz : Nat) (u : Int32) (h : pX11_isLike o_text_n o_text_v x1 x2 = some u) : Met l yX11_isLike (Cond.code yX11_isLike cX11_isLike 3 (some .boolean) :: fb_tb) ({ frames := 0, cells := 0, slots := 0, locals := 0 }) (fb_Pc (dC, dI) [.ref o, .int x1, .int x2] sz [(o_text_c, .int)] [(o, .inr (11, [.int o_textRoom, .int o_byteRoom, .int o_chain, .ref o_text, .int o_textSize, .ref o_packed, .int o_packedSize, .int o_matches, .ref o_loaded, .int o_loadedSize, .ref o_out, .int o_outSize, .int o_bits, .int o_tokens, .ref o_lengths, .ref o_distances, .ref o_heads, .ref o_earlier, .ref o_often, .ref o_symbolLengths, .ref o_distanceLengths, .ref o_lengthLengths, .ref o_symbolCodes, .ref o_distanceCodes, .ref o_lengthCodes, .ref o_counts, .ref o_parents, .ref o_alone, .ref o_row, .int o_told, .ref o_toldSymbols, .ref o_toldNumbers, .int o_place, .int o_fail, .int o_found, .int o_symbolCount, .int o_distanceCount, .int o_lengthCount])), (o_text, .inl (o_text_c, o_text_n, .inl o_text_v))]) (fb_Qi (dC, dI) u [(o, .inr (11, [.int o_textRoom, .int o_byteRoom, .int o_chain, .ref o_text, .int o_textSize, .ref o_packed, .int o_packedSize, .int o_matches, .ref o_loaded, .int o_loadedSize, .ref o_out, .int o_outSize, .int o_bits, .int o_tokens, .ref o_lengths, .ref o_distances, .ref o_heads, .ref o_earlier, .ref o_often, .ref o_symbolLengths, .ref o_distanceLengths, .ref o_lengthLengths, .ref o_symbolCodes, .ref o_distanceCodes, .ref o_lengthCodes, .ref o_counts, .ref o_parents, .ref o_alone, .ref o_row, .int o_told, .ref o_toldSymbols, .ref o_toldNumbers, .int o_place, .int o_fail, .int o_found, .int o_symbolCount, .int o_distanceCount, .int o_lengthCount])), (o_text, .inl (o_text_c, o_text_n, .inl o_text_v))] (va_A [(o, .inr (11, [.int o_textRoom, .int o_byteRoom, .int o_chain, .ref o_text, .int o_textSize, .ref o_packed, .int o_packedSize, .int o_matches, .ref o_loaded, .int o_loadedSize, .ref o_out, .int o_outSize, .int o_bits, .int o_tokens, .ref o_lengths, .ref o_distances, .ref o_heads, .ref o_earlier, .ref o_often, .ref o_symbolLengths, .ref o_distanceLengths, .ref o_lengthLengths, .ref o_symbolCodes, .ref o_distanceCodes, .ref o_lengthCodes, .ref o_counts, .ref o_parents, .ref o_alone, .ref o_row, .int o_told, .ref o_toldSymbols, .ref o_toldNumbers, .int o_place, .int o_fail, .int o_found, .int o_symbolCount, .int o_distanceCount, .int o_lengthCount])), (o_text, .inl (o_text_c, o_text_n, .inl o_text_v))] sz)) 0 0 (va_A [(o, .inr (11, [.int o_textRoom, .int o_byteRoom, .int o_chain, .ref o_text, .int o_textSize, .ref o_packed, .int o_packedSize, .int o_matches, .ref o_loaded, .int o_loadedSize, .ref o_out, .int o_outSize, .int o_bits, .int o_tokens, .ref o_lengths, .ref o_distances, .ref o_heads, .ref o_earlier, .ref o_often, .ref o_symbolLengths, .ref o_distanceLengths, .ref o_lengthLengths, .ref o_symbolCodes, .ref o_distanceCodes, .ref o_lengthCodes, .ref o_counts, .ref o_parents, .ref o_alone, .ref o_row, .int o_told, .ref o_toldSymbols, .ref o_toldNumbers, .int o_place, .int o_fail, .int o_found, .int o_symbolCount, .int o_distanceCount, .int o_lengthCount])), (o_text, .inl (o_text_c, o_text_n, .inl o_text_v))] sz) := by
  refine fb_meti (ty := .boolean) (by decide) (Nat.le_of_ble_eq_true rfl) (fun p e s m args below meth c A Q ls H hx hb hml hown hts hP hK hN hZ hD hA hS hret hl => ?_)
  replace hl : lv_has ls 3 [(0, .ref o), (1, .int x1), (2, .int x2)] := hl
  unfold pX11_isLike at h
  refine lv_aload_n hx hb dX11_isLike_0 rfl (lv_at hl 0 rfl) ?_
  refine va_get (D := (dC, dI)) (ci := 11) (v := .ref o_text) (C := RX11) (T := TX11) (N := 38) hx hb hts i_X11 hown hK hP 0 rfl rfl 3 (by decide) (hts _ k_840) (fun _ h9 => h9) rfl dX11_isLike_1 ?_
  refine lv_iload_n hx hb dX11_isLike_4 rfl (lv_at hl 1 rfl) ?_
  obtain ⟨g1, h⟩ := fb_g h
  refine va_iald hx hb hK hP 1 0 rfl rfl g1 dX11_isLike_5 ?_
  refine lv_aload_n hx hb dX11_isLike_6 rfl (lv_at hl 0 rfl) ?_
  refine va_get (D := (dC, dI)) (ci := 11) (v := .ref o_text) (C := RX11) (T := TX11) (N := 38) hx hb hts i_X11 hown hK hP 0 rfl rfl 3 (by decide) (hts _ k_840) (fun _ h9 => h9) rfl dX11_isLike_7 ?_
  refine lv_iload_n hx hb dX11_isLike_10 rfl (lv_at hl 2 rfl) ?_
  obtain ⟨g2, h⟩ := fb_g h
  refine va_iald hx hb hK hP 1 0 rfl rfl g2 dX11_isLike_11 ?_
  refine lv_icmp_ne (tgt := 57) hx hb dX11_isLike_12 (by decide) (fun c3 => ?_) (fun c3 => ?_)
  · replace h := fb_f c3 h
    refine lv_iconst (v := (0 : Int32)) hx hb dX11_isLike_57 (by decide) ?_
    have hu := Option.some.inj h
    exact hret _ _ _ _ _ dX11_isLike_58 rfl (by rw [← hu]) hP hD hS
  · replace h := fb_t c3 h
    refine lv_aload_n hx hb dX11_isLike_15 rfl (lv_at hl 0 rfl) ?_
    refine va_get (D := (dC, dI)) (ci := 11) (v := .ref o_text) (C := RX11) (T := TX11) (N := 38) hx hb hts i_X11 hown hK hP 0 rfl rfl 3 (by decide) (hts _ k_840) (fun _ h9 => h9) rfl dX11_isLike_16 ?_
    refine lv_iload_n hx hb dX11_isLike_19 rfl (lv_at hl 1 rfl) ?_
    refine lv_iconst (v := (1 : Int32)) hx hb dX11_isLike_20 (by decide) ?_
    refine lv_iadd hx hb dX11_isLike_21 ?_
    obtain ⟨g4, h⟩ := fb_g h
    refine va_iald hx hb hK hP 1 0 rfl rfl g4 dX11_isLike_22 ?_
    refine lv_aload_n hx hb dX11_isLike_23 rfl (lv_at hl 0 rfl) ?_
    refine va_get (D := (dC, dI)) (ci := 11) (v := .ref o_text) (C := RX11) (T := TX11) (N := 38) hx hb hts i_X11 hown hK hP 0 rfl rfl 3 (by decide) (hts _ k_840) (fun _ h9 => h9) rfl dX11_isLike_24 ?_
    refine lv_iload_n hx hb dX11_isLike_27 rfl (lv_at hl 2 rfl) ?_
    refine lv_iconst (v := (1 : Int32)) hx hb dX11_isLike_28 (by decide) ?_
    refine lv_iadd hx hb dX11_isLike_29 ?_
    obtain ⟨g5, h⟩ := fb_g h
    refine va_iald hx hb hK hP 1 0 rfl rfl g5 dX11_isLike_30 ?_
    refine lv_icmp_ne (tgt := 57) hx hb dX11_isLike_31 (by decide) (fun c6 => ?_) (fun c6 => ?_)
    · replace h := fb_f c6 h
      refine lv_iconst (v := (0 : Int32)) hx hb dX11_isLike_57 (by decide) ?_
      have hu := Option.some.inj h
      exact hret _ _ _ _ _ dX11_isLike_58 rfl (by rw [← hu]) hP hD hS
    · replace h := fb_t c6 h
      refine lv_aload_n hx hb dX11_isLike_34 rfl (lv_at hl 0 rfl) ?_
      refine va_get (D := (dC, dI)) (ci := 11) (v := .ref o_text) (C := RX11) (T := TX11) (N := 38) hx hb hts i_X11 hown hK hP 0 rfl rfl 3 (by decide) (hts _ k_840) (fun _ h9 => h9) rfl dX11_isLike_35 ?_
      refine lv_iload_n hx hb dX11_isLike_38 rfl (lv_at hl 1 rfl) ?_
      refine lv_iconst (v := (2 : Int32)) hx hb dX11_isLike_39 (by decide) ?_
      refine lv_iadd hx hb dX11_isLike_40 ?_
      obtain ⟨g7, h⟩ := fb_g h
      refine va_iald hx hb hK hP 1 0 rfl rfl g7 dX11_isLike_41 ?_
      refine lv_aload_n hx hb dX11_isLike_42 rfl (lv_at hl 0 rfl) ?_
      refine va_get (D := (dC, dI)) (ci := 11) (v := .ref o_text) (C := RX11) (T := TX11) (N := 38) hx hb hts i_X11 hown hK hP 0 rfl rfl 3 (by decide) (hts _ k_840) (fun _ h9 => h9) rfl dX11_isLike_43 ?_
      refine lv_iload_n hx hb dX11_isLike_46 rfl (lv_at hl 2 rfl) ?_
      refine lv_iconst (v := (2 : Int32)) hx hb dX11_isLike_47 (by decide) ?_
      refine lv_iadd hx hb dX11_isLike_48 ?_
      obtain ⟨g8, h⟩ := fb_g h
      refine va_iald hx hb hK hP 1 0 rfl rfl g8 dX11_isLike_49 ?_
      refine lv_icmp_ne (tgt := 57) hx hb dX11_isLike_50 (by decide) (fun c9 => ?_) (fun c9 => ?_)
      · replace h := fb_f c9 h
        refine lv_iconst (v := (0 : Int32)) hx hb dX11_isLike_57 (by decide) ?_
        have hu := Option.some.inj h
        exact hret _ _ _ _ _ dX11_isLike_58 rfl (by rw [← hu]) hP hD hS
      · replace h := fb_t c9 h
        refine lv_iconst (v := (1 : Int32)) hx hb dX11_isLike_53 (by decide) ?_
        refine lv_goto (tgt := 58) hx hb dX11_isLike_54 (by decide) ?_
        have hu := Option.some.inj h
        exact hret _ _ _ _ _ dX11_isLike_58 rfl (by rw [← hu]) hP hD hS
theorem dX11_matchOf_0 : decode cX11_matchOf 0 = .ok (.sipush 258, 3) := by decide +kernel
theorem dX11_matchOf_3 : decode cX11_matchOf 3 = .ok (.aload_n 0, 1) := by decide +kernel
theorem dX11_matchOf_4 : decode cX11_matchOf 4 = .ok (.getfield 90, 3) := by decide +kernel
theorem dX11_matchOf_7 : decode cX11_matchOf 7 = .ok (.iload_n 2, 1) := by decide +kernel
theorem dX11_matchOf_8 : decode cX11_matchOf 8 = .ok (.isub, 1) := by decide +kernel
theorem dX11_matchOf_9 : decode cX11_matchOf 9 = .ok (.invokestatic 108, 3) := by decide +kernel
theorem dX11_matchOf_12 : decode cX11_matchOf 12 = .ok (.istore_n 3, 1) := by decide +kernel
theorem dX11_matchOf_13 : decode cX11_matchOf 13 = .ok (.iconst 3, 1) := by decide +kernel
theorem dX11_matchOf_14 : decode cX11_matchOf 14 = .ok (.istore 4, 2) := by decide +kernel
theorem dX11_matchOf_16 : decode cX11_matchOf 16 = .ok (.iload 4, 2) := by decide +kernel
theorem dX11_matchOf_18 : decode cX11_matchOf 18 = .ok (.iload_n 3, 1) := by decide +kernel
theorem dX11_matchOf_19 : decode cX11_matchOf 19 = .ok (.if_icmp .ge 30, 3) := by decide +kernel
theorem dX11_matchOf_22 : decode cX11_matchOf 22 = .ok (.aload_n 0, 1) := by decide +kernel
theorem dX11_matchOf_23 : decode cX11_matchOf 23 = .ok (.getfield 8, 3) := by decide +kernel
theorem dX11_matchOf_26 : decode cX11_matchOf 26 = .ok (.iload_n 1, 1) := by decide +kernel
theorem dX11_matchOf_27 : decode cX11_matchOf 27 = .ok (.iload 4, 2) := by decide +kernel
theorem dX11_matchOf_29 : decode cX11_matchOf 29 = .ok (.iadd, 1) := by decide +kernel
theorem dX11_matchOf_30 : decode cX11_matchOf 30 = .ok (.iaload, 1) := by decide +kernel
theorem dX11_matchOf_31 : decode cX11_matchOf 31 = .ok (.aload_n 0, 1) := by decide +kernel
theorem dX11_matchOf_32 : decode cX11_matchOf 32 = .ok (.getfield 8, 3) := by decide +kernel
theorem dX11_matchOf_35 : decode cX11_matchOf 35 = .ok (.iload_n 2, 1) := by decide +kernel
theorem dX11_matchOf_36 : decode cX11_matchOf 36 = .ok (.iload 4, 2) := by decide +kernel
theorem dX11_matchOf_38 : decode cX11_matchOf 38 = .ok (.iadd, 1) := by decide +kernel
theorem dX11_matchOf_39 : decode cX11_matchOf 39 = .ok (.iaload, 1) := by decide +kernel
theorem dX11_matchOf_40 : decode cX11_matchOf 40 = .ok (.if_icmp .ne 9, 3) := by decide +kernel
theorem dX11_matchOf_43 : decode cX11_matchOf 43 = .ok (.iinc 4 1, 3) := by decide +kernel
theorem dX11_matchOf_46 : decode cX11_matchOf 46 = .ok (.goto (-30), 3) := by decide +kernel
theorem dX11_matchOf_49 : decode cX11_matchOf 49 = .ok (.iload 4, 2) := by decide +kernel
theorem dX11_matchOf_51 : decode cX11_matchOf 51 = .ok (.ireturn, 1) := by decide +kernel
def pX11_matchOf_b16 (o_text_n : Nat) (o_text_v : Nat → Int32) (x1 : Int32) (x2 : Int32)  : Nat → Int32 → Int32 → Option (Int32)
  | 0 => fun _ _ => none
  | n + 1 => fun x3 x4 =>
  if x3 ≤ x4 then
  (some (x4))
  else
  (if (x1 + x4) < 0 ∨ o_text_n ≤ ((x1 + x4)).toNatClampNeg then none else
  if (x2 + x4) < 0 ∨ o_text_n ≤ ((x2 + x4)).toNatClampNeg then none else
  if (o_text_v ((x1 + x4)).toNatClampNeg) = (o_text_v ((x2 + x4)).toNatClampNeg) then
  ((pX11_matchOf_b16 o_text_n o_text_v x1 x2 n) x3 (x4 + (1 : Int32)))
  else
  (some (x4)))
def pX11_matchOf (o_text_n : Nat) (o_textSize : Int32) (o_text_v : Nat → Int32) (x1 : Int32) (x2 : Int32)   : Option (Int32) :=
  (pX11_min (258 : Int32) (o_textSize - x2)).bind (fun u5 =>
  pX11_matchOf_b16 o_text_n o_text_v x1 x2 fb_F u5 (3 : Int32))
theorem hdX11_matchOf : yX11_matchOf.cls = RX11 ∧ yX11_matchOf.cls ≠ "java/lang/invoke/MethodHandle" ∧ yX11_matchOf.cls ≠ "java/lang/invoke/VarHandle" ∧ (parseMethodDescriptor yX11_matchOf.desc).map (fun d => d.parameters.length) = some 2 := by decide +kernel
set_option maxHeartbeats 8000000 in
set_option maxRecDepth 100000 in
theorem mX11_matchOf (l : Launch) (dC : Nat → ClassId) (dI : Nat → Nat → Nat) (o : Nat) (o_text : Nat) (o_packed : Nat) (o_loaded : Nat) (o_out : Nat) (o_lengths : Nat) (o_distances : Nat) (o_heads : Nat) (o_earlier : Nat) (o_often : Nat) (o_symbolLengths : Nat) (o_distanceLengths : Nat) (o_lengthLengths : Nat) (o_symbolCodes : Nat) (o_distanceCodes : Nat) (o_lengthCodes : Nat) (o_counts : Nat) (o_parents : Nat) (o_alone : Nat) (o_row : Nat) (o_toldSymbols : Nat) (o_toldNumbers : Nat) (o_text_c : ClassId) (o_text_n : Nat) (o_textRoom : Int32) (o_byteRoom : Int32) (o_chain : Int32) (o_textSize : Int32) (o_packedSize : Int32) (o_matches : Int32) (o_loadedSize : Int32) (o_outSize : Int32) (o_bits : Int32) (o_tokens : Int32) (o_told : Int32) (o_place : Int32) (o_fail : Int32) (o_found : Int32) (o_symbolCount : Int32) (o_distanceCount : Int32) (o_lengthCount : Int32) (o_text_v : Nat → Int32) (x1 : Int32) (x2 : Int32) (sz : Nat) (u : Int32) (h : pX11_matchOf o_text_n o_textSize o_text_v x1 x2 = some u) : Met l yX11_matchOf (Cond.code yX11_matchOf cX11_matchOf 5 (some .int) :: fb_tb) ({ frames := 1, cells := 0, slots := 0, locals := 21 }) (fb_Pc (dC, dI) [.ref o, .int x1, .int x2] sz [(o_text_c, .int)] [(o, .inr (11, [.int o_textRoom, .int o_byteRoom, .int o_chain, .ref o_text, .int o_textSize, .ref o_packed, .int o_packedSize, .int o_matches, .ref o_loaded, .int o_loadedSize, .ref o_out, .int o_outSize, .int o_bits, .int o_tokens, .ref o_lengths, .ref o_distances, .ref o_heads, .ref o_earlier, .ref o_often, .ref o_symbolLengths, .ref o_distanceLengths, .ref o_lengthLengths, .ref o_symbolCodes, .ref o_distanceCodes, .ref o_lengthCodes, .ref o_counts, .ref o_parents, .ref o_alone, .ref o_row, .int o_told, .ref o_toldSymbols, .ref o_toldNumbers, .int o_place, .int o_fail, .int o_found, .int o_symbolCount, .int o_distanceCount, .int o_lengthCount])), (o_text, .inl (o_text_c, o_text_n, .inl o_text_v))]) (fb_Qi (dC, dI) u [(o, .inr (11, [.int o_textRoom, .int o_byteRoom, .int o_chain, .ref o_text, .int o_textSize, .ref o_packed, .int o_packedSize, .int o_matches, .ref o_loaded, .int o_loadedSize, .ref o_out, .int o_outSize, .int o_bits, .int o_tokens, .ref o_lengths, .ref o_distances, .ref o_heads, .ref o_earlier, .ref o_often, .ref o_symbolLengths, .ref o_distanceLengths, .ref o_lengthLengths, .ref o_symbolCodes, .ref o_distanceCodes, .ref o_lengthCodes, .ref o_counts, .ref o_parents, .ref o_alone, .ref o_row, .int o_told, .ref o_toldSymbols, .ref o_toldNumbers, .int o_place, .int o_fail, .int o_found, .int o_symbolCount, .int o_distanceCount, .int o_lengthCount])), (o_text, .inl (o_text_c, o_text_n, .inl o_text_v))] (va_A [(o, .inr (11, [.int o_textRoom, .int o_byteRoom, .int o_chain, .ref o_text, .int o_textSize, .ref o_packed, .int o_packedSize, .int o_matches, .ref o_loaded, .int o_loadedSize, .ref o_out, .int o_outSize, .int o_bits, .int o_tokens, .ref o_lengths, .ref o_distances, .ref o_heads, .ref o_earlier, .ref o_often, .ref o_symbolLengths, .ref o_distanceLengths, .ref o_lengthLengths, .ref o_symbolCodes, .ref o_distanceCodes, .ref o_lengthCodes, .ref o_counts, .ref o_parents, .ref o_alone, .ref o_row, .int o_told, .ref o_toldSymbols, .ref o_toldNumbers, .int o_place, .int o_fail, .int o_found, .int o_symbolCount, .int o_distanceCount, .int o_lengthCount])), (o_text, .inl (o_text_c, o_text_n, .inl o_text_v))] sz)) 0 0 (va_A [(o, .inr (11, [.int o_textRoom, .int o_byteRoom, .int o_chain, .ref o_text, .int o_textSize, .ref o_packed, .int o_packedSize, .int o_matches, .ref o_loaded, .int o_loadedSize, .ref o_out, .int o_outSize, .int o_bits, .int o_tokens, .ref o_lengths, .ref o_distances, .ref o_heads, .ref o_earlier, .ref o_often, .ref o_symbolLengths, .ref o_distanceLengths, .ref o_lengthLengths, .ref o_symbolCodes, .ref o_distanceCodes, .ref o_lengthCodes, .ref o_counts, .ref o_parents, .ref o_alone, .ref o_row, .int o_told, .ref o_toldSymbols, .ref o_toldNumbers, .int o_place, .int o_fail, .int o_found, .int o_symbolCount, .int o_distanceCount, .int o_lengthCount])), (o_text, .inl (o_text_c, o_text_n, .inl o_text_v))] sz) := by
  refine fb_meti (ty := .int) (by decide) (Nat.le_of_ble_eq_true rfl) (fun p e s m args below meth c A Q ls H hx hb hml hown hts hP hK hN hZ hD hA hS hret hl => ?_)
  replace hl : lv_has ls 5 [(0, .ref o), (1, .int x1), (2, .int x2)] := hl
  have wB16 : ∀ n : Nat, ∀ (x3 : Int32) (x4 : Int32) (H : Heap) (locs : List Loc) (ls : Array Slot), va_P (dC, dI) fb_cl [(o, .inr (11, [.int o_textRoom, .int o_byteRoom, .int o_chain, .ref o_text, .int o_textSize, .ref o_packed, .int o_packedSize, .int o_matches, .ref o_loaded, .int o_loadedSize, .ref o_out, .int o_outSize, .int o_bits, .int o_tokens, .ref o_lengths, .ref o_distances, .ref o_heads, .ref o_earlier, .ref o_often, .ref o_symbolLengths, .ref o_distanceLengths, .ref o_lengthLengths, .ref o_symbolCodes, .ref o_distanceCodes, .ref o_lengthCodes, .ref o_counts, .ref o_parents, .ref o_alone, .ref o_row, .int o_told, .ref o_toldSymbols, .ref o_toldNumbers, .int o_place, .int o_fail, .int o_found, .int o_symbolCount, .int o_distanceCount, .int o_lengthCount])), (o_text, .inl (o_text_c, o_text_n, .inl o_text_v))] H → va_D A [(o, .inr (11, [.int o_textRoom, .int o_byteRoom, .int o_chain, .ref o_text, .int o_textSize, .ref o_packed, .int o_packedSize, .int o_matches, .ref o_loaded, .int o_loadedSize, .ref o_out, .int o_outSize, .int o_bits, .int o_tokens, .ref o_lengths, .ref o_distances, .ref o_heads, .ref o_earlier, .ref o_often, .ref o_symbolLengths, .ref o_distanceLengths, .ref o_lengthLengths, .ref o_symbolCodes, .ref o_distanceCodes, .ref o_lengthCodes, .ref o_counts, .ref o_parents, .ref o_alone, .ref o_row, .int o_told, .ref o_toldSymbols, .ref o_toldNumbers, .int o_place, .int o_fail, .int o_found, .int o_symbolCount, .int o_distanceCount, .int o_lengthCount])), (o_text, .inl (o_text_c, o_text_n, .inl o_text_v))] → va_S A s.heap H locs → lv_has ls 5 [(0, .ref o), (1, .int x1), (2, .int x2), (3, .int x3), (4, .int x4)] → pX11_matchOf_b16 o_text_n o_text_v x1 x2 n x3 x4 = some u → W p l e ({ frames := 1, cells := 0, slots := 0, locals := 21 }) s m args below meth c H locs 0 0 Q (F0 m 16 ls []) := by
    intro n
    induction n with
    | zero => intro x3 x4 H locs ls hP hD hS hl h; cases h
    | succ n ih =>
      intro x3 x4 H locs ls hP hD hS hl h
      rw [pX11_matchOf_b16] at h
      refine lv_iload hx hb dX11_matchOf_16 (lv_at hl 4 rfl) ?_
      refine lv_iload_n hx hb dX11_matchOf_18 rfl (lv_at hl 3 rfl) ?_
      refine lv_icmp_ge (tgt := 49) hx hb dX11_matchOf_19 (by decide) (fun c1 => ?_) (fun c1 => ?_)
      · replace h := fb_t c1 h
        refine lv_iload hx hb dX11_matchOf_49 (lv_at hl 4 rfl) ?_
        have hu := Option.some.inj h
        exact hret _ _ _ _ _ dX11_matchOf_51 rfl (by rw [← hu]) hP hD hS
      · replace h := fb_f c1 h
        refine lv_aload_n hx hb dX11_matchOf_22 rfl (lv_at hl 0 rfl) ?_
        refine va_get (D := (dC, dI)) (ci := 11) (v := .ref o_text) (C := RX11) (T := TX11) (N := 38) hx hb hts i_X11 hown hK hP 0 rfl rfl 3 (by decide) (hts _ k_840) (fun _ h9 => h9) rfl dX11_matchOf_23 ?_
        refine lv_iload_n hx hb dX11_matchOf_26 rfl (lv_at hl 1 rfl) ?_
        refine lv_iload hx hb dX11_matchOf_27 (lv_at hl 4 rfl) ?_
        refine lv_iadd hx hb dX11_matchOf_29 ?_
        obtain ⟨g2, h⟩ := fb_g h
        refine va_iald hx hb hK hP 1 0 rfl rfl g2 dX11_matchOf_30 ?_
        refine lv_aload_n hx hb dX11_matchOf_31 rfl (lv_at hl 0 rfl) ?_
        refine va_get (D := (dC, dI)) (ci := 11) (v := .ref o_text) (C := RX11) (T := TX11) (N := 38) hx hb hts i_X11 hown hK hP 0 rfl rfl 3 (by decide) (hts _ k_840) (fun _ h9 => h9) rfl dX11_matchOf_32 ?_
        refine lv_iload_n hx hb dX11_matchOf_35 rfl (lv_at hl 2 rfl) ?_
        refine lv_iload hx hb dX11_matchOf_36 (lv_at hl 4 rfl) ?_
        refine lv_iadd hx hb dX11_matchOf_38 ?_
        obtain ⟨g3, h⟩ := fb_g h
        refine va_iald hx hb hK hP 1 0 rfl rfl g3 dX11_matchOf_39 ?_
        refine lv_icmp_ne (tgt := 49) hx hb dX11_matchOf_40 (by decide) (fun c4 => ?_) (fun c4 => ?_)
        · replace h := fb_f c4 h
          refine lv_iload hx hb dX11_matchOf_49 (lv_at hl 4 rfl) ?_
          have hu := Option.some.inj h
          exact hret _ _ _ _ _ dX11_matchOf_51 rfl (by rw [← hu]) hP hD hS
        · replace h := fb_t c4 h
          refine lv_iinc (v := (x4 + (1 : Int32))) (lv' := [(4, .int (x4 + (1 : Int32))), (0, .ref o), (1, .int x1), (2, .int x2), (3, .int x3)]) hx hb dX11_matchOf_43 hl (k := 4) rfl rfl (by decide) rfl (fun ls hl => ?_)
          refine lv_goto (tgt := 16) hx hb dX11_matchOf_46 (by decide) ?_
          exact ih x3 (x4 + (1 : Int32)) _ _ _ hP hD hS (lv_sub hl [1, 2, 3, 4, 0] rfl) h
  unfold pX11_matchOf at h
  refine lv_sipush (v := (258 : Int32)) hx hb dX11_matchOf_0 (by decide) ?_
  refine lv_aload_n hx hb dX11_matchOf_3 rfl (lv_at hl 0 rfl) ?_
  refine va_get (D := (dC, dI)) (ci := 11) (v := .int o_textSize) (C := RX11) (T := TX11) (N := 38) hx hb hts i_X11 hown hK hP 0 rfl rfl 4 (by decide) (hts _ k_841) (fun _ h9 => h9) rfl dX11_matchOf_4 ?_
  refine lv_iload_n hx hb dX11_matchOf_7 rfl (lv_at hl 2 rfl) ?_
  refine lv_isub hx hb dX11_matchOf_8 ?_
  obtain ⟨u5, e5, h⟩ := fb_b h
  refine fb_ci (wc := []) (wr := [(o, .inr (11, [.int o_textRoom, .int o_byteRoom, .int o_chain, .ref o_text, .int o_textSize, .ref o_packed, .int o_packedSize, .int o_matches, .ref o_loaded, .int o_loadedSize, .ref o_out, .int o_outSize, .int o_bits, .int o_tokens, .ref o_lengths, .ref o_distances, .ref o_heads, .ref o_earlier, .ref o_often, .ref o_symbolLengths, .ref o_distanceLengths, .ref o_lengthLengths, .ref o_symbolCodes, .ref o_distanceCodes, .ref o_lengthCodes, .ref o_counts, .ref o_parents, .ref o_alone, .ref o_row, .int o_told, .ref o_toldSymbols, .ref o_toldNumbers, .int o_place, .int o_fail, .int o_found, .int o_symbolCount, .int o_distanceCount, .int o_lengthCount])), (o_text, .inl (o_text_c, o_text_n, .inl o_text_v))]) (w1 := []) (ws' := [(o, .inr (11, [.int o_textRoom, .int o_byteRoom, .int o_chain, .ref o_text, .int o_textSize, .ref o_packed, .int o_packedSize, .int o_matches, .ref o_loaded, .int o_loadedSize, .ref o_out, .int o_outSize, .int o_bits, .int o_tokens, .ref o_lengths, .ref o_distances, .ref o_heads, .ref o_earlier, .ref o_often, .ref o_symbolLengths, .ref o_distanceLengths, .ref o_lengthLengths, .ref o_symbolCodes, .ref o_distanceCodes, .ref o_lengthCodes, .ref o_counts, .ref o_parents, .ref o_alone, .ref o_row, .int o_told, .ref o_toldSymbols, .ref o_toldNumbers, .int o_place, .int o_fail, .int o_found, .int o_symbolCount, .int o_distanceCount, .int o_lengthCount])), (o_text, .inl (o_text_c, o_text_n, .inl o_text_v))]) (va_runS (As := [.int (258 : Int32), .int (o_textSize - x2)]) (rest := []) ⟨hx, hb, hml, hown, hts⟩ (mX11_min l dC dI (258 : Int32) (o_textSize - x2) H.size u5 e5) (va_cwS 2 hts (fb_GSx k_1022 k_1023 k_74 k_1024) rfl rfl rfl hdX11_min ⟨Nat.le_of_ble_eq_true rfl, Nat.le_of_ble_eq_true rfl⟩) (fb_pS hP hD hS hA hK hN hZ [] rfl rfl [] rfl) rfl rfl hl.1 rfl (lv_room (Nat.le_of_ble_eq_true rfl)) dX11_matchOf_9 ⟨Nat.le_of_ble_eq_true rfl, Nat.le_of_ble_eq_true rfl⟩) hP hD hS hA [] [0, 1] rfl rfl rfl (by decide) [0, 1] rfl rfl (fun H locs hP hD hS => ?_)
  refine lv_istore_n (lv' := [(3, .int u5), (0, .ref o), (1, .int x1), (2, .int x2)]) hx hb dX11_matchOf_12 rfl hl (by decide) rfl (fun ls hl => ?_)
  refine lv_iconst (v := (3 : Int32)) hx hb dX11_matchOf_13 (by decide) ?_
  refine lv_istore (lv' := [(4, .int (3 : Int32)), (3, .int u5), (0, .ref o), (1, .int x1), (2, .int x2)]) hx hb dX11_matchOf_14 hl (by decide) rfl (fun ls hl => ?_)
  exact wB16 fb_F u5 (3 : Int32) _ _ _ hP hD hS (lv_sub hl [2, 3, 4, 1, 0] rfl) h
theorem dX11_note_0 : decode cX11_note 0 = .ok (.iload_n 1, 1) := by decide +kernel
theorem dX11_note_1 : decode cX11_note 1 = .ok (.iconst 2, 1) := by decide +kernel
theorem dX11_note_2 : decode cX11_note 2 = .ok (.iadd, 1) := by decide +kernel
theorem dX11_note_3 : decode cX11_note 3 = .ok (.aload_n 0, 1) := by decide +kernel
theorem dX11_note_4 : decode cX11_note 4 = .ok (.getfield 90, 3) := by decide +kernel
theorem dX11_note_7 : decode cX11_note 7 = .ok (.if_icmp .ge 28, 3) := by decide +kernel
theorem dX11_note_10 : decode cX11_note 10 = .ok (.aload_n 0, 1) := by decide +kernel
theorem dX11_note_11 : decode cX11_note 11 = .ok (.iload_n 1, 1) := by decide +kernel
theorem dX11_note_12 : decode cX11_note 12 = .ok (.invokevirtual 112, 3) := by decide +kernel
theorem dX11_note_15 : decode cX11_note 15 = .ok (.istore_n 2, 1) := by decide +kernel
theorem dX11_note_16 : decode cX11_note 16 = .ok (.aload_n 0, 1) := by decide +kernel
theorem dX11_note_17 : decode cX11_note 17 = .ok (.getfield 33, 3) := by decide +kernel
theorem dX11_note_20 : decode cX11_note 20 = .ok (.iload_n 1, 1) := by decide +kernel
theorem dX11_note_21 : decode cX11_note 21 = .ok (.aload_n 0, 1) := by decide +kernel
theorem dX11_note_22 : decode cX11_note 22 = .ok (.getfield 30, 3) := by decide +kernel
theorem dX11_note_25 : decode cX11_note 25 = .ok (.iload_n 2, 1) := by decide +kernel
theorem dX11_note_26 : decode cX11_note 26 = .ok (.iaload, 1) := by decide +kernel
theorem dX11_note_27 : decode cX11_note 27 = .ok (.iastore, 1) := by decide +kernel
theorem dX11_note_28 : decode cX11_note 28 = .ok (.aload_n 0, 1) := by decide +kernel
theorem dX11_note_29 : decode cX11_note 29 = .ok (.getfield 30, 3) := by decide +kernel
theorem dX11_note_32 : decode cX11_note 32 = .ok (.iload_n 2, 1) := by decide +kernel
theorem dX11_note_33 : decode cX11_note 33 = .ok (.iload_n 1, 1) := by decide +kernel
theorem dX11_note_34 : decode cX11_note 34 = .ok (.iastore, 1) := by decide +kernel
theorem dX11_note_35 : decode cX11_note 35 = .ok (.return_, 1) := by decide +kernel
def pX11_note (o_text_n : Nat) (o_heads_n : Nat) (o_earlier_n : Nat) (o_textSize : Int32) (o_text_v : Nat → Int32) (x1 : Int32)  (o_heads_v : Nat → Int32) (o_earlier_v : Nat → Int32) : Option ((Nat → Int32) × (Nat → Int32)) :=
  if o_textSize ≤ (x1 + (2 : Int32)) then
  (some (o_heads_v, o_earlier_v))
  else
  ((pX11_mixed o_text_n o_text_v x1).bind (fun u2 =>
  if u2 < 0 ∨ o_heads_n ≤ (u2).toNatClampNeg then none else
  if x1 < 0 ∨ o_earlier_n ≤ (x1).toNatClampNeg then none else
  if u2 < 0 ∨ o_heads_n ≤ (u2).toNatClampNeg then none else
  some ((upd o_heads_v (u2).toNatClampNeg x1), (upd o_earlier_v (x1).toNatClampNeg (o_heads_v (u2).toNatClampNeg)))))
theorem hdX11_note : yX11_note.cls = RX11 ∧ yX11_note.cls ≠ "java/lang/invoke/MethodHandle" ∧ yX11_note.cls ≠ "java/lang/invoke/VarHandle" ∧ (parseMethodDescriptor yX11_note.desc).map (fun d => d.parameters.length) = some 1 := by decide +kernel
set_option maxHeartbeats 8000000 in
set_option maxRecDepth 100000 in
theorem mX11_note (l : Launch) (dC : Nat → ClassId) (dI : Nat → Nat → Nat) (o : Nat) (o_text : Nat) (o_heads : Nat) (o_earlier : Nat) (o_packed : Nat) (o_loaded : Nat) (o_out : Nat) (o_lengths : Nat) (o_distances : Nat) (o_often : Nat) (o_symbolLengths : Nat) (o_distanceLengths : Nat) (o_lengthLengths : Nat) (o_symbolCodes : Nat) (o_distanceCodes : Nat) (o_lengthCodes : Nat) (o_counts : Nat) (o_parents : Nat) (o_alone : Nat) (o_row : Nat) (o_toldSymbols : Nat) (o_toldNumbers : Nat) (o_text_c : ClassId) (o_heads_c : ClassId) (o_earlier_c : ClassId) (o_text_n : Nat) (o_heads_n : Nat) (o_earlier_n : Nat) (o_textRoom : Int32) (o_byteRoom : Int32) (o_chain : Int32) (o_textSize : Int32) (o_packedSize : Int32) (o_matches : Int32) (o_loadedSize : Int32) (o_outSize : Int32) (o_bits : Int32) (o_tokens : Int32) (o_told : Int32) (o_place : Int32) (o_fail : Int32) (o_found : Int32) (o_symbolCount : Int32) (o_distanceCount : Int32) (o_lengthCount : Int32) (o_text_v : Nat → Int32) (o_heads_v : Nat → Int32) (o_earlier_v : Nat → Int32) (x1 : Int32) (sz : Nat) (u : (Nat → Int32) × (Nat → Int32)) (h : pX11_note o_text_n o_heads_n o_earlier_n o_textSize o_text_v x1 o_heads_v o_earlier_v = some u) : Met l yX11_note (Cond.code yX11_note cX11_note 3 none :: fb_tb) ({ frames := 1, cells := 0, slots := 0, locals := 21 }) (fb_Pc (dC, dI) [.ref o, .int x1] sz [(o_text_c, .int), (o_heads_c, .int), (o_earlier_c, .int)] [(o, .inr (11, [.int o_textRoom, .int o_byteRoom, .int o_chain, .ref o_text, .int o_textSize, .ref o_packed, .int o_packedSize, .int o_matches, .ref o_loaded, .int o_loadedSize, .ref o_out, .int o_outSize, .int o_bits, .int o_tokens, .ref o_lengths, .ref o_distances, .ref o_heads, .ref o_earlier, .ref o_often, .ref o_symbolLengths, .ref o_distanceLengths, .ref o_lengthLengths, .ref o_symbolCodes, .ref o_distanceCodes, .ref o_lengthCodes, .ref o_counts, .ref o_parents, .ref o_alone, .ref o_row, .int o_told, .ref o_toldSymbols, .ref o_toldNumbers, .int o_place, .int o_fail, .int o_found, .int o_symbolCount, .int o_distanceCount, .int o_lengthCount])), (o_text, .inl (o_text_c, o_text_n, .inl o_text_v)), (o_heads, .inl (o_heads_c, o_heads_n, .inl o_heads_v)), (o_earlier, .inl (o_earlier_c, o_earlier_n, .inl o_earlier_v))]) (fb_Qv (dC, dI) [(o, .inr (11, [.int o_textRoom, .int o_byteRoom, .int o_chain, .ref o_text, .int o_textSize, .ref o_packed, .int o_packedSize, .int o_matches, .ref o_loaded, .int o_loadedSize, .ref o_out, .int o_outSize, .int o_bits, .int o_tokens, .ref o_lengths, .ref o_distances, .ref o_heads, .ref o_earlier, .ref o_often, .ref o_symbolLengths, .ref o_distanceLengths, .ref o_lengthLengths, .ref o_symbolCodes, .ref o_distanceCodes, .ref o_lengthCodes, .ref o_counts, .ref o_parents, .ref o_alone, .ref o_row, .int o_told, .ref o_toldSymbols, .ref o_toldNumbers, .int o_place, .int o_fail, .int o_found, .int o_symbolCount, .int o_distanceCount, .int o_lengthCount])), (o_text, .inl (o_text_c, o_text_n, .inl o_text_v)), (o_heads, .inl (o_heads_c, o_heads_n, .inl u.1)), (o_earlier, .inl (o_earlier_c, o_earlier_n, .inl u.2))] (va_A [(o, .inr (11, [.int o_textRoom, .int o_byteRoom, .int o_chain, .ref o_text, .int o_textSize, .ref o_packed, .int o_packedSize, .int o_matches, .ref o_loaded, .int o_loadedSize, .ref o_out, .int o_outSize, .int o_bits, .int o_tokens, .ref o_lengths, .ref o_distances, .ref o_heads, .ref o_earlier, .ref o_often, .ref o_symbolLengths, .ref o_distanceLengths, .ref o_lengthLengths, .ref o_symbolCodes, .ref o_distanceCodes, .ref o_lengthCodes, .ref o_counts, .ref o_parents, .ref o_alone, .ref o_row, .int o_told, .ref o_toldSymbols, .ref o_toldNumbers, .int o_place, .int o_fail, .int o_found, .int o_symbolCount, .int o_distanceCount, .int o_lengthCount])), (o_text, .inl (o_text_c, o_text_n, .inl o_text_v)), (o_heads, .inl (o_heads_c, o_heads_n, .inl o_heads_v)), (o_earlier, .inl (o_earlier_c, o_earlier_n, .inl o_earlier_v))] sz)) 0 0 (va_A [(o, .inr (11, [.int o_textRoom, .int o_byteRoom, .int o_chain, .ref o_text, .int o_textSize, .ref o_packed, .int o_packedSize, .int o_matches, .ref o_loaded, .int o_loadedSize, .ref o_out, .int o_outSize, .int o_bits, .int o_tokens, .ref o_lengths, .ref o_distances, .ref o_heads, .ref o_earlier, .ref o_often, .ref o_symbolLengths, .ref o_distanceLengths, .ref o_lengthLengths, .ref o_symbolCodes, .ref o_distanceCodes, .ref o_lengthCodes, .ref o_counts, .ref o_parents, .ref o_alone, .ref o_row, .int o_told, .ref o_toldSymbols, .ref o_toldNumbers, .int o_place, .int o_fail, .int o_found, .int o_symbolCount, .int o_distanceCount, .int o_lengthCount])), (o_text, .inl (o_text_c, o_text_n, .inl o_text_v)), (o_heads, .inl (o_heads_c, o_heads_n, .inl o_heads_v)), (o_earlier, .inl (o_earlier_c, o_earlier_n, .inl o_earlier_v))] sz) := by
  refine fb_metv (by decide) (Nat.le_of_ble_eq_true rfl) (fun p e s m args below meth c A Q ls H hx hb hml hown hts hP hK hN hZ hD hA hS hret hl => ?_)
  replace hl : lv_has ls 3 [(0, .ref o), (1, .int x1)] := hl
  unfold pX11_note at h
  refine lv_iload_n hx hb dX11_note_0 rfl (lv_at hl 1 rfl) ?_
  refine lv_iconst (v := (2 : Int32)) hx hb dX11_note_1 (by decide) ?_
  refine lv_iadd hx hb dX11_note_2 ?_
  refine lv_aload_n hx hb dX11_note_3 rfl (lv_at hl 0 rfl) ?_
  refine va_get (D := (dC, dI)) (ci := 11) (v := .int o_textSize) (C := RX11) (T := TX11) (N := 38) hx hb hts i_X11 hown hK hP 0 rfl rfl 4 (by decide) (hts _ k_841) (fun _ h9 => h9) rfl dX11_note_4 ?_
  refine lv_icmp_ge (tgt := 35) hx hb dX11_note_7 (by decide) (fun c1 => ?_) (fun c1 => ?_)
  · replace h := fb_t c1 h
    have hu := Option.some.inj h
    exact hret _ _ _ _ dX11_note_35 (by rw [← hu]; exact hP) (by rw [← hu]; exact hD) hS
  · replace h := fb_f c1 h
    refine lv_aload_n hx hb dX11_note_10 rfl (lv_at hl 0 rfl) ?_
    refine lv_iload_n hx hb dX11_note_11 rfl (lv_at hl 1 rfl) ?_
    obtain ⟨u2, e2, h⟩ := fb_b h
    refine fb_ci (wc := [(o, .inr (11, [.int o_textRoom, .int o_byteRoom, .int o_chain, .ref o_text, .int o_textSize, .ref o_packed, .int o_packedSize, .int o_matches, .ref o_loaded, .int o_loadedSize, .ref o_out, .int o_outSize, .int o_bits, .int o_tokens, .ref o_lengths, .ref o_distances, .ref o_heads, .ref o_earlier, .ref o_often, .ref o_symbolLengths, .ref o_distanceLengths, .ref o_lengthLengths, .ref o_symbolCodes, .ref o_distanceCodes, .ref o_lengthCodes, .ref o_counts, .ref o_parents, .ref o_alone, .ref o_row, .int o_told, .ref o_toldSymbols, .ref o_toldNumbers, .int o_place, .int o_fail, .int o_found, .int o_symbolCount, .int o_distanceCount, .int o_lengthCount])), (o_text, .inl (o_text_c, o_text_n, .inl o_text_v))]) (wr := [(o_heads, .inl (o_heads_c, o_heads_n, .inl o_heads_v)), (o_earlier, .inl (o_earlier_c, o_earlier_n, .inl o_earlier_v))]) (w1 := [(o, .inr (11, [.int o_textRoom, .int o_byteRoom, .int o_chain, .ref o_text, .int o_textSize, .ref o_packed, .int o_packedSize, .int o_matches, .ref o_loaded, .int o_loadedSize, .ref o_out, .int o_outSize, .int o_bits, .int o_tokens, .ref o_lengths, .ref o_distances, .ref o_heads, .ref o_earlier, .ref o_often, .ref o_symbolLengths, .ref o_distanceLengths, .ref o_lengthLengths, .ref o_symbolCodes, .ref o_distanceCodes, .ref o_lengthCodes, .ref o_counts, .ref o_parents, .ref o_alone, .ref o_row, .int o_told, .ref o_toldSymbols, .ref o_toldNumbers, .int o_place, .int o_fail, .int o_found, .int o_symbolCount, .int o_distanceCount, .int o_lengthCount])), (o_text, .inl (o_text_c, o_text_n, .inl o_text_v))]) (ws' := [(o, .inr (11, [.int o_textRoom, .int o_byteRoom, .int o_chain, .ref o_text, .int o_textSize, .ref o_packed, .int o_packedSize, .int o_matches, .ref o_loaded, .int o_loadedSize, .ref o_out, .int o_outSize, .int o_bits, .int o_tokens, .ref o_lengths, .ref o_distances, .ref o_heads, .ref o_earlier, .ref o_often, .ref o_symbolLengths, .ref o_distanceLengths, .ref o_lengthLengths, .ref o_symbolCodes, .ref o_distanceCodes, .ref o_lengthCodes, .ref o_counts, .ref o_parents, .ref o_alone, .ref o_row, .int o_told, .ref o_toldSymbols, .ref o_toldNumbers, .int o_place, .int o_fail, .int o_found, .int o_symbolCount, .int o_distanceCount, .int o_lengthCount])), (o_text, .inl (o_text_c, o_text_n, .inl o_text_v)), (o_heads, .inl (o_heads_c, o_heads_n, .inl o_heads_v)), (o_earlier, .inl (o_earlier_c, o_earlier_n, .inl o_earlier_v))]) (va_runV (As := [.int x1]) (rest := []) ⟨hx, hb, hml, hown, hts⟩ (mX11_mixed l dC dI o o_text o_packed o_loaded o_out o_lengths o_distances o_heads o_earlier o_often o_symbolLengths o_distanceLengths o_lengthLengths o_symbolCodes o_distanceCodes o_lengthCodes o_counts o_parents o_alone o_row o_toldSymbols o_toldNumbers o_text_c o_text_n o_textRoom o_byteRoom o_chain o_textSize o_packedSize o_matches o_loadedSize o_outSize o_bits o_tokens o_told o_place o_fail o_found o_symbolCount o_distanceCount o_lengthCount o_text_v x1 H.size u2 e2) (cwV 1 hts (fb_GV k_1009 k_1011 k_35 k_74 k_1012) rfl rfl rfl hdX11_mixed ⟨Nat.le_of_ble_eq_true rfl, Nat.le_of_ble_eq_true rfl⟩) (fb_pV hP hD hS hA hK hN hZ [0, 1] rfl rfl [0] rfl (q0 := 0) (ci := 11) rfl rfl) rfl rfl hl.1 rfl (lv_room (Nat.le_of_ble_eq_true rfl)) dX11_note_12 ⟨Nat.le_of_ble_eq_true rfl, Nat.le_of_ble_eq_true rfl⟩) hP hD hS hA [0, 1] [2, 3] rfl rfl rfl (by decide) [2, 3, 0, 1] rfl rfl (fun H locs hP hD hS => ?_)
    refine lv_istore_n (lv' := [(2, .int u2), (0, .ref o), (1, .int x1)]) hx hb dX11_note_15 rfl hl (by decide) rfl (fun ls hl => ?_)
    refine lv_aload_n hx hb dX11_note_16 rfl (lv_at hl 1 rfl) ?_
    refine va_get (D := (dC, dI)) (ci := 11) (v := .ref o_earlier) (C := RX11) (T := TX11) (N := 38) hx hb hts i_X11 hown hK hP 0 rfl rfl 17 (by decide) (hts _ k_854) (fun _ h9 => h9) rfl dX11_note_17 ?_
    refine lv_iload_n hx hb dX11_note_20 rfl (lv_at hl 2 rfl) ?_
    refine lv_aload_n hx hb dX11_note_21 rfl (lv_at hl 1 rfl) ?_
    refine va_get (D := (dC, dI)) (ci := 11) (v := .ref o_heads) (C := RX11) (T := TX11) (N := 38) hx hb hts i_X11 hown hK hP 0 rfl rfl 16 (by decide) (hts _ k_853) (fun _ h9 => h9) rfl dX11_note_22 ?_
    refine lv_iload_n hx hb dX11_note_25 rfl (lv_at hl 0 rfl) ?_
    obtain ⟨g3, h⟩ := fb_g h
    refine va_iald hx hb hK hP 2 1 rfl rfl g3 dX11_note_26 ?_
    obtain ⟨g4, h⟩ := fb_g h
    refine va_iast hx hb hK hP hD hS 3 2 rfl rfl g4 dX11_note_27 (fun H locs hP hD hS => ?_)
    replace hP : va_P (dC, dI) fb_cl [(o, .inr (11, [.int o_textRoom, .int o_byteRoom, .int o_chain, .ref o_text, .int o_textSize, .ref o_packed, .int o_packedSize, .int o_matches, .ref o_loaded, .int o_loadedSize, .ref o_out, .int o_outSize, .int o_bits, .int o_tokens, .ref o_lengths, .ref o_distances, .ref o_heads, .ref o_earlier, .ref o_often, .ref o_symbolLengths, .ref o_distanceLengths, .ref o_lengthLengths, .ref o_symbolCodes, .ref o_distanceCodes, .ref o_lengthCodes, .ref o_counts, .ref o_parents, .ref o_alone, .ref o_row, .int o_told, .ref o_toldSymbols, .ref o_toldNumbers, .int o_place, .int o_fail, .int o_found, .int o_symbolCount, .int o_distanceCount, .int o_lengthCount])), (o_text, .inl (o_text_c, o_text_n, .inl o_text_v)), (o_heads, .inl (o_heads_c, o_heads_n, .inl o_heads_v)), (o_earlier, .inl (o_earlier_c, o_earlier_n, .inl (upd o_earlier_v (x1).toNatClampNeg (o_heads_v (u2).toNatClampNeg))))] H := hP
    replace hD : va_D A [(o, .inr (11, [.int o_textRoom, .int o_byteRoom, .int o_chain, .ref o_text, .int o_textSize, .ref o_packed, .int o_packedSize, .int o_matches, .ref o_loaded, .int o_loadedSize, .ref o_out, .int o_outSize, .int o_bits, .int o_tokens, .ref o_lengths, .ref o_distances, .ref o_heads, .ref o_earlier, .ref o_often, .ref o_symbolLengths, .ref o_distanceLengths, .ref o_lengthLengths, .ref o_symbolCodes, .ref o_distanceCodes, .ref o_lengthCodes, .ref o_counts, .ref o_parents, .ref o_alone, .ref o_row, .int o_told, .ref o_toldSymbols, .ref o_toldNumbers, .int o_place, .int o_fail, .int o_found, .int o_symbolCount, .int o_distanceCount, .int o_lengthCount])), (o_text, .inl (o_text_c, o_text_n, .inl o_text_v)), (o_heads, .inl (o_heads_c, o_heads_n, .inl o_heads_v)), (o_earlier, .inl (o_earlier_c, o_earlier_n, .inl (upd o_earlier_v (x1).toNatClampNeg (o_heads_v (u2).toNatClampNeg))))] := hD
    refine lv_aload_n hx hb dX11_note_28 rfl (lv_at hl 1 rfl) ?_
    refine va_get (D := (dC, dI)) (ci := 11) (v := .ref o_heads) (C := RX11) (T := TX11) (N := 38) hx hb hts i_X11 hown hK hP 0 rfl rfl 16 (by decide) (hts _ k_853) (fun _ h9 => h9) rfl dX11_note_29 ?_
    refine lv_iload_n hx hb dX11_note_32 rfl (lv_at hl 0 rfl) ?_
    refine lv_iload_n hx hb dX11_note_33 rfl (lv_at hl 2 rfl) ?_
    obtain ⟨g5, h⟩ := fb_g h
    refine va_iast hx hb hK hP hD hS 2 1 rfl rfl g5 dX11_note_34 (fun H locs hP hD hS => ?_)
    replace hP : va_P (dC, dI) fb_cl [(o, .inr (11, [.int o_textRoom, .int o_byteRoom, .int o_chain, .ref o_text, .int o_textSize, .ref o_packed, .int o_packedSize, .int o_matches, .ref o_loaded, .int o_loadedSize, .ref o_out, .int o_outSize, .int o_bits, .int o_tokens, .ref o_lengths, .ref o_distances, .ref o_heads, .ref o_earlier, .ref o_often, .ref o_symbolLengths, .ref o_distanceLengths, .ref o_lengthLengths, .ref o_symbolCodes, .ref o_distanceCodes, .ref o_lengthCodes, .ref o_counts, .ref o_parents, .ref o_alone, .ref o_row, .int o_told, .ref o_toldSymbols, .ref o_toldNumbers, .int o_place, .int o_fail, .int o_found, .int o_symbolCount, .int o_distanceCount, .int o_lengthCount])), (o_text, .inl (o_text_c, o_text_n, .inl o_text_v)), (o_heads, .inl (o_heads_c, o_heads_n, .inl (upd o_heads_v (u2).toNatClampNeg x1))), (o_earlier, .inl (o_earlier_c, o_earlier_n, .inl (upd o_earlier_v (x1).toNatClampNeg (o_heads_v (u2).toNatClampNeg))))] H := hP
    replace hD : va_D A [(o, .inr (11, [.int o_textRoom, .int o_byteRoom, .int o_chain, .ref o_text, .int o_textSize, .ref o_packed, .int o_packedSize, .int o_matches, .ref o_loaded, .int o_loadedSize, .ref o_out, .int o_outSize, .int o_bits, .int o_tokens, .ref o_lengths, .ref o_distances, .ref o_heads, .ref o_earlier, .ref o_often, .ref o_symbolLengths, .ref o_distanceLengths, .ref o_lengthLengths, .ref o_symbolCodes, .ref o_distanceCodes, .ref o_lengthCodes, .ref o_counts, .ref o_parents, .ref o_alone, .ref o_row, .int o_told, .ref o_toldSymbols, .ref o_toldNumbers, .int o_place, .int o_fail, .int o_found, .int o_symbolCount, .int o_distanceCount, .int o_lengthCount])), (o_text, .inl (o_text_c, o_text_n, .inl o_text_v)), (o_heads, .inl (o_heads_c, o_heads_n, .inl (upd o_heads_v (u2).toNatClampNeg x1))), (o_earlier, .inl (o_earlier_c, o_earlier_n, .inl (upd o_earlier_v (x1).toNatClampNeg (o_heads_v (u2).toNatClampNeg))))] := hD
    have hu := Option.some.inj h
    exact hret _ _ _ _ dX11_note_35 (by rw [← hu]; exact hP) (by rw [← hu]; exact hD) hS
theorem dX11_longest_0 : decode cX11_longest 0 = .ok (.iconst (-1), 1) := by decide +kernel
theorem dX11_longest_1 : decode cX11_longest 1 = .ok (.istore_n 2, 1) := by decide +kernel
theorem dX11_longest_2 : decode cX11_longest 2 = .ok (.iconst 0, 1) := by decide +kernel
theorem dX11_longest_3 : decode cX11_longest 3 = .ok (.istore_n 3, 1) := by decide +kernel
theorem dX11_longest_4 : decode cX11_longest 4 = .ok (.aload_n 0, 1) := by decide +kernel
theorem dX11_longest_5 : decode cX11_longest 5 = .ok (.iconst 0, 1) := by decide +kernel
theorem dX11_longest_6 : decode cX11_longest 6 = .ok (.putfield 116, 3) := by decide +kernel
theorem dX11_longest_9 : decode cX11_longest 9 = .ok (.iload_n 1, 1) := by decide +kernel
theorem dX11_longest_10 : decode cX11_longest 10 = .ok (.iconst 2, 1) := by decide +kernel
theorem dX11_longest_11 : decode cX11_longest 11 = .ok (.iadd, 1) := by decide +kernel
theorem dX11_longest_12 : decode cX11_longest 12 = .ok (.aload_n 0, 1) := by decide +kernel
theorem dX11_longest_13 : decode cX11_longest 13 = .ok (.getfield 90, 3) := by decide +kernel
theorem dX11_longest_16 : decode cX11_longest 16 = .ok (.if_icmp .ge 16, 3) := by decide +kernel
theorem dX11_longest_19 : decode cX11_longest 19 = .ok (.aload_n 0, 1) := by decide +kernel
theorem dX11_longest_20 : decode cX11_longest 20 = .ok (.getfield 30, 3) := by decide +kernel
theorem dX11_longest_23 : decode cX11_longest 23 = .ok (.aload_n 0, 1) := by decide +kernel
theorem dX11_longest_24 : decode cX11_longest 24 = .ok (.iload_n 1, 1) := by decide +kernel
theorem dX11_longest_25 : decode cX11_longest 25 = .ok (.invokevirtual 112, 3) := by decide +kernel
theorem dX11_longest_28 : decode cX11_longest 28 = .ok (.iaload, 1) := by decide +kernel
theorem dX11_longest_29 : decode cX11_longest 29 = .ok (.goto 4, 3) := by decide +kernel
theorem dX11_longest_32 : decode cX11_longest 32 = .ok (.iconst (-1), 1) := by decide +kernel
theorem dX11_longest_33 : decode cX11_longest 33 = .ok (.istore 4, 2) := by decide +kernel
theorem dX11_longest_35 : decode cX11_longest 35 = .ok (.iload 4, 2) := by decide +kernel
theorem dX11_longest_37 : decode cX11_longest 37 = .ok (.ifCond .lt 72, 3) := by decide +kernel
theorem dX11_longest_40 : decode cX11_longest 40 = .ok (.iload_n 1, 1) := by decide +kernel
theorem dX11_longest_41 : decode cX11_longest 41 = .ok (.iload 4, 2) := by decide +kernel
theorem dX11_longest_43 : decode cX11_longest 43 = .ok (.isub, 1) := by decide +kernel
theorem dX11_longest_44 : decode cX11_longest 44 = .ok (.ldc 119, 2) := by decide +kernel
theorem dX11_longest_46 : decode cX11_longest 46 = .ok (.if_icmp .gt 63, 3) := by decide +kernel
theorem dX11_longest_49 : decode cX11_longest 49 = .ok (.iload_n 3, 1) := by decide +kernel
theorem dX11_longest_50 : decode cX11_longest 50 = .ok (.aload_n 0, 1) := by decide +kernel
theorem dX11_longest_51 : decode cX11_longest 51 = .ok (.getfield 87, 3) := by decide +kernel
theorem dX11_longest_54 : decode cX11_longest 54 = .ok (.if_icmp .ge 55, 3) := by decide +kernel
theorem dX11_longest_57 : decode cX11_longest 57 = .ok (.aload_n 0, 1) := by decide +kernel
theorem dX11_longest_58 : decode cX11_longest 58 = .ok (.iload 4, 2) := by decide +kernel
theorem dX11_longest_60 : decode cX11_longest 60 = .ok (.iload_n 1, 1) := by decide +kernel
theorem dX11_longest_61 : decode cX11_longest 61 = .ok (.invokevirtual 120, 3) := by decide +kernel
theorem dX11_longest_64 : decode cX11_longest 64 = .ok (.ifCond .eq 33, 3) := by decide +kernel
theorem dX11_longest_67 : decode cX11_longest 67 = .ok (.iinc 3 1, 3) := by decide +kernel
theorem dX11_longest_70 : decode cX11_longest 70 = .ok (.aload_n 0, 1) := by decide +kernel
theorem dX11_longest_71 : decode cX11_longest 71 = .ok (.iload 4, 2) := by decide +kernel
theorem dX11_longest_73 : decode cX11_longest 73 = .ok (.iload_n 1, 1) := by decide +kernel
theorem dX11_longest_74 : decode cX11_longest 74 = .ok (.invokevirtual 124, 3) := by decide +kernel
theorem dX11_longest_77 : decode cX11_longest 77 = .ok (.istore 5, 2) := by decide +kernel
theorem dX11_longest_79 : decode cX11_longest 79 = .ok (.iload 5, 2) := by decide +kernel
theorem dX11_longest_81 : decode cX11_longest 81 = .ok (.aload_n 0, 1) := by decide +kernel
theorem dX11_longest_82 : decode cX11_longest 82 = .ok (.getfield 116, 3) := by decide +kernel
theorem dX11_longest_85 : decode cX11_longest 85 = .ok (.if_icmp .le 12, 3) := by decide +kernel
theorem dX11_longest_88 : decode cX11_longest 88 = .ok (.iload 4, 2) := by decide +kernel
theorem dX11_longest_90 : decode cX11_longest 90 = .ok (.istore_n 2, 1) := by decide +kernel
theorem dX11_longest_91 : decode cX11_longest 91 = .ok (.aload_n 0, 1) := by decide +kernel
theorem dX11_longest_92 : decode cX11_longest 92 = .ok (.iload 5, 2) := by decide +kernel
theorem dX11_longest_94 : decode cX11_longest 94 = .ok (.putfield 116, 3) := by decide +kernel
theorem dX11_longest_97 : decode cX11_longest 97 = .ok (.aload_n 0, 1) := by decide +kernel
theorem dX11_longest_98 : decode cX11_longest 98 = .ok (.getfield 33, 3) := by decide +kernel
theorem dX11_longest_101 : decode cX11_longest 101 = .ok (.iload 4, 2) := by decide +kernel
theorem dX11_longest_103 : decode cX11_longest 103 = .ok (.iaload, 1) := by decide +kernel
theorem dX11_longest_104 : decode cX11_longest 104 = .ok (.istore 4, 2) := by decide +kernel
theorem dX11_longest_106 : decode cX11_longest 106 = .ok (.goto (-71), 3) := by decide +kernel
theorem dX11_longest_109 : decode cX11_longest 109 = .ok (.iload_n 2, 1) := by decide +kernel
theorem dX11_longest_110 : decode cX11_longest 110 = .ok (.ireturn, 1) := by decide +kernel
def pX11_longest_b97 (o_earlier_n : Nat) (o_earlier_v : Nat → Int32) (K35 : Int32 → Int32 → Int32 → Int32 → Option (Int32 × Int32)) (o_found : Int32) (x2 : Int32) (x3 : Int32) (x4 : Int32) : Option (Int32 × Int32) :=
  if x4 < 0 ∨ o_earlier_n ≤ (x4).toNatClampNeg then none else
  K35 o_found x2 x3 (o_earlier_v (x4).toNatClampNeg)
def pX11_longest_b35 (o_text_n : Nat) (o_earlier_n : Nat) (o_chain : Int32) (o_textSize : Int32) (o_text_v : Nat → Int32) (o_earlier_v : Nat → Int32) (x1 : Int32)  : Nat → Int32 → Int32 → Int32 → Int32 → Option (Int32 × Int32)
  | 0 => fun _ _ _ _ => none
  | n + 1 => fun o_found x2 x3 x4 =>
  if x4 < 0 then
  (some (x2, o_found))
  else
  (if (32768 : Int32) < (x1 - x4) then
  (some (x2, o_found))
  else
  (if o_chain ≤ x3 then
  (some (x2, o_found))
  else
  ((pX11_isLike o_text_n o_text_v x4 x1).bind (fun u5 =>
  if u5 = 0 then
  (pX11_longest_b97 o_earlier_n o_earlier_v (pX11_longest_b35 o_text_n o_earlier_n o_chain o_textSize o_text_v o_earlier_v x1 n) o_found x2 x3 x4)
  else
  ((pX11_matchOf o_text_n o_textSize o_text_v x4 x1).bind (fun u7 =>
  if u7 ≤ o_found then
  (pX11_longest_b97 o_earlier_n o_earlier_v (pX11_longest_b35 o_text_n o_earlier_n o_chain o_textSize o_text_v o_earlier_v x1 n) o_found x2 (x3 + (1 : Int32)) x4)
  else
  (pX11_longest_b97 o_earlier_n o_earlier_v (pX11_longest_b35 o_text_n o_earlier_n o_chain o_textSize o_text_v o_earlier_v x1 n) u7 x4 (x3 + (1 : Int32)) x4)))))))
def pX11_longest (o_text_n : Nat) (o_heads_n : Nat) (o_earlier_n : Nat) (o_chain : Int32) (o_textSize : Int32) (o_text_v : Nat → Int32) (o_heads_v : Nat → Int32) (o_earlier_v : Nat → Int32) (x1 : Int32)   : Option (Int32 × Int32) :=
  if o_textSize ≤ (x1 + (2 : Int32)) then
  (pX11_longest_b35 o_text_n o_earlier_n o_chain o_textSize o_text_v o_earlier_v x1 fb_F (0 : Int32) (-1 : Int32) (0 : Int32) (-1 : Int32))
  else
  ((pX11_mixed o_text_n o_text_v x1).bind (fun u10 =>
  if u10 < 0 ∨ o_heads_n ≤ (u10).toNatClampNeg then none else
  pX11_longest_b35 o_text_n o_earlier_n o_chain o_textSize o_text_v o_earlier_v x1 fb_F (0 : Int32) (-1 : Int32) (0 : Int32) (o_heads_v (u10).toNatClampNeg)))
theorem hdX11_longest : yX11_longest.cls = RX11 ∧ yX11_longest.cls ≠ "java/lang/invoke/MethodHandle" ∧ yX11_longest.cls ≠ "java/lang/invoke/VarHandle" ∧ (parseMethodDescriptor yX11_longest.desc).map (fun d => d.parameters.length) = some 1 := by decide +kernel
set_option maxHeartbeats 8000000 in
set_option maxRecDepth 100000 in
theorem mX11_longest (l : Launch) (dC : Nat → ClassId) (dI : Nat → Nat → Nat) (o : Nat) (o_text : Nat) (o_heads : Nat) (o_earlier : Nat) (o_packed : Nat) (o_loaded : Nat) (o_out : Nat) (o_lengths : Nat) (o_distances : Nat) (o_often : Nat) (o_symbolLengths : Nat) (o_distanceLengths : Nat) (o_lengthLengths : Nat) (o_symbolCodes : Nat) (o_distanceCodes : Nat) (o_lengthCodes : Nat) (o_counts : Nat) (o_parents : Nat) (o_alone : Nat) (o_row : Nat) (o_toldSymbols : Nat) (o_toldNumbers : Nat) (o_text_c : ClassId) (o_heads_c : ClassId) (o_earlier_c : ClassId) (o_text_n : Nat) (o_heads_n : Nat) (o_earlier_n : Nat) (o_textRoom : Int32) (o_byteRoom : Int32) (o_chain : Int32) (o_textSize : Int32) (o_packedSize : Int32) (o_matches : Int32) (o_loadedSize : Int32) (o_outSize : Int32) (o_bits : Int32) (o_tokens : Int32) (o_told : Int32) (o_place : Int32) (o_fail : Int32) (o_found : Int32) (o_symbolCount : Int32) (o_distanceCount : Int32) (o_lengthCount : Int32) (o_text_v : Nat → Int32) (o_heads_v : Nat → Int32) (o_earlier_v : Nat → Int32) (x1 : Int32) (sz : Nat) (u : Int32 × Int32) (h : pX11_longest o_text_n o_heads_n o_earlier_n o_chain o_textSize o_text_v o_heads_v o_earlier_v x1 = some u) : Met l yX11_longest (Cond.code yX11_longest cX11_longest 6 (some .int) :: fb_tb) ({ frames := 2, cells := 0, slots := 0, locals := 45 }) (fb_Pc (dC, dI) [.ref o, .int x1] sz [(o_text_c, .int), (o_heads_c, .int), (o_earlier_c, .int)] [(o, .inr (11, [.int o_textRoom, .int o_byteRoom, .int o_chain, .ref o_text, .int o_textSize, .ref o_packed, .int o_packedSize, .int o_matches, .ref o_loaded, .int o_loadedSize, .ref o_out, .int o_outSize, .int o_bits, .int o_tokens, .ref o_lengths, .ref o_distances, .ref o_heads, .ref o_earlier, .ref o_often, .ref o_symbolLengths, .ref o_distanceLengths, .ref o_lengthLengths, .ref o_symbolCodes, .ref o_distanceCodes, .ref o_lengthCodes, .ref o_counts, .ref o_parents, .ref o_alone, .ref o_row, .int o_told, .ref o_toldSymbols, .ref o_toldNumbers, .int o_place, .int o_fail, .int o_found, .int o_symbolCount, .int o_distanceCount, .int o_lengthCount])), (o_text, .inl (o_text_c, o_text_n, .inl o_text_v)), (o_heads, .inl (o_heads_c, o_heads_n, .inl o_heads_v)), (o_earlier, .inl (o_earlier_c, o_earlier_n, .inl o_earlier_v))]) (fb_Qi (dC, dI) u.1 [(o, .inr (11, [.int o_textRoom, .int o_byteRoom, .int o_chain, .ref o_text, .int o_textSize, .ref o_packed, .int o_packedSize, .int o_matches, .ref o_loaded, .int o_loadedSize, .ref o_out, .int o_outSize, .int o_bits, .int o_tokens, .ref o_lengths, .ref o_distances, .ref o_heads, .ref o_earlier, .ref o_often, .ref o_symbolLengths, .ref o_distanceLengths, .ref o_lengthLengths, .ref o_symbolCodes, .ref o_distanceCodes, .ref o_lengthCodes, .ref o_counts, .ref o_parents, .ref o_alone, .ref o_row, .int o_told, .ref o_toldSymbols, .ref o_toldNumbers, .int o_place, .int o_fail, .int u.2, .int o_symbolCount, .int o_distanceCount, .int o_lengthCount])), (o_text, .inl (o_text_c, o_text_n, .inl o_text_v)), (o_heads, .inl (o_heads_c, o_heads_n, .inl o_heads_v)), (o_earlier, .inl (o_earlier_c, o_earlier_n, .inl o_earlier_v))] (va_A [(o, .inr (11, [.int o_textRoom, .int o_byteRoom, .int o_chain, .ref o_text, .int o_textSize, .ref o_packed, .int o_packedSize, .int o_matches, .ref o_loaded, .int o_loadedSize, .ref o_out, .int o_outSize, .int o_bits, .int o_tokens, .ref o_lengths, .ref o_distances, .ref o_heads, .ref o_earlier, .ref o_often, .ref o_symbolLengths, .ref o_distanceLengths, .ref o_lengthLengths, .ref o_symbolCodes, .ref o_distanceCodes, .ref o_lengthCodes, .ref o_counts, .ref o_parents, .ref o_alone, .ref o_row, .int o_told, .ref o_toldSymbols, .ref o_toldNumbers, .int o_place, .int o_fail, .int o_found, .int o_symbolCount, .int o_distanceCount, .int o_lengthCount])), (o_text, .inl (o_text_c, o_text_n, .inl o_text_v)), (o_heads, .inl (o_heads_c, o_heads_n, .inl o_heads_v)), (o_earlier, .inl (o_earlier_c, o_earlier_n, .inl o_earlier_v))] sz)) 0 0 (va_A [(o, .inr (11, [.int o_textRoom, .int o_byteRoom, .int o_chain, .ref o_text, .int o_textSize, .ref o_packed, .int o_packedSize, .int o_matches, .ref o_loaded, .int o_loadedSize, .ref o_out, .int o_outSize, .int o_bits, .int o_tokens, .ref o_lengths, .ref o_distances, .ref o_heads, .ref o_earlier, .ref o_often, .ref o_symbolLengths, .ref o_distanceLengths, .ref o_lengthLengths, .ref o_symbolCodes, .ref o_distanceCodes, .ref o_lengthCodes, .ref o_counts, .ref o_parents, .ref o_alone, .ref o_row, .int o_told, .ref o_toldSymbols, .ref o_toldNumbers, .int o_place, .int o_fail, .int o_found, .int o_symbolCount, .int o_distanceCount, .int o_lengthCount])), (o_text, .inl (o_text_c, o_text_n, .inl o_text_v)), (o_heads, .inl (o_heads_c, o_heads_n, .inl o_heads_v)), (o_earlier, .inl (o_earlier_c, o_earlier_n, .inl o_earlier_v))] sz) := by
  refine fb_meti (ty := .int) (by decide) (Nat.le_of_ble_eq_true rfl) (fun p e s m args below meth c A Q ls H hx hb hml hown hts hP hK hN hZ hD hA hS hret hl => ?_)
  replace hl : lv_has ls 6 [(0, .ref o), (1, .int x1)] := hl
  have wB97 : ∀ (K35 : Int32 → Int32 → Int32 → Int32 → Option (Int32 × Int32)), (∀ (o_found : Int32) (x2 : Int32) (x3 : Int32) (x4 : Int32) (H : Heap) (locs : List Loc) (ls : Array Slot), va_P (dC, dI) fb_cl [(o, .inr (11, [.int o_textRoom, .int o_byteRoom, .int o_chain, .ref o_text, .int o_textSize, .ref o_packed, .int o_packedSize, .int o_matches, .ref o_loaded, .int o_loadedSize, .ref o_out, .int o_outSize, .int o_bits, .int o_tokens, .ref o_lengths, .ref o_distances, .ref o_heads, .ref o_earlier, .ref o_often, .ref o_symbolLengths, .ref o_distanceLengths, .ref o_lengthLengths, .ref o_symbolCodes, .ref o_distanceCodes, .ref o_lengthCodes, .ref o_counts, .ref o_parents, .ref o_alone, .ref o_row, .int o_told, .ref o_toldSymbols, .ref o_toldNumbers, .int o_place, .int o_fail, .int o_found, .int o_symbolCount, .int o_distanceCount, .int o_lengthCount])), (o_text, .inl (o_text_c, o_text_n, .inl o_text_v)), (o_heads, .inl (o_heads_c, o_heads_n, .inl o_heads_v)), (o_earlier, .inl (o_earlier_c, o_earlier_n, .inl o_earlier_v))] H → va_D A [(o, .inr (11, [.int o_textRoom, .int o_byteRoom, .int o_chain, .ref o_text, .int o_textSize, .ref o_packed, .int o_packedSize, .int o_matches, .ref o_loaded, .int o_loadedSize, .ref o_out, .int o_outSize, .int o_bits, .int o_tokens, .ref o_lengths, .ref o_distances, .ref o_heads, .ref o_earlier, .ref o_often, .ref o_symbolLengths, .ref o_distanceLengths, .ref o_lengthLengths, .ref o_symbolCodes, .ref o_distanceCodes, .ref o_lengthCodes, .ref o_counts, .ref o_parents, .ref o_alone, .ref o_row, .int o_told, .ref o_toldSymbols, .ref o_toldNumbers, .int o_place, .int o_fail, .int o_found, .int o_symbolCount, .int o_distanceCount, .int o_lengthCount])), (o_text, .inl (o_text_c, o_text_n, .inl o_text_v)), (o_heads, .inl (o_heads_c, o_heads_n, .inl o_heads_v)), (o_earlier, .inl (o_earlier_c, o_earlier_n, .inl o_earlier_v))] → va_S A s.heap H locs → lv_has ls 6 [(0, .ref o), (1, .int x1), (2, .int x2), (3, .int x3), (4, .int x4)] → K35 o_found x2 x3 x4 = some u → W p l e ({ frames := 2, cells := 0, slots := 0, locals := 45 }) s m args below meth c H locs 0 0 Q (F0 m 35 ls [])) → ∀ (o_found : Int32) (x2 : Int32) (x3 : Int32) (x4 : Int32) (H : Heap) (locs : List Loc) (ls : Array Slot), va_P (dC, dI) fb_cl [(o, .inr (11, [.int o_textRoom, .int o_byteRoom, .int o_chain, .ref o_text, .int o_textSize, .ref o_packed, .int o_packedSize, .int o_matches, .ref o_loaded, .int o_loadedSize, .ref o_out, .int o_outSize, .int o_bits, .int o_tokens, .ref o_lengths, .ref o_distances, .ref o_heads, .ref o_earlier, .ref o_often, .ref o_symbolLengths, .ref o_distanceLengths, .ref o_lengthLengths, .ref o_symbolCodes, .ref o_distanceCodes, .ref o_lengthCodes, .ref o_counts, .ref o_parents, .ref o_alone, .ref o_row, .int o_told, .ref o_toldSymbols, .ref o_toldNumbers, .int o_place, .int o_fail, .int o_found, .int o_symbolCount, .int o_distanceCount, .int o_lengthCount])), (o_text, .inl (o_text_c, o_text_n, .inl o_text_v)), (o_heads, .inl (o_heads_c, o_heads_n, .inl o_heads_v)), (o_earlier, .inl (o_earlier_c, o_earlier_n, .inl o_earlier_v))] H → va_D A [(o, .inr (11, [.int o_textRoom, .int o_byteRoom, .int o_chain, .ref o_text, .int o_textSize, .ref o_packed, .int o_packedSize, .int o_matches, .ref o_loaded, .int o_loadedSize, .ref o_out, .int o_outSize, .int o_bits, .int o_tokens, .ref o_lengths, .ref o_distances, .ref o_heads, .ref o_earlier, .ref o_often, .ref o_symbolLengths, .ref o_distanceLengths, .ref o_lengthLengths, .ref o_symbolCodes, .ref o_distanceCodes, .ref o_lengthCodes, .ref o_counts, .ref o_parents, .ref o_alone, .ref o_row, .int o_told, .ref o_toldSymbols, .ref o_toldNumbers, .int o_place, .int o_fail, .int o_found, .int o_symbolCount, .int o_distanceCount, .int o_lengthCount])), (o_text, .inl (o_text_c, o_text_n, .inl o_text_v)), (o_heads, .inl (o_heads_c, o_heads_n, .inl o_heads_v)), (o_earlier, .inl (o_earlier_c, o_earlier_n, .inl o_earlier_v))] → va_S A s.heap H locs → lv_has ls 6 [(0, .ref o), (1, .int x1), (2, .int x2), (3, .int x3), (4, .int x4)] → pX11_longest_b97 o_earlier_n o_earlier_v K35 o_found x2 x3 x4 = some u → W p l e ({ frames := 2, cells := 0, slots := 0, locals := 45 }) s m args below meth c H locs 0 0 Q (F0 m 97 ls []) := by
    intro K35 hK35 o_found x2 x3 x4 H locs ls hP hD hS hl h
    unfold pX11_longest_b97 at h
    refine lv_aload_n hx hb dX11_longest_97 rfl (lv_at hl 0 rfl) ?_
    refine va_get (D := (dC, dI)) (ci := 11) (v := .ref o_earlier) (C := RX11) (T := TX11) (N := 38) hx hb hts i_X11 hown hK hP 0 rfl rfl 17 (by decide) (hts _ k_854) (fun _ h9 => h9) rfl dX11_longest_98 ?_
    refine lv_iload hx hb dX11_longest_101 (lv_at hl 4 rfl) ?_
    obtain ⟨g1, h⟩ := fb_g h
    refine va_iald hx hb hK hP 3 2 rfl rfl g1 dX11_longest_103 ?_
    refine lv_istore (lv' := [(4, .int (o_earlier_v (x4).toNatClampNeg)), (0, .ref o), (1, .int x1), (2, .int x2), (3, .int x3)]) hx hb dX11_longest_104 hl (by decide) rfl (fun ls hl => ?_)
    refine lv_goto (tgt := 35) hx hb dX11_longest_106 (by decide) ?_
    exact hK35 o_found x2 x3 (o_earlier_v (x4).toNatClampNeg) _ _ _ hP hD hS (lv_sub hl [1, 2, 3, 4, 0] rfl) h
  have wB35 : ∀ n : Nat, ∀ (o_found : Int32) (x2 : Int32) (x3 : Int32) (x4 : Int32) (H : Heap) (locs : List Loc) (ls : Array Slot), va_P (dC, dI) fb_cl [(o, .inr (11, [.int o_textRoom, .int o_byteRoom, .int o_chain, .ref o_text, .int o_textSize, .ref o_packed, .int o_packedSize, .int o_matches, .ref o_loaded, .int o_loadedSize, .ref o_out, .int o_outSize, .int o_bits, .int o_tokens, .ref o_lengths, .ref o_distances, .ref o_heads, .ref o_earlier, .ref o_often, .ref o_symbolLengths, .ref o_distanceLengths, .ref o_lengthLengths, .ref o_symbolCodes, .ref o_distanceCodes, .ref o_lengthCodes, .ref o_counts, .ref o_parents, .ref o_alone, .ref o_row, .int o_told, .ref o_toldSymbols, .ref o_toldNumbers, .int o_place, .int o_fail, .int o_found, .int o_symbolCount, .int o_distanceCount, .int o_lengthCount])), (o_text, .inl (o_text_c, o_text_n, .inl o_text_v)), (o_heads, .inl (o_heads_c, o_heads_n, .inl o_heads_v)), (o_earlier, .inl (o_earlier_c, o_earlier_n, .inl o_earlier_v))] H → va_D A [(o, .inr (11, [.int o_textRoom, .int o_byteRoom, .int o_chain, .ref o_text, .int o_textSize, .ref o_packed, .int o_packedSize, .int o_matches, .ref o_loaded, .int o_loadedSize, .ref o_out, .int o_outSize, .int o_bits, .int o_tokens, .ref o_lengths, .ref o_distances, .ref o_heads, .ref o_earlier, .ref o_often, .ref o_symbolLengths, .ref o_distanceLengths, .ref o_lengthLengths, .ref o_symbolCodes, .ref o_distanceCodes, .ref o_lengthCodes, .ref o_counts, .ref o_parents, .ref o_alone, .ref o_row, .int o_told, .ref o_toldSymbols, .ref o_toldNumbers, .int o_place, .int o_fail, .int o_found, .int o_symbolCount, .int o_distanceCount, .int o_lengthCount])), (o_text, .inl (o_text_c, o_text_n, .inl o_text_v)), (o_heads, .inl (o_heads_c, o_heads_n, .inl o_heads_v)), (o_earlier, .inl (o_earlier_c, o_earlier_n, .inl o_earlier_v))] → va_S A s.heap H locs → lv_has ls 6 [(0, .ref o), (1, .int x1), (2, .int x2), (3, .int x3), (4, .int x4)] → pX11_longest_b35 o_text_n o_earlier_n o_chain o_textSize o_text_v o_earlier_v x1 n o_found x2 x3 x4 = some u → W p l e ({ frames := 2, cells := 0, slots := 0, locals := 45 }) s m args below meth c H locs 0 0 Q (F0 m 35 ls []) := by
    intro n
    induction n with
    | zero => intro o_found x2 x3 x4 H locs ls hP hD hS hl h; cases h
    | succ n ih =>
      intro o_found x2 x3 x4 H locs ls hP hD hS hl h
      rw [pX11_longest_b35] at h
      refine lv_iload hx hb dX11_longest_35 (lv_at hl 4 rfl) ?_
      refine lv_if_lt (tgt := 109) hx hb dX11_longest_37 (by decide) (fun c2 => ?_) (fun c2 => ?_)
      · replace h := fb_t c2 h
        refine lv_iload_n hx hb dX11_longest_109 rfl (lv_at hl 2 rfl) ?_
        have hu := Option.some.inj h
        exact hret _ _ _ _ _ dX11_longest_110 rfl (by rw [← hu]) (by rw [← hu]; exact hP) (by rw [← hu]; exact hD) hS
      · replace h := fb_f c2 h
        refine lv_iload_n hx hb dX11_longest_40 rfl (lv_at hl 1 rfl) ?_
        refine lv_iload hx hb dX11_longest_41 (lv_at hl 4 rfl) ?_
        refine lv_isub hx hb dX11_longest_43 ?_
        refine lv_ldc (v := (32768 : Int32)) hx hb hown (hts _ k_1013) dX11_longest_44 ?_
        refine lv_icmp_gt (tgt := 109) hx hb dX11_longest_46 (by decide) (fun c3 => ?_) (fun c3 => ?_)
        · replace h := fb_t c3 h
          refine lv_iload_n hx hb dX11_longest_109 rfl (lv_at hl 2 rfl) ?_
          have hu := Option.some.inj h
          exact hret _ _ _ _ _ dX11_longest_110 rfl (by rw [← hu]) (by rw [← hu]; exact hP) (by rw [← hu]; exact hD) hS
        · replace h := fb_f c3 h
          refine lv_iload_n hx hb dX11_longest_49 rfl (lv_at hl 3 rfl) ?_
          refine lv_aload_n hx hb dX11_longest_50 rfl (lv_at hl 0 rfl) ?_
          refine va_get (D := (dC, dI)) (ci := 11) (v := .int o_chain) (C := RX11) (T := TX11) (N := 38) hx hb hts i_X11 hown hK hP 0 rfl rfl 2 (by decide) (hts _ k_839) (fun _ h9 => h9) rfl dX11_longest_51 ?_
          refine lv_icmp_ge (tgt := 109) hx hb dX11_longest_54 (by decide) (fun c4 => ?_) (fun c4 => ?_)
          · replace h := fb_t c4 h
            refine lv_iload_n hx hb dX11_longest_109 rfl (lv_at hl 2 rfl) ?_
            have hu := Option.some.inj h
            exact hret _ _ _ _ _ dX11_longest_110 rfl (by rw [← hu]) (by rw [← hu]; exact hP) (by rw [← hu]; exact hD) hS
          · replace h := fb_f c4 h
            refine lv_aload_n hx hb dX11_longest_57 rfl (lv_at hl 0 rfl) ?_
            refine lv_iload hx hb dX11_longest_58 (lv_at hl 4 rfl) ?_
            refine lv_iload_n hx hb dX11_longest_60 rfl (lv_at hl 1 rfl) ?_
            obtain ⟨u5, e5, h⟩ := fb_b h
            refine fb_ci (wc := [(o, .inr (11, [.int o_textRoom, .int o_byteRoom, .int o_chain, .ref o_text, .int o_textSize, .ref o_packed, .int o_packedSize, .int o_matches, .ref o_loaded, .int o_loadedSize, .ref o_out, .int o_outSize, .int o_bits, .int o_tokens, .ref o_lengths, .ref o_distances, .ref o_heads, .ref o_earlier, .ref o_often, .ref o_symbolLengths, .ref o_distanceLengths, .ref o_lengthLengths, .ref o_symbolCodes, .ref o_distanceCodes, .ref o_lengthCodes, .ref o_counts, .ref o_parents, .ref o_alone, .ref o_row, .int o_told, .ref o_toldSymbols, .ref o_toldNumbers, .int o_place, .int o_fail, .int o_found, .int o_symbolCount, .int o_distanceCount, .int o_lengthCount])), (o_text, .inl (o_text_c, o_text_n, .inl o_text_v))]) (wr := [(o_heads, .inl (o_heads_c, o_heads_n, .inl o_heads_v)), (o_earlier, .inl (o_earlier_c, o_earlier_n, .inl o_earlier_v))]) (w1 := [(o, .inr (11, [.int o_textRoom, .int o_byteRoom, .int o_chain, .ref o_text, .int o_textSize, .ref o_packed, .int o_packedSize, .int o_matches, .ref o_loaded, .int o_loadedSize, .ref o_out, .int o_outSize, .int o_bits, .int o_tokens, .ref o_lengths, .ref o_distances, .ref o_heads, .ref o_earlier, .ref o_often, .ref o_symbolLengths, .ref o_distanceLengths, .ref o_lengthLengths, .ref o_symbolCodes, .ref o_distanceCodes, .ref o_lengthCodes, .ref o_counts, .ref o_parents, .ref o_alone, .ref o_row, .int o_told, .ref o_toldSymbols, .ref o_toldNumbers, .int o_place, .int o_fail, .int o_found, .int o_symbolCount, .int o_distanceCount, .int o_lengthCount])), (o_text, .inl (o_text_c, o_text_n, .inl o_text_v))]) (ws' := [(o, .inr (11, [.int o_textRoom, .int o_byteRoom, .int o_chain, .ref o_text, .int o_textSize, .ref o_packed, .int o_packedSize, .int o_matches, .ref o_loaded, .int o_loadedSize, .ref o_out, .int o_outSize, .int o_bits, .int o_tokens, .ref o_lengths, .ref o_distances, .ref o_heads, .ref o_earlier, .ref o_often, .ref o_symbolLengths, .ref o_distanceLengths, .ref o_lengthLengths, .ref o_symbolCodes, .ref o_distanceCodes, .ref o_lengthCodes, .ref o_counts, .ref o_parents, .ref o_alone, .ref o_row, .int o_told, .ref o_toldSymbols, .ref o_toldNumbers, .int o_place, .int o_fail, .int o_found, .int o_symbolCount, .int o_distanceCount, .int o_lengthCount])), (o_text, .inl (o_text_c, o_text_n, .inl o_text_v)), (o_heads, .inl (o_heads_c, o_heads_n, .inl o_heads_v)), (o_earlier, .inl (o_earlier_c, o_earlier_n, .inl o_earlier_v))]) (va_runV (As := [.int x4, .int x1]) (rest := []) ⟨hx, hb, hml, hown, hts⟩ (mX11_isLike l dC dI o o_text o_packed o_loaded o_out o_lengths o_distances o_heads o_earlier o_often o_symbolLengths o_distanceLengths o_lengthLengths o_symbolCodes o_distanceCodes o_lengthCodes o_counts o_parents o_alone o_row o_toldSymbols o_toldNumbers o_text_c o_text_n o_textRoom o_byteRoom o_chain o_textSize o_packedSize o_matches o_loadedSize o_outSize o_bits o_tokens o_told o_place o_fail o_found o_symbolCount o_distanceCount o_lengthCount o_text_v x4 x1 H.size u5 e5) (cwV 2 hts (fb_GV k_1014 k_1016 k_36 k_74 k_1017) rfl rfl rfl hdX11_isLike ⟨Nat.le_of_ble_eq_true rfl, Nat.le_of_ble_eq_true rfl⟩) (fb_pV hP hD hS hA hK hN hZ [0, 1] rfl rfl [0] rfl (q0 := 0) (ci := 11) rfl rfl) rfl rfl hl.1 rfl (lv_room (Nat.le_of_ble_eq_true rfl)) dX11_longest_61 ⟨Nat.le_of_ble_eq_true rfl, Nat.le_of_ble_eq_true rfl⟩) hP hD hS hA [0, 1] [2, 3] rfl rfl rfl (by decide) [2, 3, 0, 1] rfl rfl (fun H locs hP hD hS => ?_)
            refine lv_if_eq (tgt := 97) hx hb dX11_longest_64 (by decide) (fun c6 => ?_) (fun c6 => ?_)
            · replace h := fb_t c6 h
              exact wB97 (pX11_longest_b35 o_text_n o_earlier_n o_chain o_textSize o_text_v o_earlier_v x1 n) ih o_found x2 x3 x4 _ _ _ hP hD hS (lv_sub hl [0, 1, 2, 3, 4] rfl) h
            · replace h := fb_f c6 h
              refine lv_iinc (v := (x3 + (1 : Int32))) (lv' := [(3, .int (x3 + (1 : Int32))), (0, .ref o), (1, .int x1), (2, .int x2), (4, .int x4)]) hx hb dX11_longest_67 hl (k := 3) rfl rfl (by decide) rfl (fun ls hl => ?_)
              refine lv_aload_n hx hb dX11_longest_70 rfl (lv_at hl 1 rfl) ?_
              refine lv_iload hx hb dX11_longest_71 (lv_at hl 4 rfl) ?_
              refine lv_iload_n hx hb dX11_longest_73 rfl (lv_at hl 2 rfl) ?_
              obtain ⟨u7, e7, h⟩ := fb_b h
              refine fb_ci (wc := [(o, .inr (11, [.int o_textRoom, .int o_byteRoom, .int o_chain, .ref o_text, .int o_textSize, .ref o_packed, .int o_packedSize, .int o_matches, .ref o_loaded, .int o_loadedSize, .ref o_out, .int o_outSize, .int o_bits, .int o_tokens, .ref o_lengths, .ref o_distances, .ref o_heads, .ref o_earlier, .ref o_often, .ref o_symbolLengths, .ref o_distanceLengths, .ref o_lengthLengths, .ref o_symbolCodes, .ref o_distanceCodes, .ref o_lengthCodes, .ref o_counts, .ref o_parents, .ref o_alone, .ref o_row, .int o_told, .ref o_toldSymbols, .ref o_toldNumbers, .int o_place, .int o_fail, .int o_found, .int o_symbolCount, .int o_distanceCount, .int o_lengthCount])), (o_text, .inl (o_text_c, o_text_n, .inl o_text_v))]) (wr := [(o_heads, .inl (o_heads_c, o_heads_n, .inl o_heads_v)), (o_earlier, .inl (o_earlier_c, o_earlier_n, .inl o_earlier_v))]) (w1 := [(o, .inr (11, [.int o_textRoom, .int o_byteRoom, .int o_chain, .ref o_text, .int o_textSize, .ref o_packed, .int o_packedSize, .int o_matches, .ref o_loaded, .int o_loadedSize, .ref o_out, .int o_outSize, .int o_bits, .int o_tokens, .ref o_lengths, .ref o_distances, .ref o_heads, .ref o_earlier, .ref o_often, .ref o_symbolLengths, .ref o_distanceLengths, .ref o_lengthLengths, .ref o_symbolCodes, .ref o_distanceCodes, .ref o_lengthCodes, .ref o_counts, .ref o_parents, .ref o_alone, .ref o_row, .int o_told, .ref o_toldSymbols, .ref o_toldNumbers, .int o_place, .int o_fail, .int o_found, .int o_symbolCount, .int o_distanceCount, .int o_lengthCount])), (o_text, .inl (o_text_c, o_text_n, .inl o_text_v))]) (ws' := [(o, .inr (11, [.int o_textRoom, .int o_byteRoom, .int o_chain, .ref o_text, .int o_textSize, .ref o_packed, .int o_packedSize, .int o_matches, .ref o_loaded, .int o_loadedSize, .ref o_out, .int o_outSize, .int o_bits, .int o_tokens, .ref o_lengths, .ref o_distances, .ref o_heads, .ref o_earlier, .ref o_often, .ref o_symbolLengths, .ref o_distanceLengths, .ref o_lengthLengths, .ref o_symbolCodes, .ref o_distanceCodes, .ref o_lengthCodes, .ref o_counts, .ref o_parents, .ref o_alone, .ref o_row, .int o_told, .ref o_toldSymbols, .ref o_toldNumbers, .int o_place, .int o_fail, .int o_found, .int o_symbolCount, .int o_distanceCount, .int o_lengthCount])), (o_text, .inl (o_text_c, o_text_n, .inl o_text_v)), (o_heads, .inl (o_heads_c, o_heads_n, .inl o_heads_v)), (o_earlier, .inl (o_earlier_c, o_earlier_n, .inl o_earlier_v))]) (va_runV (As := [.int x4, .int x1]) (rest := []) ⟨hx, hb, hml, hown, hts⟩ (mX11_matchOf l dC dI o o_text o_packed o_loaded o_out o_lengths o_distances o_heads o_earlier o_often o_symbolLengths o_distanceLengths o_lengthLengths o_symbolCodes o_distanceCodes o_lengthCodes o_counts o_parents o_alone o_row o_toldSymbols o_toldNumbers o_text_c o_text_n o_textRoom o_byteRoom o_chain o_textSize o_packedSize o_matches o_loadedSize o_outSize o_bits o_tokens o_told o_place o_fail o_found o_symbolCount o_distanceCount o_lengthCount o_text_v x4 x1 H.size u7 e7) (cwV 2 hts (fb_GV k_1018 k_1020 k_37 k_74 k_1021) rfl rfl rfl hdX11_matchOf ⟨Nat.le_of_ble_eq_true rfl, Nat.le_of_ble_eq_true rfl⟩) (fb_pV hP hD hS hA hK hN hZ [0, 1] rfl rfl [0] rfl (q0 := 0) (ci := 11) rfl rfl) rfl rfl hl.1 rfl (lv_room (Nat.le_of_ble_eq_true rfl)) dX11_longest_74 ⟨Nat.le_of_ble_eq_true rfl, Nat.le_of_ble_eq_true rfl⟩) hP hD hS hA [0, 1] [2, 3] rfl rfl rfl (by decide) [2, 3, 0, 1] rfl rfl (fun H locs hP hD hS => ?_)
              refine lv_istore (lv' := [(5, .int u7), (3, .int (x3 + (1 : Int32))), (0, .ref o), (1, .int x1), (2, .int x2), (4, .int x4)]) hx hb dX11_longest_77 hl (by decide) rfl (fun ls hl => ?_)
              refine lv_iload hx hb dX11_longest_79 (lv_at hl 0 rfl) ?_
              refine lv_aload_n hx hb dX11_longest_81 rfl (lv_at hl 2 rfl) ?_
              refine va_get (D := (dC, dI)) (ci := 11) (v := .int o_found) (C := RX11) (T := TX11) (N := 38) hx hb hts i_X11 hown hK hP 0 rfl rfl 34 (by decide) (hts _ k_871) (fun _ h9 => h9) rfl dX11_longest_82 ?_
              refine lv_icmp_le (tgt := 97) hx hb dX11_longest_85 (by decide) (fun c8 => ?_) (fun c8 => ?_)
              · replace h := fb_t c8 h
                exact wB97 (pX11_longest_b35 o_text_n o_earlier_n o_chain o_textSize o_text_v o_earlier_v x1 n) ih o_found x2 (x3 + (1 : Int32)) x4 _ _ _ hP hD hS (lv_sub hl [2, 3, 4, 1, 5] rfl) h
              · replace h := fb_f c8 h
                refine lv_iload hx hb dX11_longest_88 (lv_at hl 5 rfl) ?_
                refine lv_istore_n (lv' := [(2, .int x4), (5, .int u7), (3, .int (x3 + (1 : Int32))), (0, .ref o), (1, .int x1), (4, .int x4)]) hx hb dX11_longest_90 rfl hl (by decide) rfl (fun ls hl => ?_)
                refine lv_aload_n hx hb dX11_longest_91 rfl (lv_at hl 3 rfl) ?_
                refine lv_iload hx hb dX11_longest_92 (lv_at hl 1 rfl) ?_
                refine va_put (D := (dC, dI)) (ci := 11) (v := .int u7) (ty := .int) (C := RX11) (T := TX11) (N := 38) hx hb hts i_X11 tyX11 tyX11_ok nmX11 hown hK hP hD hS 0 rfl rfl 34 (by decide) (hts _ k_871) (fun _ h9 => h9) rfl (by decide +kernel) rfl rfl (Nat.le_of_ble_eq_true rfl) dX11_longest_94 (fun H locs hP hD hS => ?_)
                replace hP : va_P (dC, dI) fb_cl [(o, .inr (11, [.int o_textRoom, .int o_byteRoom, .int o_chain, .ref o_text, .int o_textSize, .ref o_packed, .int o_packedSize, .int o_matches, .ref o_loaded, .int o_loadedSize, .ref o_out, .int o_outSize, .int o_bits, .int o_tokens, .ref o_lengths, .ref o_distances, .ref o_heads, .ref o_earlier, .ref o_often, .ref o_symbolLengths, .ref o_distanceLengths, .ref o_lengthLengths, .ref o_symbolCodes, .ref o_distanceCodes, .ref o_lengthCodes, .ref o_counts, .ref o_parents, .ref o_alone, .ref o_row, .int o_told, .ref o_toldSymbols, .ref o_toldNumbers, .int o_place, .int o_fail, .int u7, .int o_symbolCount, .int o_distanceCount, .int o_lengthCount])), (o_text, .inl (o_text_c, o_text_n, .inl o_text_v)), (o_heads, .inl (o_heads_c, o_heads_n, .inl o_heads_v)), (o_earlier, .inl (o_earlier_c, o_earlier_n, .inl o_earlier_v))] H := hP
                replace hD : va_D A [(o, .inr (11, [.int o_textRoom, .int o_byteRoom, .int o_chain, .ref o_text, .int o_textSize, .ref o_packed, .int o_packedSize, .int o_matches, .ref o_loaded, .int o_loadedSize, .ref o_out, .int o_outSize, .int o_bits, .int o_tokens, .ref o_lengths, .ref o_distances, .ref o_heads, .ref o_earlier, .ref o_often, .ref o_symbolLengths, .ref o_distanceLengths, .ref o_lengthLengths, .ref o_symbolCodes, .ref o_distanceCodes, .ref o_lengthCodes, .ref o_counts, .ref o_parents, .ref o_alone, .ref o_row, .int o_told, .ref o_toldSymbols, .ref o_toldNumbers, .int o_place, .int o_fail, .int u7, .int o_symbolCount, .int o_distanceCount, .int o_lengthCount])), (o_text, .inl (o_text_c, o_text_n, .inl o_text_v)), (o_heads, .inl (o_heads_c, o_heads_n, .inl o_heads_v)), (o_earlier, .inl (o_earlier_c, o_earlier_n, .inl o_earlier_v))] := hD
                exact wB97 (pX11_longest_b35 o_text_n o_earlier_n o_chain o_textSize o_text_v o_earlier_v x1 n) ih u7 x4 (x3 + (1 : Int32)) x4 _ _ _ hP hD hS (lv_sub hl [3, 4, 0, 2, 5] rfl) h
  unfold pX11_longest at h
  refine lv_iconst (v := (-1 : Int32)) hx hb dX11_longest_0 (by decide) ?_
  refine lv_istore_n (lv' := [(2, .int (-1 : Int32)), (0, .ref o), (1, .int x1)]) hx hb dX11_longest_1 rfl hl (by decide) rfl (fun ls hl => ?_)
  refine lv_iconst (v := (0 : Int32)) hx hb dX11_longest_2 (by decide) ?_
  refine lv_istore_n (lv' := [(3, .int (0 : Int32)), (2, .int (-1 : Int32)), (0, .ref o), (1, .int x1)]) hx hb dX11_longest_3 rfl hl (by decide) rfl (fun ls hl => ?_)
  refine lv_aload_n hx hb dX11_longest_4 rfl (lv_at hl 2 rfl) ?_
  refine lv_iconst (v := (0 : Int32)) hx hb dX11_longest_5 (by decide) ?_
  refine va_put (D := (dC, dI)) (ci := 11) (v := .int (0 : Int32)) (ty := .int) (C := RX11) (T := TX11) (N := 38) hx hb hts i_X11 tyX11 tyX11_ok nmX11 hown hK hP hD hS 0 rfl rfl 34 (by decide) (hts _ k_871) (fun _ h9 => h9) rfl (by decide +kernel) rfl rfl (Nat.le_of_ble_eq_true rfl) dX11_longest_6 (fun H locs hP hD hS => ?_)
  replace hP : va_P (dC, dI) fb_cl [(o, .inr (11, [.int o_textRoom, .int o_byteRoom, .int o_chain, .ref o_text, .int o_textSize, .ref o_packed, .int o_packedSize, .int o_matches, .ref o_loaded, .int o_loadedSize, .ref o_out, .int o_outSize, .int o_bits, .int o_tokens, .ref o_lengths, .ref o_distances, .ref o_heads, .ref o_earlier, .ref o_often, .ref o_symbolLengths, .ref o_distanceLengths, .ref o_lengthLengths, .ref o_symbolCodes, .ref o_distanceCodes, .ref o_lengthCodes, .ref o_counts, .ref o_parents, .ref o_alone, .ref o_row, .int o_told, .ref o_toldSymbols, .ref o_toldNumbers, .int o_place, .int o_fail, .int (0 : Int32), .int o_symbolCount, .int o_distanceCount, .int o_lengthCount])), (o_text, .inl (o_text_c, o_text_n, .inl o_text_v)), (o_heads, .inl (o_heads_c, o_heads_n, .inl o_heads_v)), (o_earlier, .inl (o_earlier_c, o_earlier_n, .inl o_earlier_v))] H := hP
  replace hD : va_D A [(o, .inr (11, [.int o_textRoom, .int o_byteRoom, .int o_chain, .ref o_text, .int o_textSize, .ref o_packed, .int o_packedSize, .int o_matches, .ref o_loaded, .int o_loadedSize, .ref o_out, .int o_outSize, .int o_bits, .int o_tokens, .ref o_lengths, .ref o_distances, .ref o_heads, .ref o_earlier, .ref o_often, .ref o_symbolLengths, .ref o_distanceLengths, .ref o_lengthLengths, .ref o_symbolCodes, .ref o_distanceCodes, .ref o_lengthCodes, .ref o_counts, .ref o_parents, .ref o_alone, .ref o_row, .int o_told, .ref o_toldSymbols, .ref o_toldNumbers, .int o_place, .int o_fail, .int (0 : Int32), .int o_symbolCount, .int o_distanceCount, .int o_lengthCount])), (o_text, .inl (o_text_c, o_text_n, .inl o_text_v)), (o_heads, .inl (o_heads_c, o_heads_n, .inl o_heads_v)), (o_earlier, .inl (o_earlier_c, o_earlier_n, .inl o_earlier_v))] := hD
  refine lv_iload_n hx hb dX11_longest_9 rfl (lv_at hl 3 rfl) ?_
  refine lv_iconst (v := (2 : Int32)) hx hb dX11_longest_10 (by decide) ?_
  refine lv_iadd hx hb dX11_longest_11 ?_
  refine lv_aload_n hx hb dX11_longest_12 rfl (lv_at hl 2 rfl) ?_
  refine va_get (D := (dC, dI)) (ci := 11) (v := .int o_textSize) (C := RX11) (T := TX11) (N := 38) hx hb hts i_X11 hown hK hP 0 rfl rfl 4 (by decide) (hts _ k_841) (fun _ h9 => h9) rfl dX11_longest_13 ?_
  refine lv_icmp_ge (tgt := 32) hx hb dX11_longest_16 (by decide) (fun c9 => ?_) (fun c9 => ?_)
  · replace h := fb_t c9 h
    refine lv_iconst (v := (-1 : Int32)) hx hb dX11_longest_32 (by decide) ?_
    refine lv_istore (lv' := [(4, .int (-1 : Int32)), (3, .int (0 : Int32)), (2, .int (-1 : Int32)), (0, .ref o), (1, .int x1)]) hx hb dX11_longest_33 hl (by decide) rfl (fun ls hl => ?_)
    exact wB35 fb_F (0 : Int32) (-1 : Int32) (0 : Int32) (-1 : Int32) _ _ _ hP hD hS (lv_sub hl [3, 4, 2, 1, 0] rfl) h
  · replace h := fb_f c9 h
    refine lv_aload_n hx hb dX11_longest_19 rfl (lv_at hl 2 rfl) ?_
    refine va_get (D := (dC, dI)) (ci := 11) (v := .ref o_heads) (C := RX11) (T := TX11) (N := 38) hx hb hts i_X11 hown hK hP 0 rfl rfl 16 (by decide) (hts _ k_853) (fun _ h9 => h9) rfl dX11_longest_20 ?_
    refine lv_aload_n hx hb dX11_longest_23 rfl (lv_at hl 2 rfl) ?_
    refine lv_iload_n hx hb dX11_longest_24 rfl (lv_at hl 3 rfl) ?_
    obtain ⟨u10, e10, h⟩ := fb_b h
    refine fb_ci (wc := [(o, .inr (11, [.int o_textRoom, .int o_byteRoom, .int o_chain, .ref o_text, .int o_textSize, .ref o_packed, .int o_packedSize, .int o_matches, .ref o_loaded, .int o_loadedSize, .ref o_out, .int o_outSize, .int o_bits, .int o_tokens, .ref o_lengths, .ref o_distances, .ref o_heads, .ref o_earlier, .ref o_often, .ref o_symbolLengths, .ref o_distanceLengths, .ref o_lengthLengths, .ref o_symbolCodes, .ref o_distanceCodes, .ref o_lengthCodes, .ref o_counts, .ref o_parents, .ref o_alone, .ref o_row, .int o_told, .ref o_toldSymbols, .ref o_toldNumbers, .int o_place, .int o_fail, .int (0 : Int32), .int o_symbolCount, .int o_distanceCount, .int o_lengthCount])), (o_text, .inl (o_text_c, o_text_n, .inl o_text_v))]) (wr := [(o_heads, .inl (o_heads_c, o_heads_n, .inl o_heads_v)), (o_earlier, .inl (o_earlier_c, o_earlier_n, .inl o_earlier_v))]) (w1 := [(o, .inr (11, [.int o_textRoom, .int o_byteRoom, .int o_chain, .ref o_text, .int o_textSize, .ref o_packed, .int o_packedSize, .int o_matches, .ref o_loaded, .int o_loadedSize, .ref o_out, .int o_outSize, .int o_bits, .int o_tokens, .ref o_lengths, .ref o_distances, .ref o_heads, .ref o_earlier, .ref o_often, .ref o_symbolLengths, .ref o_distanceLengths, .ref o_lengthLengths, .ref o_symbolCodes, .ref o_distanceCodes, .ref o_lengthCodes, .ref o_counts, .ref o_parents, .ref o_alone, .ref o_row, .int o_told, .ref o_toldSymbols, .ref o_toldNumbers, .int o_place, .int o_fail, .int (0 : Int32), .int o_symbolCount, .int o_distanceCount, .int o_lengthCount])), (o_text, .inl (o_text_c, o_text_n, .inl o_text_v))]) (ws' := [(o, .inr (11, [.int o_textRoom, .int o_byteRoom, .int o_chain, .ref o_text, .int o_textSize, .ref o_packed, .int o_packedSize, .int o_matches, .ref o_loaded, .int o_loadedSize, .ref o_out, .int o_outSize, .int o_bits, .int o_tokens, .ref o_lengths, .ref o_distances, .ref o_heads, .ref o_earlier, .ref o_often, .ref o_symbolLengths, .ref o_distanceLengths, .ref o_lengthLengths, .ref o_symbolCodes, .ref o_distanceCodes, .ref o_lengthCodes, .ref o_counts, .ref o_parents, .ref o_alone, .ref o_row, .int o_told, .ref o_toldSymbols, .ref o_toldNumbers, .int o_place, .int o_fail, .int (0 : Int32), .int o_symbolCount, .int o_distanceCount, .int o_lengthCount])), (o_text, .inl (o_text_c, o_text_n, .inl o_text_v)), (o_heads, .inl (o_heads_c, o_heads_n, .inl o_heads_v)), (o_earlier, .inl (o_earlier_c, o_earlier_n, .inl o_earlier_v))]) (va_runV (As := [.int x1]) (rest := [.ref o_heads]) ⟨hx, hb, hml, hown, hts⟩ (mX11_mixed l dC dI o o_text o_packed o_loaded o_out o_lengths o_distances o_heads o_earlier o_often o_symbolLengths o_distanceLengths o_lengthLengths o_symbolCodes o_distanceCodes o_lengthCodes o_counts o_parents o_alone o_row o_toldSymbols o_toldNumbers o_text_c o_text_n o_textRoom o_byteRoom o_chain o_textSize o_packedSize o_matches o_loadedSize o_outSize o_bits o_tokens o_told o_place o_fail (0 : Int32) o_symbolCount o_distanceCount o_lengthCount o_text_v x1 H.size u10 e10) (cwV 1 hts (fb_GV k_1009 k_1011 k_35 k_74 k_1012) rfl rfl rfl hdX11_mixed ⟨Nat.le_of_ble_eq_true rfl, Nat.le_of_ble_eq_true rfl⟩) (fb_pV hP hD hS hA hK hN hZ [0, 1] rfl rfl [0] rfl (q0 := 0) (ci := 11) rfl rfl) rfl rfl hl.1 rfl (lv_room (Nat.le_of_ble_eq_true rfl)) dX11_longest_25 ⟨Nat.le_of_ble_eq_true rfl, Nat.le_of_ble_eq_true rfl⟩) hP hD hS hA [0, 1] [2, 3] rfl rfl rfl (by decide) [2, 3, 0, 1] rfl rfl (fun H locs hP hD hS => ?_)
    obtain ⟨g11, h⟩ := fb_g h
    refine va_iald hx hb hK hP 2 1 rfl rfl g11 dX11_longest_28 ?_
    refine lv_goto (tgt := 33) hx hb dX11_longest_29 (by decide) ?_
    refine lv_istore (lv' := [(4, .int (o_heads_v (u10).toNatClampNeg)), (3, .int (0 : Int32)), (2, .int (-1 : Int32)), (0, .ref o), (1, .int x1)]) hx hb dX11_longest_33 hl (by decide) rfl (fun ls hl => ?_)
    exact wB35 fb_F (0 : Int32) (-1 : Int32) (0 : Int32) (o_heads_v (u10).toNatClampNeg) _ _ _ hP hD hS (lv_sub hl [3, 4, 2, 1, 0] rfl) h
