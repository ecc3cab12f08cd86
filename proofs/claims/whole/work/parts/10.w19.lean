theorem dX11_feed_0 : decode cX11_feed 0 = .ok (.iload_n 1, 1) := by decide +kernel
theorem dX11_feed_1 : decode cX11_feed 1 = .ok (.ifCond .lt 21, 3) := by decide +kernel
theorem dX11_feed_4 : decode cX11_feed 4 = .ok (.iload_n 1, 1) := by decide +kernel
theorem dX11_feed_5 : decode cX11_feed 5 = .ok (.sipush 255, 3) := by decide +kernel
theorem dX11_feed_8 : decode cX11_feed 8 = .ok (.if_icmp .gt 14, 3) := by decide +kernel
theorem dX11_feed_11 : decode cX11_feed 11 = .ok (.aload_n 0, 1) := by decide +kernel
theorem dX11_feed_12 : decode cX11_feed 12 = .ok (.getfield 90, 3) := by decide +kernel
theorem dX11_feed_15 : decode cX11_feed 15 = .ok (.aload_n 0, 1) := by decide +kernel
theorem dX11_feed_16 : decode cX11_feed 16 = .ok (.getfield 80, 3) := by decide +kernel
theorem dX11_feed_19 : decode cX11_feed 19 = .ok (.if_icmp .ne 5, 3) := by decide +kernel
theorem dX11_feed_22 : decode cX11_feed 22 = .ok (.iconst 0, 1) := by decide +kernel
theorem dX11_feed_23 : decode cX11_feed 23 = .ok (.ireturn, 1) := by decide +kernel
theorem dX11_feed_24 : decode cX11_feed 24 = .ok (.aload_n 0, 1) := by decide +kernel
theorem dX11_feed_25 : decode cX11_feed 25 = .ok (.getfield 8, 3) := by decide +kernel
theorem dX11_feed_28 : decode cX11_feed 28 = .ok (.aload_n 0, 1) := by decide +kernel
theorem dX11_feed_29 : decode cX11_feed 29 = .ok (.getfield 90, 3) := by decide +kernel
theorem dX11_feed_32 : decode cX11_feed 32 = .ok (.iload_n 1, 1) := by decide +kernel
theorem dX11_feed_33 : decode cX11_feed 33 = .ok (.iastore, 1) := by decide +kernel
theorem dX11_feed_34 : decode cX11_feed 34 = .ok (.aload_n 0, 1) := by decide +kernel
theorem dX11_feed_35 : decode cX11_feed 35 = .ok (.dup, 1) := by decide +kernel
theorem dX11_feed_36 : decode cX11_feed 36 = .ok (.getfield 90, 3) := by decide +kernel
theorem dX11_feed_39 : decode cX11_feed 39 = .ok (.iconst 1, 1) := by decide +kernel
theorem dX11_feed_40 : decode cX11_feed 40 = .ok (.iadd, 1) := by decide +kernel
theorem dX11_feed_41 : decode cX11_feed 41 = .ok (.putfield 90, 3) := by decide +kernel
theorem dX11_feed_44 : decode cX11_feed 44 = .ok (.iconst 1, 1) := by decide +kernel
theorem dX11_feed_45 : decode cX11_feed 45 = .ok (.ireturn, 1) := by decide +kernel
def pX11_feed (o_text_n : Nat) (o_textRoom : Int32) (x1 : Int32)  (o_textSize : Int32) (o_text_v : Nat → Int32) : Option (Int32 × Int32 × (Nat → Int32)) :=
  if x1 < 0 then
  (some ((0 : Int32), o_textSize, o_text_v))
  else
  (if (255 : Int32) < x1 then
  (some ((0 : Int32), o_textSize, o_text_v))
  else
  (if o_textSize = o_textRoom then
  (some ((0 : Int32), o_textSize, o_text_v))
  else
  (if o_textSize < 0 ∨ o_text_n ≤ (o_textSize).toNatClampNeg then none else
  some ((1 : Int32), (o_textSize + (1 : Int32)), (upd o_text_v (o_textSize).toNatClampNeg x1)))))
theorem hdX11_feed : yX11_feed.cls = RX11 ∧ yX11_feed.cls ≠ "java/lang/invoke/MethodHandle" ∧ yX11_feed.cls ≠ "java/lang/invoke/VarHandle" ∧ (parseMethodDescriptor yX11_feed.desc).map (fun d => d.parameters.length) = some 1 := by decide +kernel
set_option maxHeartbeats 8000000 in
set_option maxRecDepth 100000 in
theorem mX11_feed (l : Launch) (dC : Nat → ClassId) (dI : Nat → Nat → Nat) (o : Nat) (o_text : Nat) (o_packed : Nat) (o_loaded : Nat) (o_out : Nat) (o_lengths : Nat) (o_distances : Nat) (o_heads : Nat) (o_earlier : Nat) (o_often : Nat) (o_symbolLengths : Nat) (o_distanceLengths : Nat) (o_lengthLengths : Nat) (o_symbolCodes : Nat) (o_distanceCodes : Nat) (o_lengthCodes : Nat) (o_counts : Nat) (o_parents : Nat) (o_alone : Nat) (o_row : Nat) (o_toldSymbols : Nat) (o_toldNumbers : Nat) (o_text_c : ClassId) (o_text_n : Nat) (o_textRoom : Int32) (o_byteRoom : Int32) (o_chain : Int32) (o_textSize : Int32) (o_packedSize : Int32) (o_matches : Int32) (o_loadedSize : Int32) (o_outSize : Int32) (o_bits : Int32) (o_tokens : Int32) (o_told : Int32) (o_place : Int32) (o_fail : Int32) (o_found : Int32) (o_symbolCount : Int32) (o_distanceCount : Int32) (o_lengthCount : Int32) (o_text_v : Nat → Int32) (x1 : Int32) (sz : Nat) (u : Int32 × Int32 × (Nat → Int32)) (h : pX11_feed o_text_n o_textRoom x1 o_textSize o_text_v = some u) : Met l yX11_feed (Cond.code yX11_feed cX11_feed 2 (some .boolean) :: fb_tb) ({ frames := 0, cells := 0, slots := 0, locals := 0 }) (fb_Pc (dC, dI) [.ref o, .int x1] sz [(o_text_c, .int)] [(o, .inr (11, [.int o_textRoom, .int o_byteRoom, .int o_chain, .ref o_text, .int o_textSize, .ref o_packed, .int o_packedSize, .int o_matches, .ref o_loaded, .int o_loadedSize, .ref o_out, .int o_outSize, .int o_bits, .int o_tokens, .ref o_lengths, .ref o_distances, .ref o_heads, .ref o_earlier, .ref o_often, .ref o_symbolLengths, .ref o_distanceLengths, .ref o_lengthLengths, .ref o_symbolCodes, .ref o_distanceCodes, .ref o_lengthCodes, .ref o_counts, .ref o_parents, .ref o_alone, .ref o_row, .int o_told, .ref o_toldSymbols, .ref o_toldNumbers, .int o_place, .int o_fail, .int o_found, .int o_symbolCount, .int o_distanceCount, .int o_lengthCount])), (o_text, .inl (o_text_c, o_text_n, .inl o_text_v))]) (fb_Qi (dC, dI) u.1 [(o, .inr (11, [.int o_textRoom, .int o_byteRoom, .int o_chain, .ref o_text, .int u.2.1, .ref o_packed, .int o_packedSize, .int o_matches, .ref o_loaded, .int o_loadedSize, .ref o_out, .int o_outSize, .int o_bits, .int o_tokens, .ref o_lengths, .ref o_distances, .ref o_heads, .ref o_earlier, .ref o_often, .ref o_symbolLengths, .ref o_distanceLengths, .ref o_lengthLengths, .ref o_symbolCodes, .ref o_distanceCodes, .ref o_lengthCodes, .ref o_counts, .ref o_parents, .ref o_alone, .ref o_row, .int o_told, .ref o_toldSymbols, .ref o_toldNumbers, .int o_place, .int o_fail, .int o_found, .int o_symbolCount, .int o_distanceCount, .int o_lengthCount])), (o_text, .inl (o_text_c, o_text_n, .inl u.2.2))] (va_A [(o, .inr (11, [.int o_textRoom, .int o_byteRoom, .int o_chain, .ref o_text, .int o_textSize, .ref o_packed, .int o_packedSize, .int o_matches, .ref o_loaded, .int o_loadedSize, .ref o_out, .int o_outSize, .int o_bits, .int o_tokens, .ref o_lengths, .ref o_distances, .ref o_heads, .ref o_earlier, .ref o_often, .ref o_symbolLengths, .ref o_distanceLengths, .ref o_lengthLengths, .ref o_symbolCodes, .ref o_distanceCodes, .ref o_lengthCodes, .ref o_counts, .ref o_parents, .ref o_alone, .ref o_row, .int o_told, .ref o_toldSymbols, .ref o_toldNumbers, .int o_place, .int o_fail, .int o_found, .int o_symbolCount, .int o_distanceCount, .int o_lengthCount])), (o_text, .inl (o_text_c, o_text_n, .inl o_text_v))] sz)) 0 0 (va_A [(o, .inr (11, [.int o_textRoom, .int o_byteRoom, .int o_chain, .ref o_text, .int o_textSize, .ref o_packed, .int o_packedSize, .int o_matches, .ref o_loaded, .int o_loadedSize, .ref o_out, .int o_outSize, .int o_bits, .int o_tokens, .ref o_lengths, .ref o_distances, .ref o_heads, .ref o_earlier, .ref o_often, .ref o_symbolLengths, .ref o_distanceLengths, .ref o_lengthLengths, .ref o_symbolCodes, .ref o_distanceCodes, .ref o_lengthCodes, .ref o_counts, .ref o_parents, .ref o_alone, .ref o_row, .int o_told, .ref o_toldSymbols, .ref o_toldNumbers, .int o_place, .int o_fail, .int o_found, .int o_symbolCount, .int o_distanceCount, .int o_lengthCount])), (o_text, .inl (o_text_c, o_text_n, .inl o_text_v))] sz) := by
  refine fb_meti (ty := .boolean) (by decide) (Nat.le_of_ble_eq_true rfl) (fun p e s m args below meth c A Q ls H hx hb hml hown hts hP hK hN hZ hD hA hS hret hl => ?_)
  replace hl : lv_has ls 2 [(0, .ref o), (1, .int x1)] := hl
  unfold pX11_feed at h
  refine lv_iload_n hx hb dX11_feed_0 rfl (lv_at hl 1 rfl) ?_
  refine lv_if_lt (tgt := 22) hx hb dX11_feed_1 (by decide) (fun c1 => ?_) (fun c1 => ?_)
  · replace h := fb_t c1 h
    refine lv_iconst (v := (0 : Int32)) hx hb dX11_feed_22 (by decide) ?_
    have hu := Option.some.inj h
    exact hret _ _ _ _ _ dX11_feed_23 rfl (by rw [← hu]) (by rw [← hu]; exact hP) (by rw [← hu]; exact hD) hS
  · replace h := fb_f c1 h
    refine lv_iload_n hx hb dX11_feed_4 rfl (lv_at hl 1 rfl) ?_
    refine lv_sipush (v := (255 : Int32)) hx hb dX11_feed_5 (by decide) ?_
    refine lv_icmp_gt (tgt := 22) hx hb dX11_feed_8 (by decide) (fun c2 => ?_) (fun c2 => ?_)
    · replace h := fb_t c2 h
      refine lv_iconst (v := (0 : Int32)) hx hb dX11_feed_22 (by decide) ?_
      have hu := Option.some.inj h
      exact hret _ _ _ _ _ dX11_feed_23 rfl (by rw [← hu]) (by rw [← hu]; exact hP) (by rw [← hu]; exact hD) hS
    · replace h := fb_f c2 h
      refine lv_aload_n hx hb dX11_feed_11 rfl (lv_at hl 0 rfl) ?_
      refine va_get (D := (dC, dI)) (ci := 11) (v := .int o_textSize) (C := RX11) (T := TX11) (N := 38) hx hb hts i_X11 hown hK hP 0 rfl rfl 4 (by decide) (hts _ k_841) (fun _ h9 => h9) rfl dX11_feed_12 ?_
      refine lv_aload_n hx hb dX11_feed_15 rfl (lv_at hl 0 rfl) ?_
      refine va_get (D := (dC, dI)) (ci := 11) (v := .int o_textRoom) (C := RX11) (T := TX11) (N := 38) hx hb hts i_X11 hown hK hP 0 rfl rfl 0 (by decide) (hts _ k_837) (fun _ h9 => h9) rfl dX11_feed_16 ?_
      refine lv_icmp_ne (tgt := 24) hx hb dX11_feed_19 (by decide) (fun c3 => ?_) (fun c3 => ?_)
      · replace h := fb_f c3 h
        refine lv_aload_n hx hb dX11_feed_24 rfl (lv_at hl 0 rfl) ?_
        refine va_get (D := (dC, dI)) (ci := 11) (v := .ref o_text) (C := RX11) (T := TX11) (N := 38) hx hb hts i_X11 hown hK hP 0 rfl rfl 3 (by decide) (hts _ k_840) (fun _ h9 => h9) rfl dX11_feed_25 ?_
        refine lv_aload_n hx hb dX11_feed_28 rfl (lv_at hl 0 rfl) ?_
        refine va_get (D := (dC, dI)) (ci := 11) (v := .int o_textSize) (C := RX11) (T := TX11) (N := 38) hx hb hts i_X11 hown hK hP 0 rfl rfl 4 (by decide) (hts _ k_841) (fun _ h9 => h9) rfl dX11_feed_29 ?_
        refine lv_iload_n hx hb dX11_feed_32 rfl (lv_at hl 1 rfl) ?_
        obtain ⟨g4, h⟩ := fb_g h
        refine va_iast hx hb hK hP hD hS 1 0 rfl rfl g4 dX11_feed_33 (fun H locs hP hD hS => ?_)
        replace hP : va_P (dC, dI) fb_cl [(o, .inr (11, [.int o_textRoom, .int o_byteRoom, .int o_chain, .ref o_text, .int o_textSize, .ref o_packed, .int o_packedSize, .int o_matches, .ref o_loaded, .int o_loadedSize, .ref o_out, .int o_outSize, .int o_bits, .int o_tokens, .ref o_lengths, .ref o_distances, .ref o_heads, .ref o_earlier, .ref o_often, .ref o_symbolLengths, .ref o_distanceLengths, .ref o_lengthLengths, .ref o_symbolCodes, .ref o_distanceCodes, .ref o_lengthCodes, .ref o_counts, .ref o_parents, .ref o_alone, .ref o_row, .int o_told, .ref o_toldSymbols, .ref o_toldNumbers, .int o_place, .int o_fail, .int o_found, .int o_symbolCount, .int o_distanceCount, .int o_lengthCount])), (o_text, .inl (o_text_c, o_text_n, .inl (upd o_text_v (o_textSize).toNatClampNeg x1)))] H := hP
        replace hD : va_D A [(o, .inr (11, [.int o_textRoom, .int o_byteRoom, .int o_chain, .ref o_text, .int o_textSize, .ref o_packed, .int o_packedSize, .int o_matches, .ref o_loaded, .int o_loadedSize, .ref o_out, .int o_outSize, .int o_bits, .int o_tokens, .ref o_lengths, .ref o_distances, .ref o_heads, .ref o_earlier, .ref o_often, .ref o_symbolLengths, .ref o_distanceLengths, .ref o_lengthLengths, .ref o_symbolCodes, .ref o_distanceCodes, .ref o_lengthCodes, .ref o_counts, .ref o_parents, .ref o_alone, .ref o_row, .int o_told, .ref o_toldSymbols, .ref o_toldNumbers, .int o_place, .int o_fail, .int o_found, .int o_symbolCount, .int o_distanceCount, .int o_lengthCount])), (o_text, .inl (o_text_c, o_text_n, .inl (upd o_text_v (o_textSize).toNatClampNeg x1)))] := hD
        refine lv_aload_n hx hb dX11_feed_34 rfl (lv_at hl 0 rfl) ?_
        refine lv_dup hx hb dX11_feed_35 rfl ?_
        refine va_get (D := (dC, dI)) (ci := 11) (v := .int o_textSize) (C := RX11) (T := TX11) (N := 38) hx hb hts i_X11 hown hK hP 0 rfl rfl 4 (by decide) (hts _ k_841) (fun _ h9 => h9) rfl dX11_feed_36 ?_
        refine lv_iconst (v := (1 : Int32)) hx hb dX11_feed_39 (by decide) ?_
        refine lv_iadd hx hb dX11_feed_40 ?_
        refine va_put (D := (dC, dI)) (ci := 11) (v := .int (o_textSize + (1 : Int32))) (ty := .int) (C := RX11) (T := TX11) (N := 38) hx hb hts i_X11 tyX11 tyX11_ok nmX11 hown hK hP hD hS 0 rfl rfl 4 (by decide) (hts _ k_841) (fun _ h9 => h9) rfl (by decide +kernel) rfl rfl (Nat.le_of_ble_eq_true rfl) dX11_feed_41 (fun H locs hP hD hS => ?_)
        replace hP : va_P (dC, dI) fb_cl [(o, .inr (11, [.int o_textRoom, .int o_byteRoom, .int o_chain, .ref o_text, .int (o_textSize + (1 : Int32)), .ref o_packed, .int o_packedSize, .int o_matches, .ref o_loaded, .int o_loadedSize, .ref o_out, .int o_outSize, .int o_bits, .int o_tokens, .ref o_lengths, .ref o_distances, .ref o_heads, .ref o_earlier, .ref o_often, .ref o_symbolLengths, .ref o_distanceLengths, .ref o_lengthLengths, .ref o_symbolCodes, .ref o_distanceCodes, .ref o_lengthCodes, .ref o_counts, .ref o_parents, .ref o_alone, .ref o_row, .int o_told, .ref o_toldSymbols, .ref o_toldNumbers, .int o_place, .int o_fail, .int o_found, .int o_symbolCount, .int o_distanceCount, .int o_lengthCount])), (o_text, .inl (o_text_c, o_text_n, .inl (upd o_text_v (o_textSize).toNatClampNeg x1)))] H := hP
        replace hD : va_D A [(o, .inr (11, [.int o_textRoom, .int o_byteRoom, .int o_chain, .ref o_text, .int (o_textSize + (1 : Int32)), .ref o_packed, .int o_packedSize, .int o_matches, .ref o_loaded, .int o_loadedSize, .ref o_out, .int o_outSize, .int o_bits, .int o_tokens, .ref o_lengths, .ref o_distances, .ref o_heads, .ref o_earlier, .ref o_often, .ref o_symbolLengths, .ref o_distanceLengths, .ref o_lengthLengths, .ref o_symbolCodes, .ref o_distanceCodes, .ref o_lengthCodes, .ref o_counts, .ref o_parents, .ref o_alone, .ref o_row, .int o_told, .ref o_toldSymbols, .ref o_toldNumbers, .int o_place, .int o_fail, .int o_found, .int o_symbolCount, .int o_distanceCount, .int o_lengthCount])), (o_text, .inl (o_text_c, o_text_n, .inl (upd o_text_v (o_textSize).toNatClampNeg x1)))] := hD
        refine lv_iconst (v := (1 : Int32)) hx hb dX11_feed_44 (by decide) ?_
        have hu := Option.some.inj h
        exact hret _ _ _ _ _ dX11_feed_45 rfl (by rw [← hu]) (by rw [← hu]; exact hP) (by rw [← hu]; exact hD) hS
      · replace h := fb_t c3 h
        refine lv_iconst (v := (0 : Int32)) hx hb dX11_feed_22 (by decide) ?_
        have hu := Option.some.inj h
        exact hret _ _ _ _ _ dX11_feed_23 rfl (by rw [← hu]) (by rw [← hu]; exact hP) (by rw [← hu]; exact hD) hS
theorem dX11_again_0 : decode cX11_again 0 = .ok (.iload_n 1, 1) := by decide +kernel
theorem dX11_again_1 : decode cX11_again 1 = .ok (.iconst 1, 1) := by decide +kernel
theorem dX11_again_2 : decode cX11_again 2 = .ok (.if_icmp .lt 48, 3) := by decide +kernel
theorem dX11_again_5 : decode cX11_again 5 = .ok (.iload_n 1, 1) := by decide +kernel
theorem dX11_again_6 : decode cX11_again 6 = .ok (.sipush 258, 3) := by decide +kernel
theorem dX11_again_9 : decode cX11_again 9 = .ok (.if_icmp .gt 41, 3) := by decide +kernel
theorem dX11_again_12 : decode cX11_again 12 = .ok (.iload_n 1, 1) := by decide +kernel
theorem dX11_again_13 : decode cX11_again 13 = .ok (.aload_n 0, 1) := by decide +kernel
theorem dX11_again_14 : decode cX11_again 14 = .ok (.getfield 90, 3) := by decide +kernel
theorem dX11_again_17 : decode cX11_again 17 = .ok (.if_icmp .gt 33, 3) := by decide +kernel
theorem dX11_again_20 : decode cX11_again 20 = .ok (.iload_n 2, 1) := by decide +kernel
theorem dX11_again_21 : decode cX11_again 21 = .ok (.iconst 1, 1) := by decide +kernel
theorem dX11_again_22 : decode cX11_again 22 = .ok (.if_icmp .lt 28, 3) := by decide +kernel
theorem dX11_again_25 : decode cX11_again 25 = .ok (.iload_n 2, 1) := by decide +kernel
theorem dX11_again_26 : decode cX11_again 26 = .ok (.ldc 7, 2) := by decide +kernel
theorem dX11_again_28 : decode cX11_again 28 = .ok (.if_icmp .gt 22, 3) := by decide +kernel
theorem dX11_again_31 : decode cX11_again 31 = .ok (.iload_n 1, 1) := by decide +kernel
theorem dX11_again_32 : decode cX11_again 32 = .ok (.i2l, 1) := by decide +kernel
theorem dX11_again_33 : decode cX11_again 33 = .ok (.iload_n 2, 1) := by decide +kernel
theorem dX11_again_34 : decode cX11_again 34 = .ok (.i2l, 1) := by decide +kernel
theorem dX11_again_35 : decode cX11_again 35 = .ok (.lmul, 1) := by decide +kernel
theorem dX11_again_36 : decode cX11_again 36 = .ok (.aload_n 0, 1) := by decide +kernel
theorem dX11_again_37 : decode cX11_again 37 = .ok (.getfield 80, 3) := by decide +kernel
theorem dX11_again_40 : decode cX11_again 40 = .ok (.aload_n 0, 1) := by decide +kernel
theorem dX11_again_41 : decode cX11_again 41 = .ok (.getfield 90, 3) := by decide +kernel
theorem dX11_again_44 : decode cX11_again 44 = .ok (.isub, 1) := by decide +kernel
theorem dX11_again_45 : decode cX11_again 45 = .ok (.i2l, 1) := by decide +kernel
theorem dX11_again_46 : decode cX11_again 46 = .ok (.lcmp, 1) := by decide +kernel
theorem dX11_again_47 : decode cX11_again 47 = .ok (.ifCond .le 5, 3) := by decide +kernel
theorem dX11_again_50 : decode cX11_again 50 = .ok (.iconst (-1), 1) := by decide +kernel
theorem dX11_again_51 : decode cX11_again 51 = .ok (.ireturn, 1) := by decide +kernel
theorem dX11_again_52 : decode cX11_again 52 = .ok (.iconst 0, 1) := by decide +kernel
theorem dX11_again_53 : decode cX11_again 53 = .ok (.istore_n 3, 1) := by decide +kernel
theorem dX11_again_54 : decode cX11_again 54 = .ok (.iload_n 3, 1) := by decide +kernel
theorem dX11_again_55 : decode cX11_again 55 = .ok (.iload_n 1, 1) := by decide +kernel
theorem dX11_again_56 : decode cX11_again 56 = .ok (.iload_n 2, 1) := by decide +kernel
theorem dX11_again_57 : decode cX11_again 57 = .ok (.imul, 1) := by decide +kernel
theorem dX11_again_58 : decode cX11_again 58 = .ok (.if_icmp .ge 39, 3) := by decide +kernel
theorem dX11_again_61 : decode cX11_again 61 = .ok (.aload_n 0, 1) := by decide +kernel
theorem dX11_again_62 : decode cX11_again 62 = .ok (.getfield 8, 3) := by decide +kernel
theorem dX11_again_65 : decode cX11_again 65 = .ok (.aload_n 0, 1) := by decide +kernel
theorem dX11_again_66 : decode cX11_again 66 = .ok (.getfield 90, 3) := by decide +kernel
theorem dX11_again_69 : decode cX11_again 69 = .ok (.aload_n 0, 1) := by decide +kernel
theorem dX11_again_70 : decode cX11_again 70 = .ok (.getfield 8, 3) := by decide +kernel
theorem dX11_again_73 : decode cX11_again 73 = .ok (.aload_n 0, 1) := by decide +kernel
theorem dX11_again_74 : decode cX11_again 74 = .ok (.getfield 90, 3) := by decide +kernel
theorem dX11_again_77 : decode cX11_again 77 = .ok (.iload_n 1, 1) := by decide +kernel
theorem dX11_again_78 : decode cX11_again 78 = .ok (.isub, 1) := by decide +kernel
theorem dX11_again_79 : decode cX11_again 79 = .ok (.iaload, 1) := by decide +kernel
theorem dX11_again_80 : decode cX11_again 80 = .ok (.iastore, 1) := by decide +kernel
theorem dX11_again_81 : decode cX11_again 81 = .ok (.aload_n 0, 1) := by decide +kernel
theorem dX11_again_82 : decode cX11_again 82 = .ok (.dup, 1) := by decide +kernel
theorem dX11_again_83 : decode cX11_again 83 = .ok (.getfield 90, 3) := by decide +kernel
theorem dX11_again_86 : decode cX11_again 86 = .ok (.iconst 1, 1) := by decide +kernel
theorem dX11_again_87 : decode cX11_again 87 = .ok (.iadd, 1) := by decide +kernel
theorem dX11_again_88 : decode cX11_again 88 = .ok (.putfield 90, 3) := by decide +kernel
theorem dX11_again_91 : decode cX11_again 91 = .ok (.iinc 3 1, 3) := by decide +kernel
theorem dX11_again_94 : decode cX11_again 94 = .ok (.goto (-40), 3) := by decide +kernel
theorem dX11_again_97 : decode cX11_again 97 = .ok (.aload_n 0, 1) := by decide +kernel
theorem dX11_again_98 : decode cX11_again 98 = .ok (.getfield 90, 3) := by decide +kernel
theorem dX11_again_101 : decode cX11_again 101 = .ok (.ireturn, 1) := by decide +kernel
def pX11_again_b54 (o_text_n : Nat) (x1 : Int32) (x2 : Int32)  : Nat → Int32 → (Nat → Int32) → Int32 → Option (Int32 × Int32 × (Nat → Int32))
  | 0 => fun _ _ _ => none
  | n + 1 => fun o_textSize o_text_v x3 =>
  if (x1 * x2) ≤ x3 then
  (some (o_textSize, o_textSize, o_text_v))
  else
  (if (o_textSize - x1) < 0 ∨ o_text_n ≤ ((o_textSize - x1)).toNatClampNeg then none else
  if o_textSize < 0 ∨ o_text_n ≤ (o_textSize).toNatClampNeg then none else
  (pX11_again_b54 o_text_n x1 x2 n) (o_textSize + (1 : Int32)) (upd o_text_v (o_textSize).toNatClampNeg (o_text_v ((o_textSize - x1)).toNatClampNeg)) (x3 + (1 : Int32)))
def pX11_again (o_text_n : Nat) (o_textRoom : Int32) (x1 : Int32) (x2 : Int32)  (o_textSize : Int32) (o_text_v : Nat → Int32) : Option (Int32 × Int32 × (Nat → Int32)) :=
  if x1 < (1 : Int32) then
  (some ((-1 : Int32), o_textSize, o_text_v))
  else
  (if (258 : Int32) < x1 then
  (some ((-1 : Int32), o_textSize, o_text_v))
  else
  (if o_textSize < x1 then
  (some ((-1 : Int32), o_textSize, o_text_v))
  else
  (if x2 < (1 : Int32) then
  (some ((-1 : Int32), o_textSize, o_text_v))
  else
  (if (70000 : Int32) < x2 then
  (some ((-1 : Int32), o_textSize, o_text_v))
  else
  (if (lg_cmp (((x1).toInt64) * ((x2).toInt64)) (((o_textRoom - o_textSize)).toInt64)) ≤ 0 then
  (pX11_again_b54 o_text_n x1 x2 fb_F o_textSize o_text_v (0 : Int32))
  else
  (some ((-1 : Int32), o_textSize, o_text_v)))))))
theorem hdX11_again : yX11_again.cls = RX11 ∧ yX11_again.cls ≠ "java/lang/invoke/MethodHandle" ∧ yX11_again.cls ≠ "java/lang/invoke/VarHandle" ∧ (parseMethodDescriptor yX11_again.desc).map (fun d => d.parameters.length) = some 2 := by decide +kernel
set_option maxHeartbeats 8000000 in
set_option maxRecDepth 100000 in
theorem mX11_again (l : Launch) (dC : Nat → ClassId) (dI : Nat → Nat → Nat) (o : Nat) (o_text : Nat) (o_packed : Nat) (o_loaded : Nat) (o_out : Nat) (o_lengths : Nat) (o_distances : Nat) (o_heads : Nat) (o_earlier : Nat) (o_often : Nat) (o_symbolLengths : Nat) (o_distanceLengths : Nat) (o_lengthLengths : Nat) (o_symbolCodes : Nat) (o_distanceCodes : Nat) (o_lengthCodes : Nat) (o_counts : Nat) (o_parents : Nat) (o_alone : Nat) (o_row : Nat) (o_toldSymbols : Nat) (o_toldNumbers : Nat) (o_text_c : ClassId) (o_text_n : Nat) (o_textRoom : Int32) (o_byteRoom : Int32) (o_chain : Int32) (o_textSize : Int32) (o_packedSize : Int32) (o_matches : Int32) (o_loadedSize : Int32) (o_outSize : Int32) (o_bits : Int32) (o_tokens : Int32) (o_told : Int32) (o_place : Int32) (o_fail : Int32) (o_found : Int32) (o_symbolCount : Int32) (o_distanceCount : Int32) (o_lengthCount : Int32) (o_text_v : Nat → Int32) (x1 : Int32) (x2 : Int32) (sz : Nat) (u : Int32 × Int32 × (Nat → Int32)) (h : pX11_again o_text_n o_textRoom x1 x2 o_textSize o_text_v = some u) : Met l yX11_again (Cond.code yX11_again cX11_again 4 (some .int) :: fb_tb) ({ frames := 0, cells := 0, slots := 0, locals := 0 }) (fb_Pc (dC, dI) [.ref o, .int x1, .int x2] sz [(o_text_c, .int)] [(o, .inr (11, [.int o_textRoom, .int o_byteRoom, .int o_chain, .ref o_text, .int o_textSize, .ref o_packed, .int o_packedSize, .int o_matches, .ref o_loaded, .int o_loadedSize, .ref o_out, .int o_outSize, .int o_bits, .int o_tokens, .ref o_lengths, .ref o_distances, .ref o_heads, .ref o_earlier, .ref o_often, .ref o_symbolLengths, .ref o_distanceLengths, .ref o_lengthLengths, .ref o_symbolCodes, .ref o_distanceCodes, .ref o_lengthCodes, .ref o_counts, .ref o_parents, .ref o_alone, .ref o_row, .int o_told, .ref o_toldSymbols, .ref o_toldNumbers, .int o_place, .int o_fail, .int o_found, .int o_symbolCount, .int o_distanceCount, .int o_lengthCount])), (o_text, .inl (o_text_c, o_text_n, .inl o_text_v))]) (fb_Qi (dC, dI) u.1 [(o, .inr (11, [.int o_textRoom, .int o_byteRoom, .int o_chain, .ref o_text, .int u.2.1, .ref o_packed, .int o_packedSize, .int o_matches, .ref o_loaded, .int o_loadedSize, .ref o_out, .int o_outSize, .int o_bits, .int o_tokens, .ref o_lengths, .ref o_distances, .ref o_heads, .ref o_earlier, .ref o_often, .ref o_symbolLengths, .ref o_distanceLengths, .ref o_lengthLengths, .ref o_symbolCodes, .ref o_distanceCodes, .ref o_lengthCodes, .ref o_counts, .ref o_parents, .ref o_alone, .ref o_row, .int o_told, .ref o_toldSymbols, .ref o_toldNumbers, .int o_place, .int o_fail, .int o_found, .int o_symbolCount, .int o_distanceCount, .int o_lengthCount])), (o_text, .inl (o_text_c, o_text_n, .inl u.2.2))] (va_A [(o, .inr (11, [.int o_textRoom, .int o_byteRoom, .int o_chain, .ref o_text, .int o_textSize, .ref o_packed, .int o_packedSize, .int o_matches, .ref o_loaded, .int o_loadedSize, .ref o_out, .int o_outSize, .int o_bits, .int o_tokens, .ref o_lengths, .ref o_distances, .ref o_heads, .ref o_earlier, .ref o_often, .ref o_symbolLengths, .ref o_distanceLengths, .ref o_lengthLengths, .ref o_symbolCodes, .ref o_distanceCodes, .ref o_lengthCodes, .ref o_counts, .ref o_parents, .ref o_alone, .ref o_row, .int o_told, .ref o_toldSymbols, .ref o_toldNumbers, .int o_place, .int o_fail, .int o_found, .int o_symbolCount, .int o_distanceCount, .int o_lengthCount])), (o_text, .inl (o_text_c, o_text_n, .inl o_text_v))] sz)) 0 0 (va_A [(o, .inr (11, [.int o_textRoom, .int o_byteRoom, .int o_chain, .ref o_text, .int o_textSize, .ref o_packed, .int o_packedSize, .int o_matches, .ref o_loaded, .int o_loadedSize, .ref o_out, .int o_outSize, .int o_bits, .int o_tokens, .ref o_lengths, .ref o_distances, .ref o_heads, .ref o_earlier, .ref o_often, .ref o_symbolLengths, .ref o_distanceLengths, .ref o_lengthLengths, .ref o_symbolCodes, .ref o_distanceCodes, .ref o_lengthCodes, .ref o_counts, .ref o_parents, .ref o_alone, .ref o_row, .int o_told, .ref o_toldSymbols, .ref o_toldNumbers, .int o_place, .int o_fail, .int o_found, .int o_symbolCount, .int o_distanceCount, .int o_lengthCount])), (o_text, .inl (o_text_c, o_text_n, .inl o_text_v))] sz) := by
  refine fb_meti (ty := .int) (by decide) (Nat.le_of_ble_eq_true rfl) (fun p e s m args below meth c A Q ls H hx hb hml hown hts hP hK hN hZ hD hA hS hret hl => ?_)
  replace hl : lv_has ls 4 [(0, .ref o), (1, .int x1), (2, .int x2)] := hl
  have wB54 : ∀ n : Nat, ∀ (o_textSize : Int32) (o_text_v : Nat → Int32) (x3 : Int32) (H : Heap) (locs : List Loc) (ls : Array Slot), va_P (dC, dI) fb_cl [(o, .inr (11, [.int o_textRoom, .int o_byteRoom, .int o_chain, .ref o_text, .int o_textSize, .ref o_packed, .int o_packedSize, .int o_matches, .ref o_loaded, .int o_loadedSize, .ref o_out, .int o_outSize, .int o_bits, .int o_tokens, .ref o_lengths, .ref o_distances, .ref o_heads, .ref o_earlier, .ref o_often, .ref o_symbolLengths, .ref o_distanceLengths, .ref o_lengthLengths, .ref o_symbolCodes, .ref o_distanceCodes, .ref o_lengthCodes, .ref o_counts, .ref o_parents, .ref o_alone, .ref o_row, .int o_told, .ref o_toldSymbols, .ref o_toldNumbers, .int o_place, .int o_fail, .int o_found, .int o_symbolCount, .int o_distanceCount, .int o_lengthCount])), (o_text, .inl (o_text_c, o_text_n, .inl o_text_v))] H → va_D A [(o, .inr (11, [.int o_textRoom, .int o_byteRoom, .int o_chain, .ref o_text, .int o_textSize, .ref o_packed, .int o_packedSize, .int o_matches, .ref o_loaded, .int o_loadedSize, .ref o_out, .int o_outSize, .int o_bits, .int o_tokens, .ref o_lengths, .ref o_distances, .ref o_heads, .ref o_earlier, .ref o_often, .ref o_symbolLengths, .ref o_distanceLengths, .ref o_lengthLengths, .ref o_symbolCodes, .ref o_distanceCodes, .ref o_lengthCodes, .ref o_counts, .ref o_parents, .ref o_alone, .ref o_row, .int o_told, .ref o_toldSymbols, .ref o_toldNumbers, .int o_place, .int o_fail, .int o_found, .int o_symbolCount, .int o_distanceCount, .int o_lengthCount])), (o_text, .inl (o_text_c, o_text_n, .inl o_text_v))] → va_S A s.heap H locs → lv_has ls 4 [(0, .ref o), (1, .int x1), (2, .int x2), (3, .int x3)] → pX11_again_b54 o_text_n x1 x2 n o_textSize o_text_v x3 = some u → W p l e ({ frames := 0, cells := 0, slots := 0, locals := 0 }) s m args below meth c H locs 0 0 Q (F0 m 54 ls []) := by
    intro n
    induction n with
    | zero => intro o_textSize o_text_v x3 H locs ls hP hD hS hl h; cases h
    | succ n ih =>
      intro o_textSize o_text_v x3 H locs ls hP hD hS hl h
      rw [pX11_again_b54] at h
      refine lv_iload_n hx hb dX11_again_54 rfl (lv_at hl 3 rfl) ?_
      refine lv_iload_n hx hb dX11_again_55 rfl (lv_at hl 1 rfl) ?_
      refine lv_iload_n hx hb dX11_again_56 rfl (lv_at hl 2 rfl) ?_
      refine lv_imul hx hb dX11_again_57 ?_
      refine lv_icmp_ge (tgt := 97) hx hb dX11_again_58 (by decide) (fun c1 => ?_) (fun c1 => ?_)
      · replace h := fb_t c1 h
        refine lv_aload_n hx hb dX11_again_97 rfl (lv_at hl 0 rfl) ?_
        refine va_get (D := (dC, dI)) (ci := 11) (v := .int o_textSize) (C := RX11) (T := TX11) (N := 38) hx hb hts i_X11 hown hK hP 0 rfl rfl 4 (by decide) (hts _ k_841) (fun _ h9 => h9) rfl dX11_again_98 ?_
        have hu := Option.some.inj h
        exact hret _ _ _ _ _ dX11_again_101 rfl (by rw [← hu]) (by rw [← hu]; exact hP) (by rw [← hu]; exact hD) hS
      · replace h := fb_f c1 h
        refine lv_aload_n hx hb dX11_again_61 rfl (lv_at hl 0 rfl) ?_
        refine va_get (D := (dC, dI)) (ci := 11) (v := .ref o_text) (C := RX11) (T := TX11) (N := 38) hx hb hts i_X11 hown hK hP 0 rfl rfl 3 (by decide) (hts _ k_840) (fun _ h9 => h9) rfl dX11_again_62 ?_
        refine lv_aload_n hx hb dX11_again_65 rfl (lv_at hl 0 rfl) ?_
        refine va_get (D := (dC, dI)) (ci := 11) (v := .int o_textSize) (C := RX11) (T := TX11) (N := 38) hx hb hts i_X11 hown hK hP 0 rfl rfl 4 (by decide) (hts _ k_841) (fun _ h9 => h9) rfl dX11_again_66 ?_
        refine lv_aload_n hx hb dX11_again_69 rfl (lv_at hl 0 rfl) ?_
        refine va_get (D := (dC, dI)) (ci := 11) (v := .ref o_text) (C := RX11) (T := TX11) (N := 38) hx hb hts i_X11 hown hK hP 0 rfl rfl 3 (by decide) (hts _ k_840) (fun _ h9 => h9) rfl dX11_again_70 ?_
        refine lv_aload_n hx hb dX11_again_73 rfl (lv_at hl 0 rfl) ?_
        refine va_get (D := (dC, dI)) (ci := 11) (v := .int o_textSize) (C := RX11) (T := TX11) (N := 38) hx hb hts i_X11 hown hK hP 0 rfl rfl 4 (by decide) (hts _ k_841) (fun _ h9 => h9) rfl dX11_again_74 ?_
        refine lv_iload_n hx hb dX11_again_77 rfl (lv_at hl 1 rfl) ?_
        refine lv_isub hx hb dX11_again_78 ?_
        obtain ⟨g2, h⟩ := fb_g h
        refine va_iald hx hb hK hP 1 0 rfl rfl g2 dX11_again_79 ?_
        obtain ⟨g3, h⟩ := fb_g h
        refine va_iast hx hb hK hP hD hS 1 0 rfl rfl g3 dX11_again_80 (fun H locs hP hD hS => ?_)
        replace hP : va_P (dC, dI) fb_cl [(o, .inr (11, [.int o_textRoom, .int o_byteRoom, .int o_chain, .ref o_text, .int o_textSize, .ref o_packed, .int o_packedSize, .int o_matches, .ref o_loaded, .int o_loadedSize, .ref o_out, .int o_outSize, .int o_bits, .int o_tokens, .ref o_lengths, .ref o_distances, .ref o_heads, .ref o_earlier, .ref o_often, .ref o_symbolLengths, .ref o_distanceLengths, .ref o_lengthLengths, .ref o_symbolCodes, .ref o_distanceCodes, .ref o_lengthCodes, .ref o_counts, .ref o_parents, .ref o_alone, .ref o_row, .int o_told, .ref o_toldSymbols, .ref o_toldNumbers, .int o_place, .int o_fail, .int o_found, .int o_symbolCount, .int o_distanceCount, .int o_lengthCount])), (o_text, .inl (o_text_c, o_text_n, .inl (upd o_text_v (o_textSize).toNatClampNeg (o_text_v ((o_textSize - x1)).toNatClampNeg))))] H := hP
        replace hD : va_D A [(o, .inr (11, [.int o_textRoom, .int o_byteRoom, .int o_chain, .ref o_text, .int o_textSize, .ref o_packed, .int o_packedSize, .int o_matches, .ref o_loaded, .int o_loadedSize, .ref o_out, .int o_outSize, .int o_bits, .int o_tokens, .ref o_lengths, .ref o_distances, .ref o_heads, .ref o_earlier, .ref o_often, .ref o_symbolLengths, .ref o_distanceLengths, .ref o_lengthLengths, .ref o_symbolCodes, .ref o_distanceCodes, .ref o_lengthCodes, .ref o_counts, .ref o_parents, .ref o_alone, .ref o_row, .int o_told, .ref o_toldSymbols, .ref o_toldNumbers, .int o_place, .int o_fail, .int o_found, .int o_symbolCount, .int o_distanceCount, .int o_lengthCount])), (o_text, .inl (o_text_c, o_text_n, .inl (upd o_text_v (o_textSize).toNatClampNeg (o_text_v ((o_textSize - x1)).toNatClampNeg))))] := hD
        refine lv_aload_n hx hb dX11_again_81 rfl (lv_at hl 0 rfl) ?_
        refine lv_dup hx hb dX11_again_82 rfl ?_
        refine va_get (D := (dC, dI)) (ci := 11) (v := .int o_textSize) (C := RX11) (T := TX11) (N := 38) hx hb hts i_X11 hown hK hP 0 rfl rfl 4 (by decide) (hts _ k_841) (fun _ h9 => h9) rfl dX11_again_83 ?_
        refine lv_iconst (v := (1 : Int32)) hx hb dX11_again_86 (by decide) ?_
        refine lv_iadd hx hb dX11_again_87 ?_
        refine va_put (D := (dC, dI)) (ci := 11) (v := .int (o_textSize + (1 : Int32))) (ty := .int) (C := RX11) (T := TX11) (N := 38) hx hb hts i_X11 tyX11 tyX11_ok nmX11 hown hK hP hD hS 0 rfl rfl 4 (by decide) (hts _ k_841) (fun _ h9 => h9) rfl (by decide +kernel) rfl rfl (Nat.le_of_ble_eq_true rfl) dX11_again_88 (fun H locs hP hD hS => ?_)
        replace hP : va_P (dC, dI) fb_cl [(o, .inr (11, [.int o_textRoom, .int o_byteRoom, .int o_chain, .ref o_text, .int (o_textSize + (1 : Int32)), .ref o_packed, .int o_packedSize, .int o_matches, .ref o_loaded, .int o_loadedSize, .ref o_out, .int o_outSize, .int o_bits, .int o_tokens, .ref o_lengths, .ref o_distances, .ref o_heads, .ref o_earlier, .ref o_often, .ref o_symbolLengths, .ref o_distanceLengths, .ref o_lengthLengths, .ref o_symbolCodes, .ref o_distanceCodes, .ref o_lengthCodes, .ref o_counts, .ref o_parents, .ref o_alone, .ref o_row, .int o_told, .ref o_toldSymbols, .ref o_toldNumbers, .int o_place, .int o_fail, .int o_found, .int o_symbolCount, .int o_distanceCount, .int o_lengthCount])), (o_text, .inl (o_text_c, o_text_n, .inl (upd o_text_v (o_textSize).toNatClampNeg (o_text_v ((o_textSize - x1)).toNatClampNeg))))] H := hP
        replace hD : va_D A [(o, .inr (11, [.int o_textRoom, .int o_byteRoom, .int o_chain, .ref o_text, .int (o_textSize + (1 : Int32)), .ref o_packed, .int o_packedSize, .int o_matches, .ref o_loaded, .int o_loadedSize, .ref o_out, .int o_outSize, .int o_bits, .int o_tokens, .ref o_lengths, .ref o_distances, .ref o_heads, .ref o_earlier, .ref o_often, .ref o_symbolLengths, .ref o_distanceLengths, .ref o_lengthLengths, .ref o_symbolCodes, .ref o_distanceCodes, .ref o_lengthCodes, .ref o_counts, .ref o_parents, .ref o_alone, .ref o_row, .int o_told, .ref o_toldSymbols, .ref o_toldNumbers, .int o_place, .int o_fail, .int o_found, .int o_symbolCount, .int o_distanceCount, .int o_lengthCount])), (o_text, .inl (o_text_c, o_text_n, .inl (upd o_text_v (o_textSize).toNatClampNeg (o_text_v ((o_textSize - x1)).toNatClampNeg))))] := hD
        refine lv_iinc (v := (x3 + (1 : Int32))) (lv' := [(3, .int (x3 + (1 : Int32))), (0, .ref o), (1, .int x1), (2, .int x2)]) hx hb dX11_again_91 hl (k := 3) rfl rfl (by decide) rfl (fun ls hl => ?_)
        refine lv_goto (tgt := 54) hx hb dX11_again_94 (by decide) ?_
        exact ih (o_textSize + (1 : Int32)) (upd o_text_v (o_textSize).toNatClampNeg (o_text_v ((o_textSize - x1)).toNatClampNeg)) (x3 + (1 : Int32)) _ _ _ hP hD hS (lv_sub hl [1, 2, 3, 0] rfl) h
  unfold pX11_again at h
  refine lv_iload_n hx hb dX11_again_0 rfl (lv_at hl 1 rfl) ?_
  refine lv_iconst (v := (1 : Int32)) hx hb dX11_again_1 (by decide) ?_
  refine lv_icmp_lt (tgt := 50) hx hb dX11_again_2 (by decide) (fun c4 => ?_) (fun c4 => ?_)
  · replace h := fb_t c4 h
    refine lv_iconst (v := (-1 : Int32)) hx hb dX11_again_50 (by decide) ?_
    have hu := Option.some.inj h
    exact hret _ _ _ _ _ dX11_again_51 rfl (by rw [← hu]) (by rw [← hu]; exact hP) (by rw [← hu]; exact hD) hS
  · replace h := fb_f c4 h
    refine lv_iload_n hx hb dX11_again_5 rfl (lv_at hl 1 rfl) ?_
    refine lv_sipush (v := (258 : Int32)) hx hb dX11_again_6 (by decide) ?_
    refine lv_icmp_gt (tgt := 50) hx hb dX11_again_9 (by decide) (fun c5 => ?_) (fun c5 => ?_)
    · replace h := fb_t c5 h
      refine lv_iconst (v := (-1 : Int32)) hx hb dX11_again_50 (by decide) ?_
      have hu := Option.some.inj h
      exact hret _ _ _ _ _ dX11_again_51 rfl (by rw [← hu]) (by rw [← hu]; exact hP) (by rw [← hu]; exact hD) hS
    · replace h := fb_f c5 h
      refine lv_iload_n hx hb dX11_again_12 rfl (lv_at hl 1 rfl) ?_
      refine lv_aload_n hx hb dX11_again_13 rfl (lv_at hl 0 rfl) ?_
      refine va_get (D := (dC, dI)) (ci := 11) (v := .int o_textSize) (C := RX11) (T := TX11) (N := 38) hx hb hts i_X11 hown hK hP 0 rfl rfl 4 (by decide) (hts _ k_841) (fun _ h9 => h9) rfl dX11_again_14 ?_
      refine lv_icmp_gt (tgt := 50) hx hb dX11_again_17 (by decide) (fun c6 => ?_) (fun c6 => ?_)
      · replace h := fb_t c6 h
        refine lv_iconst (v := (-1 : Int32)) hx hb dX11_again_50 (by decide) ?_
        have hu := Option.some.inj h
        exact hret _ _ _ _ _ dX11_again_51 rfl (by rw [← hu]) (by rw [← hu]; exact hP) (by rw [← hu]; exact hD) hS
      · replace h := fb_f c6 h
        refine lv_iload_n hx hb dX11_again_20 rfl (lv_at hl 2 rfl) ?_
        refine lv_iconst (v := (1 : Int32)) hx hb dX11_again_21 (by decide) ?_
        refine lv_icmp_lt (tgt := 50) hx hb dX11_again_22 (by decide) (fun c7 => ?_) (fun c7 => ?_)
        · replace h := fb_t c7 h
          refine lv_iconst (v := (-1 : Int32)) hx hb dX11_again_50 (by decide) ?_
          have hu := Option.some.inj h
          exact hret _ _ _ _ _ dX11_again_51 rfl (by rw [← hu]) (by rw [← hu]; exact hP) (by rw [← hu]; exact hD) hS
        · replace h := fb_f c7 h
          refine lv_iload_n hx hb dX11_again_25 rfl (lv_at hl 2 rfl) ?_
          refine lv_ldc (v := (70000 : Int32)) hx hb hown (hts _ k_832) dX11_again_26 ?_
          refine lv_icmp_gt (tgt := 50) hx hb dX11_again_28 (by decide) (fun c8 => ?_) (fun c8 => ?_)
          · replace h := fb_t c8 h
            refine lv_iconst (v := (-1 : Int32)) hx hb dX11_again_50 (by decide) ?_
            have hu := Option.some.inj h
            exact hret _ _ _ _ _ dX11_again_51 rfl (by rw [← hu]) (by rw [← hu]; exact hP) (by rw [← hu]; exact hD) hS
          · replace h := fb_f c8 h
            refine lv_iload_n hx hb dX11_again_31 rfl (lv_at hl 1 rfl) ?_
            refine lv_i2l (v := (x1).toInt64) hx hb dX11_again_32 rfl ?_
            refine lv_iload_n hx hb dX11_again_33 rfl (lv_at hl 2 rfl) ?_
            refine lv_i2l (v := (x2).toInt64) hx hb dX11_again_34 rfl ?_
            refine lv_lmul hx hb dX11_again_35 ?_
            refine lv_aload_n hx hb dX11_again_36 rfl (lv_at hl 0 rfl) ?_
            refine va_get (D := (dC, dI)) (ci := 11) (v := .int o_textRoom) (C := RX11) (T := TX11) (N := 38) hx hb hts i_X11 hown hK hP 0 rfl rfl 0 (by decide) (hts _ k_837) (fun _ h9 => h9) rfl dX11_again_37 ?_
            refine lv_aload_n hx hb dX11_again_40 rfl (lv_at hl 0 rfl) ?_
            refine va_get (D := (dC, dI)) (ci := 11) (v := .int o_textSize) (C := RX11) (T := TX11) (N := 38) hx hb hts i_X11 hown hK hP 0 rfl rfl 4 (by decide) (hts _ k_841) (fun _ h9 => h9) rfl dX11_again_41 ?_
            refine lv_isub hx hb dX11_again_44 ?_
            refine lv_i2l (v := ((o_textRoom - o_textSize)).toInt64) hx hb dX11_again_45 rfl ?_
            refine W.lcmp hx hb dX11_again_46 ?_
            refine lv_if_le (tgt := 52) hx hb dX11_again_47 (by decide) (fun c9 => ?_) (fun c9 => ?_)
            · replace h := fb_t c9 h
              refine lv_iconst (v := (0 : Int32)) hx hb dX11_again_52 (by decide) ?_
              refine lv_istore_n (lv' := [(3, .int (0 : Int32)), (0, .ref o), (1, .int x1), (2, .int x2)]) hx hb dX11_again_53 rfl hl (by decide) rfl (fun ls hl => ?_)
              exact wB54 fb_F o_textSize o_text_v (0 : Int32) _ _ _ hP hD hS (lv_sub hl [1, 2, 3, 0] rfl) h
            · replace h := fb_f c9 h
              refine lv_iconst (v := (-1 : Int32)) hx hb dX11_again_50 (by decide) ?_
              have hu := Option.some.inj h
              exact hret _ _ _ _ _ dX11_again_51 rfl (by rw [← hu]) (by rw [← hu]; exact hP) (by rw [← hu]; exact hD) hS
theorem dX11_packed_0 : decode cX11_packed 0 = .ok (.iload_n 1, 1) := by decide +kernel
theorem dX11_packed_1 : decode cX11_packed 1 = .ok (.ifCond .lt 20, 3) := by decide +kernel
theorem dX11_packed_4 : decode cX11_packed 4 = .ok (.iload_n 1, 1) := by decide +kernel
theorem dX11_packed_5 : decode cX11_packed 5 = .ok (.aload_n 0, 1) := by decide +kernel
theorem dX11_packed_6 : decode cX11_packed 6 = .ok (.getfield 93, 3) := by decide +kernel
theorem dX11_packed_9 : decode cX11_packed 9 = .ok (.if_icmp .ge 12, 3) := by decide +kernel
theorem dX11_packed_12 : decode cX11_packed 12 = .ok (.aload_n 0, 1) := by decide +kernel
theorem dX11_packed_13 : decode cX11_packed 13 = .ok (.getfield 15, 3) := by decide +kernel
theorem dX11_packed_16 : decode cX11_packed 16 = .ok (.iload_n 1, 1) := by decide +kernel
theorem dX11_packed_17 : decode cX11_packed 17 = .ok (.iaload, 1) := by decide +kernel
theorem dX11_packed_18 : decode cX11_packed 18 = .ok (.goto 4, 3) := by decide +kernel
theorem dX11_packed_21 : decode cX11_packed 21 = .ok (.iconst (-1), 1) := by decide +kernel
theorem dX11_packed_22 : decode cX11_packed 22 = .ok (.ireturn, 1) := by decide +kernel
def pX11_packed (o_packed_n : Nat) (o_packedSize : Int32) (o_packed_v : Nat → Int32) (x1 : Int32)   : Option (Int32) :=
  if x1 < 0 then
  (some ((-1 : Int32)))
  else
  (if o_packedSize ≤ x1 then
  (some ((-1 : Int32)))
  else
  (if x1 < 0 ∨ o_packed_n ≤ (x1).toNatClampNeg then none else
  some ((o_packed_v (x1).toNatClampNeg))))
theorem hdX11_packed : yX11_packed.cls = RX11 ∧ yX11_packed.cls ≠ "java/lang/invoke/MethodHandle" ∧ yX11_packed.cls ≠ "java/lang/invoke/VarHandle" ∧ (parseMethodDescriptor yX11_packed.desc).map (fun d => d.parameters.length) = some 1 := by decide +kernel
set_option maxHeartbeats 8000000 in
set_option maxRecDepth 100000 in
theorem mX11_packed (l : Launch) (dC : Nat → ClassId) (dI : Nat → Nat → Nat) (o : Nat) (o_packed : Nat) (o_text : Nat) (o_loaded : Nat) (o_out : Nat) (o_lengths : Nat) (o_distances : Nat) (o_heads : Nat) (o_earlier : Nat) (o_often : Nat) (o_symbolLengths : Nat) (o_distanceLengths : Nat) (o_lengthLengths : Nat) (o_symbolCodes : Nat) (o_distanceCodes : Nat) (o_lengthCodes : Nat) (o_counts : Nat) (o_parents : Nat) (o_alone : Nat) (o_row : Nat) (o_toldSymbols : Nat) (o_toldNumbers : Nat) (o_packed_c : ClassId) (o_packed_n : Nat) (o_textRoom : Int32) (o_byteRoom : Int32) (o_chain : Int32) (o_textSize : Int32) (o_packedSize : Int32) (o_matches : Int32) (o_loadedSize : Int32) (o_outSize : Int32) (o_bits : Int32) (o_tokens : Int32) (o_told : Int32) (o_place : Int32) (o_fail : Int32) (o_found : Int32) (o_symbolCount : Int32) (o_distanceCount : Int32) (o_lengthCount : Int32) (o_packed_v : Nat → Int32) (x1 : Int32) (sz : Nat) (u : Int32) (h : pX11_packed o_packed_n o_packedSize o_packed_v x1 = some u) : Met l yX11_packed (Cond.code yX11_packed cX11_packed 2 (some .int) :: fb_tb) ({ frames := 0, cells := 0, slots := 0, locals := 0 }) (fb_Pc (dC, dI) [.ref o, .int x1] sz [(o_packed_c, .int)] [(o, .inr (11, [.int o_textRoom, .int o_byteRoom, .int o_chain, .ref o_text, .int o_textSize, .ref o_packed, .int o_packedSize, .int o_matches, .ref o_loaded, .int o_loadedSize, .ref o_out, .int o_outSize, .int o_bits, .int o_tokens, .ref o_lengths, .ref o_distances, .ref o_heads, .ref o_earlier, .ref o_often, .ref o_symbolLengths, .ref o_distanceLengths, .ref o_lengthLengths, .ref o_symbolCodes, .ref o_distanceCodes, .ref o_lengthCodes, .ref o_counts, .ref o_parents, .ref o_alone, .ref o_row, .int o_told, .ref o_toldSymbols, .ref o_toldNumbers, .int o_place, .int o_fail, .int o_found, .int o_symbolCount, .int o_distanceCount, .int o_lengthCount])), (o_packed, .inl (o_packed_c, o_packed_n, .inl o_packed_v))]) (fb_Qi (dC, dI) u [(o, .inr (11, [.int o_textRoom, .int o_byteRoom, .int o_chain, .ref o_text, .int o_textSize, .ref o_packed, .int o_packedSize, .int o_matches, .ref o_loaded, .int o_loadedSize, .ref o_out, .int o_outSize, .int o_bits, .int o_tokens, .ref o_lengths, .ref o_distances, .ref o_heads, .ref o_earlier, .ref o_often, .ref o_symbolLengths, .ref o_distanceLengths, .ref o_lengthLengths, .ref o_symbolCodes, .ref o_distanceCodes, .ref o_lengthCodes, .ref o_counts, .ref o_parents, .ref o_alone, .ref o_row, .int o_told, .ref o_toldSymbols, .ref o_toldNumbers, .int o_place, .int o_fail, .int o_found, .int o_symbolCount, .int o_distanceCount, .int o_lengthCount])), (o_packed, .inl (o_packed_c, o_packed_n, .inl o_packed_v))] (va_A [(o, .inr (11, [.int o_textRoom, .int o_byteRoom, .int o_chain, .ref o_text, .int o_textSize, .ref o_packed, .int o_packedSize, .int o_matches, .ref o_loaded, .int o_loadedSize, .ref o_out, .int o_outSize, .int o_bits, .int o_tokens, .ref o_lengths, .ref o_distances, .ref o_heads, .ref o_earlier, .ref o_often, .ref o_symbolLengths, .ref o_distanceLengths, .ref o_lengthLengths, .ref o_symbolCodes, .ref o_distanceCodes, .ref o_lengthCodes, .ref o_counts, .ref o_parents, .ref o_alone, .ref o_row, .int o_told, .ref o_toldSymbols, .ref o_toldNumbers, .int o_place, .int o_fail, .int o_found, .int o_symbolCount, .int o_distanceCount, .int o_lengthCount])), (o_packed, .inl (o_packed_c, o_packed_n, .inl o_packed_v))] sz)) 0 0 (va_A [(o, .inr (11, [.int o_textRoom, .int o_byteRoom, .int o_chain, .ref o_text, .int o_textSize, .ref o_packed, .int o_packedSize, .int o_matches, .ref o_loaded, .int o_loadedSize, .ref o_out, .int o_outSize, .int o_bits, .int o_tokens, .ref o_lengths, .ref o_distances, .ref o_heads, .ref o_earlier, .ref o_often, .ref o_symbolLengths, .ref o_distanceLengths, .ref o_lengthLengths, .ref o_symbolCodes, .ref o_distanceCodes, .ref o_lengthCodes, .ref o_counts, .ref o_parents, .ref o_alone, .ref o_row, .int o_told, .ref o_toldSymbols, .ref o_toldNumbers, .int o_place, .int o_fail, .int o_found, .int o_symbolCount, .int o_distanceCount, .int o_lengthCount])), (o_packed, .inl (o_packed_c, o_packed_n, .inl o_packed_v))] sz) := by
  refine fb_meti (ty := .int) (by decide) (Nat.le_of_ble_eq_true rfl) (fun p e s m args below meth c A Q ls H hx hb hml hown hts hP hK hN hZ hD hA hS hret hl => ?_)
  replace hl : lv_has ls 2 [(0, .ref o), (1, .int x1)] := hl
  unfold pX11_packed at h
  refine lv_iload_n hx hb dX11_packed_0 rfl (lv_at hl 1 rfl) ?_
  refine lv_if_lt (tgt := 21) hx hb dX11_packed_1 (by decide) (fun c1 => ?_) (fun c1 => ?_)
  · replace h := fb_t c1 h
    refine lv_iconst (v := (-1 : Int32)) hx hb dX11_packed_21 (by decide) ?_
    have hu := Option.some.inj h
    exact hret _ _ _ _ _ dX11_packed_22 rfl (by rw [← hu]) hP hD hS
  · replace h := fb_f c1 h
    refine lv_iload_n hx hb dX11_packed_4 rfl (lv_at hl 1 rfl) ?_
    refine lv_aload_n hx hb dX11_packed_5 rfl (lv_at hl 0 rfl) ?_
    refine va_get (D := (dC, dI)) (ci := 11) (v := .int o_packedSize) (C := RX11) (T := TX11) (N := 38) hx hb hts i_X11 hown hK hP 0 rfl rfl 6 (by decide) (hts _ k_843) (fun _ h9 => h9) rfl dX11_packed_6 ?_
    refine lv_icmp_ge (tgt := 21) hx hb dX11_packed_9 (by decide) (fun c2 => ?_) (fun c2 => ?_)
    · replace h := fb_t c2 h
      refine lv_iconst (v := (-1 : Int32)) hx hb dX11_packed_21 (by decide) ?_
      have hu := Option.some.inj h
      exact hret _ _ _ _ _ dX11_packed_22 rfl (by rw [← hu]) hP hD hS
    · replace h := fb_f c2 h
      refine lv_aload_n hx hb dX11_packed_12 rfl (lv_at hl 0 rfl) ?_
      refine va_get (D := (dC, dI)) (ci := 11) (v := .ref o_packed) (C := RX11) (T := TX11) (N := 38) hx hb hts i_X11 hown hK hP 0 rfl rfl 5 (by decide) (hts _ k_842) (fun _ h9 => h9) rfl dX11_packed_13 ?_
      refine lv_iload_n hx hb dX11_packed_16 rfl (lv_at hl 1 rfl) ?_
      obtain ⟨g3, h⟩ := fb_g h
      refine va_iald hx hb hK hP 1 0 rfl rfl g3 dX11_packed_17 ?_
      refine lv_goto (tgt := 22) hx hb dX11_packed_18 (by decide) ?_
      have hu := Option.some.inj h
      exact hret _ _ _ _ _ dX11_packed_22 rfl (by rw [← hu]) hP hD hS
theorem dX11_load_0 : decode cX11_load 0 = .ok (.iload_n 1, 1) := by decide +kernel
theorem dX11_load_1 : decode cX11_load 1 = .ok (.ifCond .lt 21, 3) := by decide +kernel
theorem dX11_load_4 : decode cX11_load 4 = .ok (.iload_n 1, 1) := by decide +kernel
theorem dX11_load_5 : decode cX11_load 5 = .ok (.sipush 255, 3) := by decide +kernel
theorem dX11_load_8 : decode cX11_load 8 = .ok (.if_icmp .gt 14, 3) := by decide +kernel
theorem dX11_load_11 : decode cX11_load 11 = .ok (.aload_n 0, 1) := by decide +kernel
theorem dX11_load_12 : decode cX11_load 12 = .ok (.getfield 96, 3) := by decide +kernel
theorem dX11_load_15 : decode cX11_load 15 = .ok (.aload_n 0, 1) := by decide +kernel
theorem dX11_load_16 : decode cX11_load 16 = .ok (.getfield 84, 3) := by decide +kernel
theorem dX11_load_19 : decode cX11_load 19 = .ok (.if_icmp .ne 5, 3) := by decide +kernel
theorem dX11_load_22 : decode cX11_load 22 = .ok (.iconst 0, 1) := by decide +kernel
theorem dX11_load_23 : decode cX11_load 23 = .ok (.ireturn, 1) := by decide +kernel
theorem dX11_load_24 : decode cX11_load 24 = .ok (.aload_n 0, 1) := by decide +kernel
theorem dX11_load_25 : decode cX11_load 25 = .ok (.getfield 18, 3) := by decide +kernel
theorem dX11_load_28 : decode cX11_load 28 = .ok (.aload_n 0, 1) := by decide +kernel
theorem dX11_load_29 : decode cX11_load 29 = .ok (.getfield 96, 3) := by decide +kernel
theorem dX11_load_32 : decode cX11_load 32 = .ok (.iload_n 1, 1) := by decide +kernel
theorem dX11_load_33 : decode cX11_load 33 = .ok (.iastore, 1) := by decide +kernel
theorem dX11_load_34 : decode cX11_load 34 = .ok (.aload_n 0, 1) := by decide +kernel
theorem dX11_load_35 : decode cX11_load 35 = .ok (.dup, 1) := by decide +kernel
theorem dX11_load_36 : decode cX11_load 36 = .ok (.getfield 96, 3) := by decide +kernel
theorem dX11_load_39 : decode cX11_load 39 = .ok (.iconst 1, 1) := by decide +kernel
theorem dX11_load_40 : decode cX11_load 40 = .ok (.iadd, 1) := by decide +kernel
theorem dX11_load_41 : decode cX11_load 41 = .ok (.putfield 96, 3) := by decide +kernel
theorem dX11_load_44 : decode cX11_load 44 = .ok (.iconst 1, 1) := by decide +kernel
theorem dX11_load_45 : decode cX11_load 45 = .ok (.ireturn, 1) := by decide +kernel
def pX11_load (o_loaded_n : Nat) (o_byteRoom : Int32) (x1 : Int32)  (o_loadedSize : Int32) (o_loaded_v : Nat → Int32) : Option (Int32 × Int32 × (Nat → Int32)) :=
  if x1 < 0 then
  (some ((0 : Int32), o_loadedSize, o_loaded_v))
  else
  (if (255 : Int32) < x1 then
  (some ((0 : Int32), o_loadedSize, o_loaded_v))
  else
  (if o_loadedSize = o_byteRoom then
  (some ((0 : Int32), o_loadedSize, o_loaded_v))
  else
  (if o_loadedSize < 0 ∨ o_loaded_n ≤ (o_loadedSize).toNatClampNeg then none else
  some ((1 : Int32), (o_loadedSize + (1 : Int32)), (upd o_loaded_v (o_loadedSize).toNatClampNeg x1)))))
theorem hdX11_load : yX11_load.cls = RX11 ∧ yX11_load.cls ≠ "java/lang/invoke/MethodHandle" ∧ yX11_load.cls ≠ "java/lang/invoke/VarHandle" ∧ (parseMethodDescriptor yX11_load.desc).map (fun d => d.parameters.length) = some 1 := by decide +kernel
set_option maxHeartbeats 8000000 in
set_option maxRecDepth 100000 in
theorem mX11_load (l : Launch) (dC : Nat → ClassId) (dI : Nat → Nat → Nat) (o : Nat) (o_loaded : Nat) (o_text : Nat) (o_packed : Nat) (o_out : Nat) (o_lengths : Nat) (o_distances : Nat) (o_heads : Nat) (o_earlier : Nat) (o_often : Nat) (o_symbolLengths : Nat) (o_distanceLengths : Nat) (o_lengthLengths : Nat) (o_symbolCodes : Nat) (o_distanceCodes : Nat) (o_lengthCodes : Nat) (o_counts : Nat) (o_parents : Nat) (o_alone : Nat) (o_row : Nat) (o_toldSymbols : Nat) (o_toldNumbers : Nat) (o_loaded_c : ClassId) (o_loaded_n : Nat) (o_textRoom : Int32) (o_byteRoom : Int32) (o_chain : Int32) (o_textSize : Int32) (o_packedSize : Int32) (o_matches : Int32) (o_loadedSize : Int32) (o_outSize : Int32) (o_bits : Int32) (o_tokens : Int32) (o_told : Int32) (o_place : Int32) (o_fail : Int32) (o_found : Int32) (o_symbolCount : Int32) (o_distanceCount : Int32) (o_lengthCount : Int32) (o_loaded_v : Nat → Int32) (x1 : Int32) (sz : Nat) (u : Int32 × Int32 × (Nat → Int32)) (h : pX11_load o_loaded_n o_byteRoom x1 o_loadedSize o_loaded_v = some u) : Met l yX11_load (Cond.code yX11_load cX11_load 2 (some .boolean) :: fb_tb) ({ frames := 0, cells := 0, slots := 0, locals := 0 }) (fb_Pc (dC, dI) [.ref o, .int x1] sz [(o_loaded_c, .int)] [(o, .inr (11, [.int o_textRoom, .int o_byteRoom, .int o_chain, .ref o_text, .int o_textSize, .ref o_packed, .int o_packedSize, .int o_matches, .ref o_loaded, .int o_loadedSize, .ref o_out, .int o_outSize, .int o_bits, .int o_tokens, .ref o_lengths, .ref o_distances, .ref o_heads, .ref o_earlier, .ref o_often, .ref o_symbolLengths, .ref o_distanceLengths, .ref o_lengthLengths, .ref o_symbolCodes, .ref o_distanceCodes, .ref o_lengthCodes, .ref o_counts, .ref o_parents, .ref o_alone, .ref o_row, .int o_told, .ref o_toldSymbols, .ref o_toldNumbers, .int o_place, .int o_fail, .int o_found, .int o_symbolCount, .int o_distanceCount, .int o_lengthCount])), (o_loaded, .inl (o_loaded_c, o_loaded_n, .inl o_loaded_v))]) (fb_Qi (dC, dI) u.1 [(o, .inr (11, [.int o_textRoom, .int o_byteRoom, .int o_chain, .ref o_text, .int o_textSize, .ref o_packed, .int o_packedSize, .int o_matches, .ref o_loaded, .int u.2.1, .ref o_out, .int o_outSize, .int o_bits, .int o_tokens, .ref o_lengths, .ref o_distances, .ref o_heads, .ref o_earlier, .ref o_often, .ref o_symbolLengths, .ref o_distanceLengths, .ref o_lengthLengths, .ref o_symbolCodes, .ref o_distanceCodes, .ref o_lengthCodes, .ref o_counts, .ref o_parents, .ref o_alone, .ref o_row, .int o_told, .ref o_toldSymbols, .ref o_toldNumbers, .int o_place, .int o_fail, .int o_found, .int o_symbolCount, .int o_distanceCount, .int o_lengthCount])), (o_loaded, .inl (o_loaded_c, o_loaded_n, .inl u.2.2))] (va_A [(o, .inr (11, [.int o_textRoom, .int o_byteRoom, .int o_chain, .ref o_text, .int o_textSize, .ref o_packed, .int o_packedSize, .int o_matches, .ref o_loaded, .int o_loadedSize, .ref o_out, .int o_outSize, .int o_bits, .int o_tokens, .ref o_lengths, .ref o_distances, .ref o_heads, .ref o_earlier, .ref o_often, .ref o_symbolLengths, .ref o_distanceLengths, .ref o_lengthLengths, .ref o_symbolCodes, .ref o_distanceCodes, .ref o_lengthCodes, .ref o_counts, .ref o_parents, .ref o_alone, .ref o_row, .int o_told, .ref o_toldSymbols, .ref o_toldNumbers, .int o_place, .int o_fail, .int o_found, .int o_symbolCount, .int o_distanceCount, .int o_lengthCount])), (o_loaded, .inl (o_loaded_c, o_loaded_n, .inl o_loaded_v))] sz)) 0 0 (va_A [(o, .inr (11, [.int o_textRoom, .int o_byteRoom, .int o_chain, .ref o_text, .int o_textSize, .ref o_packed, .int o_packedSize, .int o_matches, .ref o_loaded, .int o_loadedSize, .ref o_out, .int o_outSize, .int o_bits, .int o_tokens, .ref o_lengths, .ref o_distances, .ref o_heads, .ref o_earlier, .ref o_often, .ref o_symbolLengths, .ref o_distanceLengths, .ref o_lengthLengths, .ref o_symbolCodes, .ref o_distanceCodes, .ref o_lengthCodes, .ref o_counts, .ref o_parents, .ref o_alone, .ref o_row, .int o_told, .ref o_toldSymbols, .ref o_toldNumbers, .int o_place, .int o_fail, .int o_found, .int o_symbolCount, .int o_distanceCount, .int o_lengthCount])), (o_loaded, .inl (o_loaded_c, o_loaded_n, .inl o_loaded_v))] sz) := by
  refine fb_meti (ty := .boolean) (by decide) (Nat.le_of_ble_eq_true rfl) (fun p e s m args below meth c A Q ls H hx hb hml hown hts hP hK hN hZ hD hA hS hret hl => ?_)
  replace hl : lv_has ls 2 [(0, .ref o), (1, .int x1)] := hl
  unfold pX11_load at h
  refine lv_iload_n hx hb dX11_load_0 rfl (lv_at hl 1 rfl) ?_
  refine lv_if_lt (tgt := 22) hx hb dX11_load_1 (by decide) (fun c1 => ?_) (fun c1 => ?_)
  · replace h := fb_t c1 h
    refine lv_iconst (v := (0 : Int32)) hx hb dX11_load_22 (by decide) ?_
    have hu := Option.some.inj h
    exact hret _ _ _ _ _ dX11_load_23 rfl (by rw [← hu]) (by rw [← hu]; exact hP) (by rw [← hu]; exact hD) hS
  · replace h := fb_f c1 h
    refine lv_iload_n hx hb dX11_load_4 rfl (lv_at hl 1 rfl) ?_
    refine lv_sipush (v := (255 : Int32)) hx hb dX11_load_5 (by decide) ?_
    refine lv_icmp_gt (tgt := 22) hx hb dX11_load_8 (by decide) (fun c2 => ?_) (fun c2 => ?_)
    · replace h := fb_t c2 h
      refine lv_iconst (v := (0 : Int32)) hx hb dX11_load_22 (by decide) ?_
      have hu := Option.some.inj h
      exact hret _ _ _ _ _ dX11_load_23 rfl (by rw [← hu]) (by rw [← hu]; exact hP) (by rw [← hu]; exact hD) hS
    · replace h := fb_f c2 h
      refine lv_aload_n hx hb dX11_load_11 rfl (lv_at hl 0 rfl) ?_
      refine va_get (D := (dC, dI)) (ci := 11) (v := .int o_loadedSize) (C := RX11) (T := TX11) (N := 38) hx hb hts i_X11 hown hK hP 0 rfl rfl 9 (by decide) (hts _ k_846) (fun _ h9 => h9) rfl dX11_load_12 ?_
      refine lv_aload_n hx hb dX11_load_15 rfl (lv_at hl 0 rfl) ?_
      refine va_get (D := (dC, dI)) (ci := 11) (v := .int o_byteRoom) (C := RX11) (T := TX11) (N := 38) hx hb hts i_X11 hown hK hP 0 rfl rfl 1 (by decide) (hts _ k_838) (fun _ h9 => h9) rfl dX11_load_16 ?_
      refine lv_icmp_ne (tgt := 24) hx hb dX11_load_19 (by decide) (fun c3 => ?_) (fun c3 => ?_)
      · replace h := fb_f c3 h
        refine lv_aload_n hx hb dX11_load_24 rfl (lv_at hl 0 rfl) ?_
        refine va_get (D := (dC, dI)) (ci := 11) (v := .ref o_loaded) (C := RX11) (T := TX11) (N := 38) hx hb hts i_X11 hown hK hP 0 rfl rfl 8 (by decide) (hts _ k_845) (fun _ h9 => h9) rfl dX11_load_25 ?_
        refine lv_aload_n hx hb dX11_load_28 rfl (lv_at hl 0 rfl) ?_
        refine va_get (D := (dC, dI)) (ci := 11) (v := .int o_loadedSize) (C := RX11) (T := TX11) (N := 38) hx hb hts i_X11 hown hK hP 0 rfl rfl 9 (by decide) (hts _ k_846) (fun _ h9 => h9) rfl dX11_load_29 ?_
        refine lv_iload_n hx hb dX11_load_32 rfl (lv_at hl 1 rfl) ?_
        obtain ⟨g4, h⟩ := fb_g h
        refine va_iast hx hb hK hP hD hS 1 0 rfl rfl g4 dX11_load_33 (fun H locs hP hD hS => ?_)
        replace hP : va_P (dC, dI) fb_cl [(o, .inr (11, [.int o_textRoom, .int o_byteRoom, .int o_chain, .ref o_text, .int o_textSize, .ref o_packed, .int o_packedSize, .int o_matches, .ref o_loaded, .int o_loadedSize, .ref o_out, .int o_outSize, .int o_bits, .int o_tokens, .ref o_lengths, .ref o_distances, .ref o_heads, .ref o_earlier, .ref o_often, .ref o_symbolLengths, .ref o_distanceLengths, .ref o_lengthLengths, .ref o_symbolCodes, .ref o_distanceCodes, .ref o_lengthCodes, .ref o_counts, .ref o_parents, .ref o_alone, .ref o_row, .int o_told, .ref o_toldSymbols, .ref o_toldNumbers, .int o_place, .int o_fail, .int o_found, .int o_symbolCount, .int o_distanceCount, .int o_lengthCount])), (o_loaded, .inl (o_loaded_c, o_loaded_n, .inl (upd o_loaded_v (o_loadedSize).toNatClampNeg x1)))] H := hP
        replace hD : va_D A [(o, .inr (11, [.int o_textRoom, .int o_byteRoom, .int o_chain, .ref o_text, .int o_textSize, .ref o_packed, .int o_packedSize, .int o_matches, .ref o_loaded, .int o_loadedSize, .ref o_out, .int o_outSize, .int o_bits, .int o_tokens, .ref o_lengths, .ref o_distances, .ref o_heads, .ref o_earlier, .ref o_often, .ref o_symbolLengths, .ref o_distanceLengths, .ref o_lengthLengths, .ref o_symbolCodes, .ref o_distanceCodes, .ref o_lengthCodes, .ref o_counts, .ref o_parents, .ref o_alone, .ref o_row, .int o_told, .ref o_toldSymbols, .ref o_toldNumbers, .int o_place, .int o_fail, .int o_found, .int o_symbolCount, .int o_distanceCount, .int o_lengthCount])), (o_loaded, .inl (o_loaded_c, o_loaded_n, .inl (upd o_loaded_v (o_loadedSize).toNatClampNeg x1)))] := hD
        refine lv_aload_n hx hb dX11_load_34 rfl (lv_at hl 0 rfl) ?_
        refine lv_dup hx hb dX11_load_35 rfl ?_
        refine va_get (D := (dC, dI)) (ci := 11) (v := .int o_loadedSize) (C := RX11) (T := TX11) (N := 38) hx hb hts i_X11 hown hK hP 0 rfl rfl 9 (by decide) (hts _ k_846) (fun _ h9 => h9) rfl dX11_load_36 ?_
        refine lv_iconst (v := (1 : Int32)) hx hb dX11_load_39 (by decide) ?_
        refine lv_iadd hx hb dX11_load_40 ?_
        refine va_put (D := (dC, dI)) (ci := 11) (v := .int (o_loadedSize + (1 : Int32))) (ty := .int) (C := RX11) (T := TX11) (N := 38) hx hb hts i_X11 tyX11 tyX11_ok nmX11 hown hK hP hD hS 0 rfl rfl 9 (by decide) (hts _ k_846) (fun _ h9 => h9) rfl (by decide +kernel) rfl rfl (Nat.le_of_ble_eq_true rfl) dX11_load_41 (fun H locs hP hD hS => ?_)
        replace hP : va_P (dC, dI) fb_cl [(o, .inr (11, [.int o_textRoom, .int o_byteRoom, .int o_chain, .ref o_text, .int o_textSize, .ref o_packed, .int o_packedSize, .int o_matches, .ref o_loaded, .int (o_loadedSize + (1 : Int32)), .ref o_out, .int o_outSize, .int o_bits, .int o_tokens, .ref o_lengths, .ref o_distances, .ref o_heads, .ref o_earlier, .ref o_often, .ref o_symbolLengths, .ref o_distanceLengths, .ref o_lengthLengths, .ref o_symbolCodes, .ref o_distanceCodes, .ref o_lengthCodes, .ref o_counts, .ref o_parents, .ref o_alone, .ref o_row, .int o_told, .ref o_toldSymbols, .ref o_toldNumbers, .int o_place, .int o_fail, .int o_found, .int o_symbolCount, .int o_distanceCount, .int o_lengthCount])), (o_loaded, .inl (o_loaded_c, o_loaded_n, .inl (upd o_loaded_v (o_loadedSize).toNatClampNeg x1)))] H := hP
        replace hD : va_D A [(o, .inr (11, [.int o_textRoom, .int o_byteRoom, .int o_chain, .ref o_text, .int o_textSize, .ref o_packed, .int o_packedSize, .int o_matches, .ref o_loaded, .int (o_loadedSize + (1 : Int32)), .ref o_out, .int o_outSize, .int o_bits, .int o_tokens, .ref o_lengths, .ref o_distances, .ref o_heads, .ref o_earlier, .ref o_often, .ref o_symbolLengths, .ref o_distanceLengths, .ref o_lengthLengths, .ref o_symbolCodes, .ref o_distanceCodes, .ref o_lengthCodes, .ref o_counts, .ref o_parents, .ref o_alone, .ref o_row, .int o_told, .ref o_toldSymbols, .ref o_toldNumbers, .int o_place, .int o_fail, .int o_found, .int o_symbolCount, .int o_distanceCount, .int o_lengthCount])), (o_loaded, .inl (o_loaded_c, o_loaded_n, .inl (upd o_loaded_v (o_loadedSize).toNatClampNeg x1)))] := hD
        refine lv_iconst (v := (1 : Int32)) hx hb dX11_load_44 (by decide) ?_
        have hu := Option.some.inj h
        exact hret _ _ _ _ _ dX11_load_45 rfl (by rw [← hu]) (by rw [← hu]; exact hP) (by rw [← hu]; exact hD) hS
      · replace h := fb_t c3 h
        refine lv_iconst (v := (0 : Int32)) hx hb dX11_load_22 (by decide) ?_
        have hu := Option.some.inj h
        exact hret _ _ _ _ _ dX11_load_23 rfl (by rw [← hu]) (by rw [← hu]; exact hP) (by rw [← hu]; exact hD) hS
theorem dX11_take_0 : decode cX11_take 0 = .ok (.iconst 0, 1) := by decide +kernel
theorem dX11_take_1 : decode cX11_take 1 = .ok (.istore_n 1, 1) := by decide +kernel
theorem dX11_take_2 : decode cX11_take 2 = .ok (.iload_n 1, 1) := by decide +kernel
theorem dX11_take_3 : decode cX11_take 3 = .ok (.aload_n 0, 1) := by decide +kernel
theorem dX11_take_4 : decode cX11_take 4 = .ok (.getfield 93, 3) := by decide +kernel
theorem dX11_take_7 : decode cX11_take 7 = .ok (.if_icmp .ge 21, 3) := by decide +kernel
theorem dX11_take_10 : decode cX11_take 10 = .ok (.aload_n 0, 1) := by decide +kernel
theorem dX11_take_11 : decode cX11_take 11 = .ok (.getfield 18, 3) := by decide +kernel
theorem dX11_take_14 : decode cX11_take 14 = .ok (.iload_n 1, 1) := by decide +kernel
theorem dX11_take_15 : decode cX11_take 15 = .ok (.aload_n 0, 1) := by decide +kernel
theorem dX11_take_16 : decode cX11_take 16 = .ok (.getfield 15, 3) := by decide +kernel
theorem dX11_take_19 : decode cX11_take 19 = .ok (.iload_n 1, 1) := by decide +kernel
theorem dX11_take_20 : decode cX11_take 20 = .ok (.iaload, 1) := by decide +kernel
theorem dX11_take_21 : decode cX11_take 21 = .ok (.iastore, 1) := by decide +kernel
theorem dX11_take_22 : decode cX11_take 22 = .ok (.iinc 1 1, 3) := by decide +kernel
theorem dX11_take_25 : decode cX11_take 25 = .ok (.goto (-23), 3) := by decide +kernel
theorem dX11_take_28 : decode cX11_take 28 = .ok (.aload_n 0, 1) := by decide +kernel
theorem dX11_take_29 : decode cX11_take 29 = .ok (.aload_n 0, 1) := by decide +kernel
theorem dX11_take_30 : decode cX11_take 30 = .ok (.getfield 93, 3) := by decide +kernel
theorem dX11_take_33 : decode cX11_take 33 = .ok (.putfield 96, 3) := by decide +kernel
theorem dX11_take_36 : decode cX11_take 36 = .ok (.aload_n 0, 1) := by decide +kernel
theorem dX11_take_37 : decode cX11_take 37 = .ok (.getfield 96, 3) := by decide +kernel
theorem dX11_take_40 : decode cX11_take 40 = .ok (.ireturn, 1) := by decide +kernel
def pX11_take_b2 (o_packed_n : Nat) (o_loaded_n : Nat) (o_packedSize : Int32) (o_packed_v : Nat → Int32)  : Nat → (Nat → Int32) → Int32 → Option (Int32 × Int32 × (Nat → Int32))
  | 0 => fun _ _ => none
  | n + 1 => fun o_loaded_v x1 =>
  if o_packedSize ≤ x1 then
  (some (o_packedSize, o_packedSize, o_loaded_v))
  else
  (if x1 < 0 ∨ o_packed_n ≤ (x1).toNatClampNeg then none else
  if x1 < 0 ∨ o_loaded_n ≤ (x1).toNatClampNeg then none else
  (pX11_take_b2 o_packed_n o_loaded_n o_packedSize o_packed_v n) (upd o_loaded_v (x1).toNatClampNeg (o_packed_v (x1).toNatClampNeg)) (x1 + (1 : Int32)))
def pX11_take (o_packed_n : Nat) (o_loaded_n : Nat) (o_packedSize : Int32) (o_packed_v : Nat → Int32)  (o_loaded_v : Nat → Int32) : Option (Int32 × Int32 × (Nat → Int32)) :=
  pX11_take_b2 o_packed_n o_loaded_n o_packedSize o_packed_v fb_F o_loaded_v (0 : Int32)
theorem hdX11_take : yX11_take.cls = RX11 ∧ yX11_take.cls ≠ "java/lang/invoke/MethodHandle" ∧ yX11_take.cls ≠ "java/lang/invoke/VarHandle" ∧ (parseMethodDescriptor yX11_take.desc).map (fun d => d.parameters.length) = some 0 := by decide +kernel
set_option maxHeartbeats 8000000 in
set_option maxRecDepth 100000 in
theorem mX11_take (l : Launch) (dC : Nat → ClassId) (dI : Nat → Nat → Nat) (o : Nat) (o_packed : Nat) (o_loaded : Nat) (o_text : Nat) (o_out : Nat) (o_lengths : Nat) (o_distances : Nat) (o_heads : Nat) (o_earlier : Nat) (o_often : Nat) (o_symbolLengths : Nat) (o_distanceLengths : Nat) (o_lengthLengths : Nat) (o_symbolCodes : Nat) (o_distanceCodes : Nat) (o_lengthCodes : Nat) (o_counts : Nat) (o_parents : Nat) (o_alone : Nat) (o_row : Nat) (o_toldSymbols : Nat) (o_toldNumbers : Nat) (o_packed_c : ClassId) (o_loaded_c : ClassId) (o_packed_n : Nat) (o_loaded_n : Nat) (o_textRoom : Int32) (o_byteRoom : Int32) (o_chain : Int32) (o_textSize : Int32) (o_packedSize : Int32) (o_matches : Int32) (o_loadedSize : Int32) (o_outSize : Int32) (o_bits : Int32) (o_tokens : Int32) (o_told : Int32) (o_place : Int32) (o_fail : Int32) (o_found : Int32) (o_symbolCount : Int32) (o_distanceCount : Int32) (o_lengthCount : Int32) (o_packed_v : Nat → Int32) (o_loaded_v : Nat → Int32)  (sz : Nat) (u : Int32 × Int32 × (Nat → Int32)) (h : pX11_take o_packed_n o_loaded_n o_packedSize o_packed_v o_loaded_v = some u) : Met l yX11_take (Cond.code yX11_take cX11_take 2 (some .int) :: fb_tb) ({ frames := 0, cells := 0, slots := 0, locals := 0 }) (fb_Pc (dC, dI) [.ref o] sz [(o_packed_c, .int), (o_loaded_c, .int)] [(o, .inr (11, [.int o_textRoom, .int o_byteRoom, .int o_chain, .ref o_text, .int o_textSize, .ref o_packed, .int o_packedSize, .int o_matches, .ref o_loaded, .int o_loadedSize, .ref o_out, .int o_outSize, .int o_bits, .int o_tokens, .ref o_lengths, .ref o_distances, .ref o_heads, .ref o_earlier, .ref o_often, .ref o_symbolLengths, .ref o_distanceLengths, .ref o_lengthLengths, .ref o_symbolCodes, .ref o_distanceCodes, .ref o_lengthCodes, .ref o_counts, .ref o_parents, .ref o_alone, .ref o_row, .int o_told, .ref o_toldSymbols, .ref o_toldNumbers, .int o_place, .int o_fail, .int o_found, .int o_symbolCount, .int o_distanceCount, .int o_lengthCount])), (o_packed, .inl (o_packed_c, o_packed_n, .inl o_packed_v)), (o_loaded, .inl (o_loaded_c, o_loaded_n, .inl o_loaded_v))]) (fb_Qi (dC, dI) u.1 [(o, .inr (11, [.int o_textRoom, .int o_byteRoom, .int o_chain, .ref o_text, .int o_textSize, .ref o_packed, .int o_packedSize, .int o_matches, .ref o_loaded, .int u.2.1, .ref o_out, .int o_outSize, .int o_bits, .int o_tokens, .ref o_lengths, .ref o_distances, .ref o_heads, .ref o_earlier, .ref o_often, .ref o_symbolLengths, .ref o_distanceLengths, .ref o_lengthLengths, .ref o_symbolCodes, .ref o_distanceCodes, .ref o_lengthCodes, .ref o_counts, .ref o_parents, .ref o_alone, .ref o_row, .int o_told, .ref o_toldSymbols, .ref o_toldNumbers, .int o_place, .int o_fail, .int o_found, .int o_symbolCount, .int o_distanceCount, .int o_lengthCount])), (o_packed, .inl (o_packed_c, o_packed_n, .inl o_packed_v)), (o_loaded, .inl (o_loaded_c, o_loaded_n, .inl u.2.2))] (va_A [(o, .inr (11, [.int o_textRoom, .int o_byteRoom, .int o_chain, .ref o_text, .int o_textSize, .ref o_packed, .int o_packedSize, .int o_matches, .ref o_loaded, .int o_loadedSize, .ref o_out, .int o_outSize, .int o_bits, .int o_tokens, .ref o_lengths, .ref o_distances, .ref o_heads, .ref o_earlier, .ref o_often, .ref o_symbolLengths, .ref o_distanceLengths, .ref o_lengthLengths, .ref o_symbolCodes, .ref o_distanceCodes, .ref o_lengthCodes, .ref o_counts, .ref o_parents, .ref o_alone, .ref o_row, .int o_told, .ref o_toldSymbols, .ref o_toldNumbers, .int o_place, .int o_fail, .int o_found, .int o_symbolCount, .int o_distanceCount, .int o_lengthCount])), (o_packed, .inl (o_packed_c, o_packed_n, .inl o_packed_v)), (o_loaded, .inl (o_loaded_c, o_loaded_n, .inl o_loaded_v))] sz)) 0 0 (va_A [(o, .inr (11, [.int o_textRoom, .int o_byteRoom, .int o_chain, .ref o_text, .int o_textSize, .ref o_packed, .int o_packedSize, .int o_matches, .ref o_loaded, .int o_loadedSize, .ref o_out, .int o_outSize, .int o_bits, .int o_tokens, .ref o_lengths, .ref o_distances, .ref o_heads, .ref o_earlier, .ref o_often, .ref o_symbolLengths, .ref o_distanceLengths, .ref o_lengthLengths, .ref o_symbolCodes, .ref o_distanceCodes, .ref o_lengthCodes, .ref o_counts, .ref o_parents, .ref o_alone, .ref o_row, .int o_told, .ref o_toldSymbols, .ref o_toldNumbers, .int o_place, .int o_fail, .int o_found, .int o_symbolCount, .int o_distanceCount, .int o_lengthCount])), (o_packed, .inl (o_packed_c, o_packed_n, .inl o_packed_v)), (o_loaded, .inl (o_loaded_c, o_loaded_n, .inl o_loaded_v))] sz) := by
  refine fb_meti (ty := .int) (by decide) (Nat.le_of_ble_eq_true rfl) (fun p e s m args below meth c A Q ls H hx hb hml hown hts hP hK hN hZ hD hA hS hret hl => ?_)
  replace hl : lv_has ls 2 [(0, .ref o)] := hl
  have wB2 : ∀ n : Nat, ∀ (o_loadedSize : Int32) (o_loaded_v : Nat → Int32) (x1 : Int32) (H : Heap) (locs : List Loc) (ls : Array Slot), va_P (dC, dI) fb_cl [(o, .inr (11, [.int o_textRoom, .int o_byteRoom, .int o_chain, .ref o_text, .int o_textSize, .ref o_packed, .int o_packedSize, .int o_matches, .ref o_loaded, .int o_loadedSize, .ref o_out, .int o_outSize, .int o_bits, .int o_tokens, .ref o_lengths, .ref o_distances, .ref o_heads, .ref o_earlier, .ref o_often, .ref o_symbolLengths, .ref o_distanceLengths, .ref o_lengthLengths, .ref o_symbolCodes, .ref o_distanceCodes, .ref o_lengthCodes, .ref o_counts, .ref o_parents, .ref o_alone, .ref o_row, .int o_told, .ref o_toldSymbols, .ref o_toldNumbers, .int o_place, .int o_fail, .int o_found, .int o_symbolCount, .int o_distanceCount, .int o_lengthCount])), (o_packed, .inl (o_packed_c, o_packed_n, .inl o_packed_v)), (o_loaded, .inl (o_loaded_c, o_loaded_n, .inl o_loaded_v))] H → va_D A [(o, .inr (11, [.int o_textRoom, .int o_byteRoom, .int o_chain, .ref o_text, .int o_textSize, .ref o_packed, .int o_packedSize, .int o_matches, .ref o_loaded, .int o_loadedSize, .ref o_out, .int o_outSize, .int o_bits, .int o_tokens, .ref o_lengths, .ref o_distances, .ref o_heads, .ref o_earlier, .ref o_often, .ref o_symbolLengths, .ref o_distanceLengths, .ref o_lengthLengths, .ref o_symbolCodes, .ref o_distanceCodes, .ref o_lengthCodes, .ref o_counts, .ref o_parents, .ref o_alone, .ref o_row, .int o_told, .ref o_toldSymbols, .ref o_toldNumbers, .int o_place, .int o_fail, .int o_found, .int o_symbolCount, .int o_distanceCount, .int o_lengthCount])), (o_packed, .inl (o_packed_c, o_packed_n, .inl o_packed_v)), (o_loaded, .inl (o_loaded_c, o_loaded_n, .inl o_loaded_v))] → va_S A s.heap H locs → lv_has ls 2 [(0, .ref o), (1, .int x1)] → pX11_take_b2 o_packed_n o_loaded_n o_packedSize o_packed_v n o_loaded_v x1 = some u → W p l e ({ frames := 0, cells := 0, slots := 0, locals := 0 }) s m args below meth c H locs 0 0 Q (F0 m 2 ls []) := by
    intro n
    induction n with
    | zero => intro o_loadedSize o_loaded_v x1 H locs ls hP hD hS hl h; cases h
    | succ n ih =>
      intro o_loadedSize o_loaded_v x1 H locs ls hP hD hS hl h
      rw [pX11_take_b2] at h
      refine lv_iload_n hx hb dX11_take_2 rfl (lv_at hl 1 rfl) ?_
      refine lv_aload_n hx hb dX11_take_3 rfl (lv_at hl 0 rfl) ?_
      refine va_get (D := (dC, dI)) (ci := 11) (v := .int o_packedSize) (C := RX11) (T := TX11) (N := 38) hx hb hts i_X11 hown hK hP 0 rfl rfl 6 (by decide) (hts _ k_843) (fun _ h9 => h9) rfl dX11_take_4 ?_
      refine lv_icmp_ge (tgt := 28) hx hb dX11_take_7 (by decide) (fun c1 => ?_) (fun c1 => ?_)
      · replace h := fb_t c1 h
        refine lv_aload_n hx hb dX11_take_28 rfl (lv_at hl 0 rfl) ?_
        refine lv_aload_n hx hb dX11_take_29 rfl (lv_at hl 0 rfl) ?_
        refine va_get (D := (dC, dI)) (ci := 11) (v := .int o_packedSize) (C := RX11) (T := TX11) (N := 38) hx hb hts i_X11 hown hK hP 0 rfl rfl 6 (by decide) (hts _ k_843) (fun _ h9 => h9) rfl dX11_take_30 ?_
        refine va_put (D := (dC, dI)) (ci := 11) (v := .int o_packedSize) (ty := .int) (C := RX11) (T := TX11) (N := 38) hx hb hts i_X11 tyX11 tyX11_ok nmX11 hown hK hP hD hS 0 rfl rfl 9 (by decide) (hts _ k_846) (fun _ h9 => h9) rfl (by decide +kernel) rfl rfl (Nat.le_of_ble_eq_true rfl) dX11_take_33 (fun H locs hP hD hS => ?_)
        replace hP : va_P (dC, dI) fb_cl [(o, .inr (11, [.int o_textRoom, .int o_byteRoom, .int o_chain, .ref o_text, .int o_textSize, .ref o_packed, .int o_packedSize, .int o_matches, .ref o_loaded, .int o_packedSize, .ref o_out, .int o_outSize, .int o_bits, .int o_tokens, .ref o_lengths, .ref o_distances, .ref o_heads, .ref o_earlier, .ref o_often, .ref o_symbolLengths, .ref o_distanceLengths, .ref o_lengthLengths, .ref o_symbolCodes, .ref o_distanceCodes, .ref o_lengthCodes, .ref o_counts, .ref o_parents, .ref o_alone, .ref o_row, .int o_told, .ref o_toldSymbols, .ref o_toldNumbers, .int o_place, .int o_fail, .int o_found, .int o_symbolCount, .int o_distanceCount, .int o_lengthCount])), (o_packed, .inl (o_packed_c, o_packed_n, .inl o_packed_v)), (o_loaded, .inl (o_loaded_c, o_loaded_n, .inl o_loaded_v))] H := hP
        replace hD : va_D A [(o, .inr (11, [.int o_textRoom, .int o_byteRoom, .int o_chain, .ref o_text, .int o_textSize, .ref o_packed, .int o_packedSize, .int o_matches, .ref o_loaded, .int o_packedSize, .ref o_out, .int o_outSize, .int o_bits, .int o_tokens, .ref o_lengths, .ref o_distances, .ref o_heads, .ref o_earlier, .ref o_often, .ref o_symbolLengths, .ref o_distanceLengths, .ref o_lengthLengths, .ref o_symbolCodes, .ref o_distanceCodes, .ref o_lengthCodes, .ref o_counts, .ref o_parents, .ref o_alone, .ref o_row, .int o_told, .ref o_toldSymbols, .ref o_toldNumbers, .int o_place, .int o_fail, .int o_found, .int o_symbolCount, .int o_distanceCount, .int o_lengthCount])), (o_packed, .inl (o_packed_c, o_packed_n, .inl o_packed_v)), (o_loaded, .inl (o_loaded_c, o_loaded_n, .inl o_loaded_v))] := hD
        refine lv_aload_n hx hb dX11_take_36 rfl (lv_at hl 0 rfl) ?_
        refine va_get (D := (dC, dI)) (ci := 11) (v := .int o_packedSize) (C := RX11) (T := TX11) (N := 38) hx hb hts i_X11 hown hK hP 0 rfl rfl 9 (by decide) (hts _ k_846) (fun _ h9 => h9) rfl dX11_take_37 ?_
        have hu := Option.some.inj h
        exact hret _ _ _ _ _ dX11_take_40 rfl (by rw [← hu]) (by rw [← hu]; exact hP) (by rw [← hu]; exact hD) hS
      · replace h := fb_f c1 h
        refine lv_aload_n hx hb dX11_take_10 rfl (lv_at hl 0 rfl) ?_
        refine va_get (D := (dC, dI)) (ci := 11) (v := .ref o_loaded) (C := RX11) (T := TX11) (N := 38) hx hb hts i_X11 hown hK hP 0 rfl rfl 8 (by decide) (hts _ k_845) (fun _ h9 => h9) rfl dX11_take_11 ?_
        refine lv_iload_n hx hb dX11_take_14 rfl (lv_at hl 1 rfl) ?_
        refine lv_aload_n hx hb dX11_take_15 rfl (lv_at hl 0 rfl) ?_
        refine va_get (D := (dC, dI)) (ci := 11) (v := .ref o_packed) (C := RX11) (T := TX11) (N := 38) hx hb hts i_X11 hown hK hP 0 rfl rfl 5 (by decide) (hts _ k_842) (fun _ h9 => h9) rfl dX11_take_16 ?_
        refine lv_iload_n hx hb dX11_take_19 rfl (lv_at hl 1 rfl) ?_
        obtain ⟨g2, h⟩ := fb_g h
        refine va_iald hx hb hK hP 1 0 rfl rfl g2 dX11_take_20 ?_
        obtain ⟨g3, h⟩ := fb_g h
        refine va_iast hx hb hK hP hD hS 2 1 rfl rfl g3 dX11_take_21 (fun H locs hP hD hS => ?_)
        replace hP : va_P (dC, dI) fb_cl [(o, .inr (11, [.int o_textRoom, .int o_byteRoom, .int o_chain, .ref o_text, .int o_textSize, .ref o_packed, .int o_packedSize, .int o_matches, .ref o_loaded, .int o_loadedSize, .ref o_out, .int o_outSize, .int o_bits, .int o_tokens, .ref o_lengths, .ref o_distances, .ref o_heads, .ref o_earlier, .ref o_often, .ref o_symbolLengths, .ref o_distanceLengths, .ref o_lengthLengths, .ref o_symbolCodes, .ref o_distanceCodes, .ref o_lengthCodes, .ref o_counts, .ref o_parents, .ref o_alone, .ref o_row, .int o_told, .ref o_toldSymbols, .ref o_toldNumbers, .int o_place, .int o_fail, .int o_found, .int o_symbolCount, .int o_distanceCount, .int o_lengthCount])), (o_packed, .inl (o_packed_c, o_packed_n, .inl o_packed_v)), (o_loaded, .inl (o_loaded_c, o_loaded_n, .inl (upd o_loaded_v (x1).toNatClampNeg (o_packed_v (x1).toNatClampNeg))))] H := hP
        replace hD : va_D A [(o, .inr (11, [.int o_textRoom, .int o_byteRoom, .int o_chain, .ref o_text, .int o_textSize, .ref o_packed, .int o_packedSize, .int o_matches, .ref o_loaded, .int o_loadedSize, .ref o_out, .int o_outSize, .int o_bits, .int o_tokens, .ref o_lengths, .ref o_distances, .ref o_heads, .ref o_earlier, .ref o_often, .ref o_symbolLengths, .ref o_distanceLengths, .ref o_lengthLengths, .ref o_symbolCodes, .ref o_distanceCodes, .ref o_lengthCodes, .ref o_counts, .ref o_parents, .ref o_alone, .ref o_row, .int o_told, .ref o_toldSymbols, .ref o_toldNumbers, .int o_place, .int o_fail, .int o_found, .int o_symbolCount, .int o_distanceCount, .int o_lengthCount])), (o_packed, .inl (o_packed_c, o_packed_n, .inl o_packed_v)), (o_loaded, .inl (o_loaded_c, o_loaded_n, .inl (upd o_loaded_v (x1).toNatClampNeg (o_packed_v (x1).toNatClampNeg))))] := hD
        refine lv_iinc (v := (x1 + (1 : Int32))) (lv' := [(1, .int (x1 + (1 : Int32))), (0, .ref o)]) hx hb dX11_take_22 hl (k := 1) rfl rfl (by decide) rfl (fun ls hl => ?_)
        refine lv_goto (tgt := 2) hx hb dX11_take_25 (by decide) ?_
        exact ih o_loadedSize (upd o_loaded_v (x1).toNatClampNeg (o_packed_v (x1).toNatClampNeg)) (x1 + (1 : Int32)) _ _ _ hP hD hS (lv_sub hl [1, 0] rfl) h
  unfold pX11_take at h
  refine lv_iconst (v := (0 : Int32)) hx hb dX11_take_0 (by decide) ?_
  refine lv_istore_n (lv' := [(1, .int (0 : Int32)), (0, .ref o)]) hx hb dX11_take_1 rfl hl (by decide) rfl (fun ls hl => ?_)
  exact wB2 fb_F o_loadedSize o_loaded_v (0 : Int32) _ _ _ hP hD hS (lv_sub hl [1, 0] rfl) h
theorem dX11_out_0 : decode cX11_out 0 = .ok (.iload_n 1, 1) := by decide +kernel
theorem dX11_out_1 : decode cX11_out 1 = .ok (.ifCond .lt 20, 3) := by decide +kernel
theorem dX11_out_4 : decode cX11_out 4 = .ok (.iload_n 1, 1) := by decide +kernel
theorem dX11_out_5 : decode cX11_out 5 = .ok (.aload_n 0, 1) := by decide +kernel
theorem dX11_out_6 : decode cX11_out 6 = .ok (.getfield 99, 3) := by decide +kernel
theorem dX11_out_9 : decode cX11_out 9 = .ok (.if_icmp .ge 12, 3) := by decide +kernel
theorem dX11_out_12 : decode cX11_out 12 = .ok (.aload_n 0, 1) := by decide +kernel
theorem dX11_out_13 : decode cX11_out 13 = .ok (.getfield 21, 3) := by decide +kernel
theorem dX11_out_16 : decode cX11_out 16 = .ok (.iload_n 1, 1) := by decide +kernel
theorem dX11_out_17 : decode cX11_out 17 = .ok (.iaload, 1) := by decide +kernel
theorem dX11_out_18 : decode cX11_out 18 = .ok (.goto 4, 3) := by decide +kernel
theorem dX11_out_21 : decode cX11_out 21 = .ok (.iconst (-1), 1) := by decide +kernel
theorem dX11_out_22 : decode cX11_out 22 = .ok (.ireturn, 1) := by decide +kernel
def pX11_out (o_out_n : Nat) (o_outSize : Int32) (o_out_v : Nat → Int32) (x1 : Int32)   : Option (Int32) :=
  if x1 < 0 then
  (some ((-1 : Int32)))
  else
  (if o_outSize ≤ x1 then
  (some ((-1 : Int32)))
  else
  (if x1 < 0 ∨ o_out_n ≤ (x1).toNatClampNeg then none else
  some ((o_out_v (x1).toNatClampNeg))))
theorem hdX11_out : yX11_out.cls = RX11 ∧ yX11_out.cls ≠ "java/lang/invoke/MethodHandle" ∧ yX11_out.cls ≠ "java/lang/invoke/VarHandle" ∧ (parseMethodDescriptor yX11_out.desc).map (fun d => d.parameters.length) = some 1 := by decide +kernel
set_option maxHeartbeats 8000000 in
set_option maxRecDepth 100000 in
theorem mX11_out (l : Launch) (dC : Nat → ClassId) (dI : Nat → Nat → Nat) (o : Nat) (o_out : Nat) (o_text : Nat) (o_packed : Nat) (o_loaded : Nat) (o_lengths : Nat) (o_distances : Nat) (o_heads : Nat) (o_earlier : Nat) (o_often : Nat) (o_symbolLengths : Nat) (o_distanceLengths : Nat) (o_lengthLengths : Nat) (o_symbolCodes : Nat) (o_distanceCodes : Nat) (o_lengthCodes : Nat) (o_counts : Nat) (o_parents : Nat) (o_alone : Nat) (o_row : Nat) (o_toldSymbols : Nat) (o_toldNumbers : Nat) (o_out_c : ClassId) (o_out_n : Nat) (o_textRoom : Int32) (o_byteRoom : Int32) (o_chain : Int32) (o_textSize : Int32) (o_packedSize : Int32) (o_matches : Int32) (o_loadedSize : Int32) (o_outSize : Int32) (o_bits : Int32) (o_tokens : Int32) (o_told : Int32) (o_place : Int32) (o_fail : Int32) (o_found : Int32) (o_symbolCount : Int32) (o_distanceCount : Int32) (o_lengthCount : Int32) (o_out_v : Nat → Int32) (x1 : Int32) (sz : Nat) (u : Int32) (h : pX11_out o_out_n o_outSize o_out_v x1 = some u) : Met l yX11_out (Cond.code yX11_out cX11_out 2 (some .int) :: fb_tb) ({ frames := 0, cells := 0, slots := 0, locals := 0 }) (fb_Pc (dC, dI) [.ref o, .int x1] sz [(o_out_c, .int)] [(o, .inr (11, [.int o_textRoom, .int o_byteRoom, .int o_chain, .ref o_text, .int o_textSize, .ref o_packed, .int o_packedSize, .int o_matches, .ref o_loaded, .int o_loadedSize, .ref o_out, .int o_outSize, .int o_bits, .int o_tokens, .ref o_lengths, .ref o_distances, .ref o_heads, .ref o_earlier, .ref o_often, .ref o_symbolLengths, .ref o_distanceLengths, .ref o_lengthLengths, .ref o_symbolCodes, .ref o_distanceCodes, .ref o_lengthCodes, .ref o_counts, .ref o_parents, .ref o_alone, .ref o_row, .int o_told, .ref o_toldSymbols, .ref o_toldNumbers, .int o_place, .int o_fail, .int o_found, .int o_symbolCount, .int o_distanceCount, .int o_lengthCount])), (o_out, .inl (o_out_c, o_out_n, .inl o_out_v))]) (fb_Qi (dC, dI) u [(o, .inr (11, [.int o_textRoom, .int o_byteRoom, .int o_chain, .ref o_text, .int o_textSize, .ref o_packed, .int o_packedSize, .int o_matches, .ref o_loaded, .int o_loadedSize, .ref o_out, .int o_outSize, .int o_bits, .int o_tokens, .ref o_lengths, .ref o_distances, .ref o_heads, .ref o_earlier, .ref o_often, .ref o_symbolLengths, .ref o_distanceLengths, .ref o_lengthLengths, .ref o_symbolCodes, .ref o_distanceCodes, .ref o_lengthCodes, .ref o_counts, .ref o_parents, .ref o_alone, .ref o_row, .int o_told, .ref o_toldSymbols, .ref o_toldNumbers, .int o_place, .int o_fail, .int o_found, .int o_symbolCount, .int o_distanceCount, .int o_lengthCount])), (o_out, .inl (o_out_c, o_out_n, .inl o_out_v))] (va_A [(o, .inr (11, [.int o_textRoom, .int o_byteRoom, .int o_chain, .ref o_text, .int o_textSize, .ref o_packed, .int o_packedSize, .int o_matches, .ref o_loaded, .int o_loadedSize, .ref o_out, .int o_outSize, .int o_bits, .int o_tokens, .ref o_lengths, .ref o_distances, .ref o_heads, .ref o_earlier, .ref o_often, .ref o_symbolLengths, .ref o_distanceLengths, .ref o_lengthLengths, .ref o_symbolCodes, .ref o_distanceCodes, .ref o_lengthCodes, .ref o_counts, .ref o_parents, .ref o_alone, .ref o_row, .int o_told, .ref o_toldSymbols, .ref o_toldNumbers, .int o_place, .int o_fail, .int o_found, .int o_symbolCount, .int o_distanceCount, .int o_lengthCount])), (o_out, .inl (o_out_c, o_out_n, .inl o_out_v))] sz)) 0 0 (va_A [(o, .inr (11, [.int o_textRoom, .int o_byteRoom, .int o_chain, .ref o_text, .int o_textSize, .ref o_packed, .int o_packedSize, .int o_matches, .ref o_loaded, .int o_loadedSize, .ref o_out, .int o_outSize, .int o_bits, .int o_tokens, .ref o_lengths, .ref o_distances, .ref o_heads, .ref o_earlier, .ref o_often, .ref o_symbolLengths, .ref o_distanceLengths, .ref o_lengthLengths, .ref o_symbolCodes, .ref o_distanceCodes, .ref o_lengthCodes, .ref o_counts, .ref o_parents, .ref o_alone, .ref o_row, .int o_told, .ref o_toldSymbols, .ref o_toldNumbers, .int o_place, .int o_fail, .int o_found, .int o_symbolCount, .int o_distanceCount, .int o_lengthCount])), (o_out, .inl (o_out_c, o_out_n, .inl o_out_v))] sz) := by
  refine fb_meti (ty := .int) (by decide) (Nat.le_of_ble_eq_true rfl) (fun p e s m args below meth c A Q ls H hx hb hml hown hts hP hK hN hZ hD hA hS hret hl => ?_)
  replace hl : lv_has ls 2 [(0, .ref o), (1, .int x1)] := hl
  unfold pX11_out at h
  refine lv_iload_n hx hb dX11_out_0 rfl (lv_at hl 1 rfl) ?_
  refine lv_if_lt (tgt := 21) hx hb dX11_out_1 (by decide) (fun c1 => ?_) (fun c1 => ?_)
  · replace h := fb_t c1 h
    refine lv_iconst (v := (-1 : Int32)) hx hb dX11_out_21 (by decide) ?_
    have hu := Option.some.inj h
    exact hret _ _ _ _ _ dX11_out_22 rfl (by rw [← hu]) hP hD hS
  · replace h := fb_f c1 h
    refine lv_iload_n hx hb dX11_out_4 rfl (lv_at hl 1 rfl) ?_
    refine lv_aload_n hx hb dX11_out_5 rfl (lv_at hl 0 rfl) ?_
    refine va_get (D := (dC, dI)) (ci := 11) (v := .int o_outSize) (C := RX11) (T := TX11) (N := 38) hx hb hts i_X11 hown hK hP 0 rfl rfl 11 (by decide) (hts _ k_848) (fun _ h9 => h9) rfl dX11_out_6 ?_
    refine lv_icmp_ge (tgt := 21) hx hb dX11_out_9 (by decide) (fun c2 => ?_) (fun c2 => ?_)
    · replace h := fb_t c2 h
      refine lv_iconst (v := (-1 : Int32)) hx hb dX11_out_21 (by decide) ?_
      have hu := Option.some.inj h
      exact hret _ _ _ _ _ dX11_out_22 rfl (by rw [← hu]) hP hD hS
    · replace h := fb_f c2 h
      refine lv_aload_n hx hb dX11_out_12 rfl (lv_at hl 0 rfl) ?_
      refine va_get (D := (dC, dI)) (ci := 11) (v := .ref o_out) (C := RX11) (T := TX11) (N := 38) hx hb hts i_X11 hown hK hP 0 rfl rfl 10 (by decide) (hts _ k_847) (fun _ h9 => h9) rfl dX11_out_13 ?_
      refine lv_iload_n hx hb dX11_out_16 rfl (lv_at hl 1 rfl) ?_
      obtain ⟨g3, h⟩ := fb_g h
      refine va_iald hx hb hK hP 1 0 rfl rfl g3 dX11_out_17 ?_
      refine lv_goto (tgt := 22) hx hb dX11_out_18 (by decide) ?_
      have hu := Option.some.inj h
      exact hret _ _ _ _ _ dX11_out_22 rfl (by rw [← hu]) hP hD hS
theorem dX11_bit_0 : decode cX11_bit 0 = .ok (.aload_n 0, 1) := by decide +kernel
theorem dX11_bit_1 : decode cX11_bit 1 = .ok (.getfield 102, 3) := by decide +kernel
theorem dX11_bit_4 : decode cX11_bit 4 = .ok (.ireturn, 1) := by decide +kernel
def pX11_bit (o_bits : Int32)   : Option (Int32) :=
  some (o_bits)
theorem hdX11_bit : yX11_bit.cls = RX11 ∧ yX11_bit.cls ≠ "java/lang/invoke/MethodHandle" ∧ yX11_bit.cls ≠ "java/lang/invoke/VarHandle" ∧ (parseMethodDescriptor yX11_bit.desc).map (fun d => d.parameters.length) = some 0 := by decide +kernel
set_option maxHeartbeats 8000000 in
set_option maxRecDepth 100000 in
theorem mX11_bit (l : Launch) (dC : Nat → ClassId) (dI : Nat → Nat → Nat) (o : Nat) (o_text : Nat) (o_packed : Nat) (o_loaded : Nat) (o_out : Nat) (o_lengths : Nat) (o_distances : Nat) (o_heads : Nat) (o_earlier : Nat) (o_often : Nat) (o_symbolLengths : Nat) (o_distanceLengths : Nat) (o_lengthLengths : Nat) (o_symbolCodes : Nat) (o_distanceCodes : Nat) (o_lengthCodes : Nat) (o_counts : Nat) (o_parents : Nat) (o_alone : Nat) (o_row : Nat) (o_toldSymbols : Nat) (o_toldNumbers : Nat)   (o_textRoom : Int32) (o_byteRoom : Int32) (o_chain : Int32) (o_textSize : Int32) (o_packedSize : Int32) (o_matches : Int32) (o_loadedSize : Int32) (o_outSize : Int32) (o_bits : Int32) (o_tokens : Int32) (o_told : Int32) (o_place : Int32) (o_fail : Int32) (o_found : Int32) (o_symbolCount : Int32) (o_distanceCount : Int32) (o_lengthCount : Int32)  (sz : Nat) (u : Int32) (h : pX11_bit o_bits = some u) : Met l yX11_bit (Cond.code yX11_bit cX11_bit 1 (some .int) :: fb_tb) ({ frames := 0, cells := 0, slots := 0, locals := 0 }) (fb_Pc (dC, dI) [.ref o] sz [] [(o, .inr (11, [.int o_textRoom, .int o_byteRoom, .int o_chain, .ref o_text, .int o_textSize, .ref o_packed, .int o_packedSize, .int o_matches, .ref o_loaded, .int o_loadedSize, .ref o_out, .int o_outSize, .int o_bits, .int o_tokens, .ref o_lengths, .ref o_distances, .ref o_heads, .ref o_earlier, .ref o_often, .ref o_symbolLengths, .ref o_distanceLengths, .ref o_lengthLengths, .ref o_symbolCodes, .ref o_distanceCodes, .ref o_lengthCodes, .ref o_counts, .ref o_parents, .ref o_alone, .ref o_row, .int o_told, .ref o_toldSymbols, .ref o_toldNumbers, .int o_place, .int o_fail, .int o_found, .int o_symbolCount, .int o_distanceCount, .int o_lengthCount]))]) (fb_Qi (dC, dI) u [(o, .inr (11, [.int o_textRoom, .int o_byteRoom, .int o_chain, .ref o_text, .int o_textSize, .ref o_packed, .int o_packedSize, .int o_matches, .ref o_loaded, .int o_loadedSize, .ref o_out, .int o_outSize, .int o_bits, .int o_tokens, .ref o_lengths, .ref o_distances, .ref o_heads, .ref o_earlier, .ref o_often, .ref o_symbolLengths, .ref o_distanceLengths, .ref o_lengthLengths, .ref o_symbolCodes, .ref o_distanceCodes, .ref o_lengthCodes, .ref o_counts, .ref o_parents, .ref o_alone, .ref o_row, .int o_told, .ref o_toldSymbols, .ref o_toldNumbers, .int o_place, .int o_fail, .int o_found, .int o_symbolCount, .int o_distanceCount, .int o_lengthCount]))] (va_A [(o, .inr (11, [.int o_textRoom, .int o_byteRoom, .int o_chain, .ref o_text, .int o_textSize, .ref o_packed, .int o_packedSize, .int o_matches, .ref o_loaded, .int o_loadedSize, .ref o_out, .int o_outSize, .int o_bits, .int o_tokens, .ref o_lengths, .ref o_distances, .ref o_heads, .ref o_earlier, .ref o_often, .ref o_symbolLengths, .ref o_distanceLengths, .ref o_lengthLengths, .ref o_symbolCodes, .ref o_distanceCodes, .ref o_lengthCodes, .ref o_counts, .ref o_parents, .ref o_alone, .ref o_row, .int o_told, .ref o_toldSymbols, .ref o_toldNumbers, .int o_place, .int o_fail, .int o_found, .int o_symbolCount, .int o_distanceCount, .int o_lengthCount]))] sz)) 0 0 (va_A [(o, .inr (11, [.int o_textRoom, .int o_byteRoom, .int o_chain, .ref o_text, .int o_textSize, .ref o_packed, .int o_packedSize, .int o_matches, .ref o_loaded, .int o_loadedSize, .ref o_out, .int o_outSize, .int o_bits, .int o_tokens, .ref o_lengths, .ref o_distances, .ref o_heads, .ref o_earlier, .ref o_often, .ref o_symbolLengths, .ref o_distanceLengths, .ref o_lengthLengths, .ref o_symbolCodes, .ref o_distanceCodes, .ref o_lengthCodes, .ref o_counts, .ref o_parents, .ref o_alone, .ref o_row, .int o_told, .ref o_toldSymbols, .ref o_toldNumbers, .int o_place, .int o_fail, .int o_found, .int o_symbolCount, .int o_distanceCount, .int o_lengthCount]))] sz) := by
  refine fb_meti (ty := .int) (by decide) (Nat.le_of_ble_eq_true rfl) (fun p e s m args below meth c A Q ls H hx hb hml hown hts hP hK hN hZ hD hA hS hret hl => ?_)
  replace hl : lv_has ls 1 [(0, .ref o)] := hl
  unfold pX11_bit at h
  refine lv_aload_n hx hb dX11_bit_0 rfl (lv_at hl 0 rfl) ?_
  refine va_get (D := (dC, dI)) (ci := 11) (v := .int o_bits) (C := RX11) (T := TX11) (N := 38) hx hb hts i_X11 hown hK hP 0 rfl rfl 12 (by decide) (hts _ k_849) (fun _ h9 => h9) rfl dX11_bit_1 ?_
  have hu := Option.some.inj h
  exact hret _ _ _ _ _ dX11_bit_4 rfl (by rw [← hu]) hP hD hS
theorem dX11_same_0 : decode cX11_same 0 = .ok (.aload_n 0, 1) := by decide +kernel
theorem dX11_same_1 : decode cX11_same 1 = .ok (.getfield 99, 3) := by decide +kernel
theorem dX11_same_4 : decode cX11_same 4 = .ok (.aload_n 0, 1) := by decide +kernel
theorem dX11_same_5 : decode cX11_same 5 = .ok (.getfield 90, 3) := by decide +kernel
theorem dX11_same_8 : decode cX11_same 8 = .ok (.if_icmp .ne 7, 3) := by decide +kernel
theorem dX11_same_11 : decode cX11_same 11 = .ok (.iconst 1, 1) := by decide +kernel
theorem dX11_same_12 : decode cX11_same 12 = .ok (.goto 4, 3) := by decide +kernel
theorem dX11_same_15 : decode cX11_same 15 = .ok (.iconst 0, 1) := by decide +kernel
theorem dX11_same_16 : decode cX11_same 16 = .ok (.istore_n 1, 1) := by decide +kernel
theorem dX11_same_17 : decode cX11_same 17 = .ok (.iconst 0, 1) := by decide +kernel
theorem dX11_same_18 : decode cX11_same 18 = .ok (.istore_n 2, 1) := by decide +kernel
theorem dX11_same_19 : decode cX11_same 19 = .ok (.iload_n 2, 1) := by decide +kernel
theorem dX11_same_20 : decode cX11_same 20 = .ok (.aload_n 0, 1) := by decide +kernel
theorem dX11_same_21 : decode cX11_same 21 = .ok (.getfield 99, 3) := by decide +kernel
theorem dX11_same_24 : decode cX11_same 24 = .ok (.if_icmp .ge 34, 3) := by decide +kernel
theorem dX11_same_27 : decode cX11_same 27 = .ok (.iload_n 1, 1) := by decide +kernel
theorem dX11_same_28 : decode cX11_same 28 = .ok (.ifCond .eq 30, 3) := by decide +kernel
theorem dX11_same_31 : decode cX11_same 31 = .ok (.aload_n 0, 1) := by decide +kernel
theorem dX11_same_32 : decode cX11_same 32 = .ok (.getfield 21, 3) := by decide +kernel
theorem dX11_same_35 : decode cX11_same 35 = .ok (.iload_n 2, 1) := by decide +kernel
theorem dX11_same_36 : decode cX11_same 36 = .ok (.iaload, 1) := by decide +kernel
theorem dX11_same_37 : decode cX11_same 37 = .ok (.aload_n 0, 1) := by decide +kernel
theorem dX11_same_38 : decode cX11_same 38 = .ok (.getfield 8, 3) := by decide +kernel
theorem dX11_same_41 : decode cX11_same 41 = .ok (.iload_n 2, 1) := by decide +kernel
theorem dX11_same_42 : decode cX11_same 42 = .ok (.iaload, 1) := by decide +kernel
theorem dX11_same_43 : decode cX11_same 43 = .ok (.if_icmp .ne 7, 3) := by decide +kernel
theorem dX11_same_46 : decode cX11_same 46 = .ok (.iconst 1, 1) := by decide +kernel
theorem dX11_same_47 : decode cX11_same 47 = .ok (.goto 4, 3) := by decide +kernel
theorem dX11_same_50 : decode cX11_same 50 = .ok (.iconst 0, 1) := by decide +kernel
theorem dX11_same_51 : decode cX11_same 51 = .ok (.istore_n 1, 1) := by decide +kernel
theorem dX11_same_52 : decode cX11_same 52 = .ok (.iinc 2 1, 3) := by decide +kernel
theorem dX11_same_55 : decode cX11_same 55 = .ok (.goto (-36), 3) := by decide +kernel
theorem dX11_same_58 : decode cX11_same 58 = .ok (.iload_n 1, 1) := by decide +kernel
theorem dX11_same_59 : decode cX11_same 59 = .ok (.ireturn, 1) := by decide +kernel
def pX11_same_b19 (o_out_n : Nat) (o_text_n : Nat) (o_outSize : Int32) (o_out_v : Nat → Int32) (o_text_v : Nat → Int32)  : Nat → Int32 → Int32 → Option (Int32)
  | 0 => fun _ _ => none
  | n + 1 => fun x1 x2 =>
  if o_outSize ≤ x2 then
  (if x1 &&& (1 : Int32) = x1 then
  (some (x1)) else none)
  else
  (if x1 = 0 then
  (if x1 &&& (1 : Int32) = x1 then
  (some (x1)) else none)
  else
  (if x2 < 0 ∨ o_out_n ≤ (x2).toNatClampNeg then none else
  if x2 < 0 ∨ o_text_n ≤ (x2).toNatClampNeg then none else
  if (o_out_v (x2).toNatClampNeg) = (o_text_v (x2).toNatClampNeg) then
  ((pX11_same_b19 o_out_n o_text_n o_outSize o_out_v o_text_v n) (1 : Int32) (x2 + (1 : Int32)))
  else
  ((pX11_same_b19 o_out_n o_text_n o_outSize o_out_v o_text_v n) (0 : Int32) (x2 + (1 : Int32)))))
def pX11_same (o_out_n : Nat) (o_text_n : Nat) (o_textSize : Int32) (o_outSize : Int32) (o_out_v : Nat → Int32) (o_text_v : Nat → Int32)   : Option (Int32) :=
  if o_outSize = o_textSize then
  (pX11_same_b19 o_out_n o_text_n o_outSize o_out_v o_text_v fb_F (1 : Int32) (0 : Int32))
  else
  (pX11_same_b19 o_out_n o_text_n o_outSize o_out_v o_text_v fb_F (0 : Int32) (0 : Int32))
theorem hdX11_same : yX11_same.cls = RX11 ∧ yX11_same.cls ≠ "java/lang/invoke/MethodHandle" ∧ yX11_same.cls ≠ "java/lang/invoke/VarHandle" ∧ (parseMethodDescriptor yX11_same.desc).map (fun d => d.parameters.length) = some 0 := by decide +kernel
set_option maxHeartbeats 8000000 in
set_option maxRecDepth 100000 in
theorem mX11_same (l : Launch) (dC : Nat → ClassId) (dI : Nat → Nat → Nat) (o : Nat) (o_out : Nat) (o_text : Nat) (o_packed : Nat) (o_loaded : Nat) (o_lengths : Nat) (o_distances : Nat) (o_heads : Nat) (o_earlier : Nat) (o_often : Nat) (o_symbolLengths : Nat) (o_distanceLengths : Nat) (o_lengthLengths : Nat) (o_symbolCodes : Nat) (o_distanceCodes : Nat) (o_lengthCodes : Nat) (o_counts : Nat) (o_parents : Nat) (o_alone : Nat) (o_row : Nat) (o_toldSymbols : Nat) (o_toldNumbers : Nat) (o_out_c : ClassId) (o_text_c : ClassId) (o_out_n : Nat) (o_text_n : Nat) (o_textRoom : Int32) (o_byteRoom : Int32) (o_chain : Int32) (o_textSize : Int32) (o_packedSize : Int32) (o_matches : Int32) (o_loadedSize : Int32) (o_outSize : Int32) (o_bits : Int32) (o_tokens : Int32) (o_told : Int32) (o_place : Int32) (o_fail : Int32) (o_found : Int32) (o_symbolCount : Int32) (o_distanceCount : Int32) (o_lengthCount : Int32) (o_out_v : Nat → Int32) (o_text_v : Nat → Int32)  (sz : Nat) (u : Int32) (h : pX11_same o_out_n o_text_n o_textSize o_outSize o_out_v o_text_v = some u) : Met l yX11_same (Cond.code yX11_same cX11_same 3 (some .boolean) :: fb_tb) ({ frames := 0, cells := 0, slots := 0, locals := 0 }) (fb_Pc (dC, dI) [.ref o] sz [(o_out_c, .int), (o_text_c, .int)] [(o, .inr (11, [.int o_textRoom, .int o_byteRoom, .int o_chain, .ref o_text, .int o_textSize, .ref o_packed, .int o_packedSize, .int o_matches, .ref o_loaded, .int o_loadedSize, .ref o_out, .int o_outSize, .int o_bits, .int o_tokens, .ref o_lengths, .ref o_distances, .ref o_heads, .ref o_earlier, .ref o_often, .ref o_symbolLengths, .ref o_distanceLengths, .ref o_lengthLengths, .ref o_symbolCodes, .ref o_distanceCodes, .ref o_lengthCodes, .ref o_counts, .ref o_parents, .ref o_alone, .ref o_row, .int o_told, .ref o_toldSymbols, .ref o_toldNumbers, .int o_place, .int o_fail, .int o_found, .int o_symbolCount, .int o_distanceCount, .int o_lengthCount])), (o_out, .inl (o_out_c, o_out_n, .inl o_out_v)), (o_text, .inl (o_text_c, o_text_n, .inl o_text_v))]) (fb_Qi (dC, dI) u [(o, .inr (11, [.int o_textRoom, .int o_byteRoom, .int o_chain, .ref o_text, .int o_textSize, .ref o_packed, .int o_packedSize, .int o_matches, .ref o_loaded, .int o_loadedSize, .ref o_out, .int o_outSize, .int o_bits, .int o_tokens, .ref o_lengths, .ref o_distances, .ref o_heads, .ref o_earlier, .ref o_often, .ref o_symbolLengths, .ref o_distanceLengths, .ref o_lengthLengths, .ref o_symbolCodes, .ref o_distanceCodes, .ref o_lengthCodes, .ref o_counts, .ref o_parents, .ref o_alone, .ref o_row, .int o_told, .ref o_toldSymbols, .ref o_toldNumbers, .int o_place, .int o_fail, .int o_found, .int o_symbolCount, .int o_distanceCount, .int o_lengthCount])), (o_out, .inl (o_out_c, o_out_n, .inl o_out_v)), (o_text, .inl (o_text_c, o_text_n, .inl o_text_v))] (va_A [(o, .inr (11, [.int o_textRoom, .int o_byteRoom, .int o_chain, .ref o_text, .int o_textSize, .ref o_packed, .int o_packedSize, .int o_matches, .ref o_loaded, .int o_loadedSize, .ref o_out, .int o_outSize, .int o_bits, .int o_tokens, .ref o_lengths, .ref o_distances, .ref o_heads, .ref o_earlier, .ref o_often, .ref o_symbolLengths, .ref o_distanceLengths, .ref o_lengthLengths, .ref o_symbolCodes, .ref o_distanceCodes, .ref o_lengthCodes, .ref o_counts, .ref o_parents, .ref o_alone, .ref o_row, .int o_told, .ref o_toldSymbols, .ref o_toldNumbers, .int o_place, .int o_fail, .int o_found, .int o_symbolCount, .int o_distanceCount, .int o_lengthCount])), (o_out, .inl (o_out_c, o_out_n, .inl o_out_v)), (o_text, .inl (o_text_c, o_text_n, .inl o_text_v))] sz)) 0 0 (va_A [(o, .inr (11, [.int o_textRoom, .int o_byteRoom, .int o_chain, .ref o_text, .int o_textSize, .ref o_packed, .int o_packedSize, .int o_matches, .ref o_loaded, .int o_loadedSize, .ref o_out, .int o_outSize, .int o_bits, .int o_tokens, .ref o_lengths, .ref o_distances, .ref o_heads, .ref o_earlier, .ref o_often, .ref o_symbolLengths, .ref o_distanceLengths, .ref o_lengthLengths, .ref o_symbolCodes, .ref o_distanceCodes, .ref o_lengthCodes, .ref o_counts, .ref o_parents, .ref o_alone, .ref o_row, .int o_told, .ref o_toldSymbols, .ref o_toldNumbers, .int o_place, .int o_fail, .int o_found, .int o_symbolCount, .int o_distanceCount, .int o_lengthCount])), (o_out, .inl (o_out_c, o_out_n, .inl o_out_v)), (o_text, .inl (o_text_c, o_text_n, .inl o_text_v))] sz) := by
  refine fb_meti (ty := .boolean) (by decide) (Nat.le_of_ble_eq_true rfl) (fun p e s m args below meth c A Q ls H hx hb hml hown hts hP hK hN hZ hD hA hS hret hl => ?_)
  replace hl : lv_has ls 3 [(0, .ref o)] := hl
  have wB19 : ∀ n : Nat, ∀ (x1 : Int32) (x2 : Int32) (H : Heap) (locs : List Loc) (ls : Array Slot), va_P (dC, dI) fb_cl [(o, .inr (11, [.int o_textRoom, .int o_byteRoom, .int o_chain, .ref o_text, .int o_textSize, .ref o_packed, .int o_packedSize, .int o_matches, .ref o_loaded, .int o_loadedSize, .ref o_out, .int o_outSize, .int o_bits, .int o_tokens, .ref o_lengths, .ref o_distances, .ref o_heads, .ref o_earlier, .ref o_often, .ref o_symbolLengths, .ref o_distanceLengths, .ref o_lengthLengths, .ref o_symbolCodes, .ref o_distanceCodes, .ref o_lengthCodes, .ref o_counts, .ref o_parents, .ref o_alone, .ref o_row, .int o_told, .ref o_toldSymbols, .ref o_toldNumbers, .int o_place, .int o_fail, .int o_found, .int o_symbolCount, .int o_distanceCount, .int o_lengthCount])), (o_out, .inl (o_out_c, o_out_n, .inl o_out_v)), (o_text, .inl (o_text_c, o_text_n, .inl o_text_v))] H → va_D A [(o, .inr (11, [.int o_textRoom, .int o_byteRoom, .int o_chain, .ref o_text, .int o_textSize, .ref o_packed, .int o_packedSize, .int o_matches, .ref o_loaded, .int o_loadedSize, .ref o_out, .int o_outSize, .int o_bits, .int o_tokens, .ref o_lengths, .ref o_distances, .ref o_heads, .ref o_earlier, .ref o_often, .ref o_symbolLengths, .ref o_distanceLengths, .ref o_lengthLengths, .ref o_symbolCodes, .ref o_distanceCodes, .ref o_lengthCodes, .ref o_counts, .ref o_parents, .ref o_alone, .ref o_row, .int o_told, .ref o_toldSymbols, .ref o_toldNumbers, .int o_place, .int o_fail, .int o_found, .int o_symbolCount, .int o_distanceCount, .int o_lengthCount])), (o_out, .inl (o_out_c, o_out_n, .inl o_out_v)), (o_text, .inl (o_text_c, o_text_n, .inl o_text_v))] → va_S A s.heap H locs → lv_has ls 3 [(0, .ref o), (1, .int x1), (2, .int x2)] → pX11_same_b19 o_out_n o_text_n o_outSize o_out_v o_text_v n x1 x2 = some u → W p l e ({ frames := 0, cells := 0, slots := 0, locals := 0 }) s m args below meth c H locs 0 0 Q (F0 m 19 ls []) := by
    intro n
    induction n with
    | zero => intro x1 x2 H locs ls hP hD hS hl h; cases h
    | succ n ih =>
      intro x1 x2 H locs ls hP hD hS hl h
      rw [pX11_same_b19] at h
      refine lv_iload_n hx hb dX11_same_19 rfl (lv_at hl 2 rfl) ?_
      refine lv_aload_n hx hb dX11_same_20 rfl (lv_at hl 0 rfl) ?_
      refine va_get (D := (dC, dI)) (ci := 11) (v := .int o_outSize) (C := RX11) (T := TX11) (N := 38) hx hb hts i_X11 hown hK hP 0 rfl rfl 11 (by decide) (hts _ k_848) (fun _ h9 => h9) rfl dX11_same_21 ?_
      refine lv_icmp_ge (tgt := 58) hx hb dX11_same_24 (by decide) (fun c1 => ?_) (fun c1 => ?_)
      · replace h := fb_t c1 h
        refine lv_iload_n hx hb dX11_same_58 rfl (lv_at hl 1 rfl) ?_
        obtain ⟨hz, h⟩ := fb_h h
        have hu := Option.some.inj h
        exact hret _ _ _ _ _ dX11_same_59 (fb_z hz) (by rw [← hu]) hP hD hS
      · replace h := fb_f c1 h
        refine lv_iload_n hx hb dX11_same_27 rfl (lv_at hl 1 rfl) ?_
        refine lv_if_eq (tgt := 58) hx hb dX11_same_28 (by decide) (fun c2 => ?_) (fun c2 => ?_)
        · replace h := fb_t c2 h
          refine lv_iload_n hx hb dX11_same_58 rfl (lv_at hl 1 rfl) ?_
          obtain ⟨hz, h⟩ := fb_h h
          have hu := Option.some.inj h
          exact hret _ _ _ _ _ dX11_same_59 (fb_z hz) (by rw [← hu]) hP hD hS
        · replace h := fb_f c2 h
          refine lv_aload_n hx hb dX11_same_31 rfl (lv_at hl 0 rfl) ?_
          refine va_get (D := (dC, dI)) (ci := 11) (v := .ref o_out) (C := RX11) (T := TX11) (N := 38) hx hb hts i_X11 hown hK hP 0 rfl rfl 10 (by decide) (hts _ k_847) (fun _ h9 => h9) rfl dX11_same_32 ?_
          refine lv_iload_n hx hb dX11_same_35 rfl (lv_at hl 2 rfl) ?_
          obtain ⟨g3, h⟩ := fb_g h
          refine va_iald hx hb hK hP 1 0 rfl rfl g3 dX11_same_36 ?_
          refine lv_aload_n hx hb dX11_same_37 rfl (lv_at hl 0 rfl) ?_
          refine va_get (D := (dC, dI)) (ci := 11) (v := .ref o_text) (C := RX11) (T := TX11) (N := 38) hx hb hts i_X11 hown hK hP 0 rfl rfl 3 (by decide) (hts _ k_840) (fun _ h9 => h9) rfl dX11_same_38 ?_
          refine lv_iload_n hx hb dX11_same_41 rfl (lv_at hl 2 rfl) ?_
          obtain ⟨g4, h⟩ := fb_g h
          refine va_iald hx hb hK hP 2 1 rfl rfl g4 dX11_same_42 ?_
          refine lv_icmp_ne (tgt := 50) hx hb dX11_same_43 (by decide) (fun c5 => ?_) (fun c5 => ?_)
          · replace h := fb_f c5 h
            refine lv_iconst (v := (0 : Int32)) hx hb dX11_same_50 (by decide) ?_
            refine lv_istore_n (lv' := [(1, .int (0 : Int32)), (0, .ref o), (2, .int x2)]) hx hb dX11_same_51 rfl hl (by decide) rfl (fun ls hl => ?_)
            refine lv_iinc (v := (x2 + (1 : Int32))) (lv' := [(2, .int (x2 + (1 : Int32))), (1, .int (0 : Int32)), (0, .ref o)]) hx hb dX11_same_52 hl (k := 2) rfl rfl (by decide) rfl (fun ls hl => ?_)
            refine lv_goto (tgt := 19) hx hb dX11_same_55 (by decide) ?_
            exact ih (0 : Int32) (x2 + (1 : Int32)) _ _ _ hP hD hS (lv_sub hl [2, 1, 0] rfl) h
          · replace h := fb_t c5 h
            refine lv_iconst (v := (1 : Int32)) hx hb dX11_same_46 (by decide) ?_
            refine lv_goto (tgt := 51) hx hb dX11_same_47 (by decide) ?_
            refine lv_istore_n (lv' := [(1, .int (1 : Int32)), (0, .ref o), (2, .int x2)]) hx hb dX11_same_51 rfl hl (by decide) rfl (fun ls hl => ?_)
            refine lv_iinc (v := (x2 + (1 : Int32))) (lv' := [(2, .int (x2 + (1 : Int32))), (1, .int (1 : Int32)), (0, .ref o)]) hx hb dX11_same_52 hl (k := 2) rfl rfl (by decide) rfl (fun ls hl => ?_)
            refine lv_goto (tgt := 19) hx hb dX11_same_55 (by decide) ?_
            exact ih (1 : Int32) (x2 + (1 : Int32)) _ _ _ hP hD hS (lv_sub hl [2, 1, 0] rfl) h
  unfold pX11_same at h
  refine lv_aload_n hx hb dX11_same_0 rfl (lv_at hl 0 rfl) ?_
  refine va_get (D := (dC, dI)) (ci := 11) (v := .int o_outSize) (C := RX11) (T := TX11) (N := 38) hx hb hts i_X11 hown hK hP 0 rfl rfl 11 (by decide) (hts _ k_848) (fun _ h9 => h9) rfl dX11_same_1 ?_
  refine lv_aload_n hx hb dX11_same_4 rfl (lv_at hl 0 rfl) ?_
  refine va_get (D := (dC, dI)) (ci := 11) (v := .int o_textSize) (C := RX11) (T := TX11) (N := 38) hx hb hts i_X11 hown hK hP 0 rfl rfl 4 (by decide) (hts _ k_841) (fun _ h9 => h9) rfl dX11_same_5 ?_
  refine lv_icmp_ne (tgt := 15) hx hb dX11_same_8 (by decide) (fun c6 => ?_) (fun c6 => ?_)
  · replace h := fb_f c6 h
    refine lv_iconst (v := (0 : Int32)) hx hb dX11_same_15 (by decide) ?_
    refine lv_istore_n (lv' := [(1, .int (0 : Int32)), (0, .ref o)]) hx hb dX11_same_16 rfl hl (by decide) rfl (fun ls hl => ?_)
    refine lv_iconst (v := (0 : Int32)) hx hb dX11_same_17 (by decide) ?_
    refine lv_istore_n (lv' := [(2, .int (0 : Int32)), (1, .int (0 : Int32)), (0, .ref o)]) hx hb dX11_same_18 rfl hl (by decide) rfl (fun ls hl => ?_)
    exact wB19 fb_F (0 : Int32) (0 : Int32) _ _ _ hP hD hS (lv_sub hl [2, 1, 0] rfl) h
  · replace h := fb_t c6 h
    refine lv_iconst (v := (1 : Int32)) hx hb dX11_same_11 (by decide) ?_
    refine lv_goto (tgt := 16) hx hb dX11_same_12 (by decide) ?_
    refine lv_istore_n (lv' := [(1, .int (1 : Int32)), (0, .ref o)]) hx hb dX11_same_16 rfl hl (by decide) rfl (fun ls hl => ?_)
    refine lv_iconst (v := (0 : Int32)) hx hb dX11_same_17 (by decide) ?_
    refine lv_istore_n (lv' := [(2, .int (0 : Int32)), (1, .int (1 : Int32)), (0, .ref o)]) hx hb dX11_same_18 rfl hl (by decide) rfl (fun ls hl => ?_)
    exact wB19 fb_F (1 : Int32) (0 : Int32) _ _ _ hP hD hS (lv_sub hl [2, 1, 0] rfl) h
theorem dX11_reset_0 : decode cX11_reset 0 = .ok (.aload_n 0, 1) := by decide +kernel
theorem dX11_reset_1 : decode cX11_reset 1 = .ok (.iconst 0, 1) := by decide +kernel
theorem dX11_reset_2 : decode cX11_reset 2 = .ok (.putfield 90, 3) := by decide +kernel
theorem dX11_reset_5 : decode cX11_reset 5 = .ok (.aload_n 0, 1) := by decide +kernel
theorem dX11_reset_6 : decode cX11_reset 6 = .ok (.iconst 0, 1) := by decide +kernel
theorem dX11_reset_7 : decode cX11_reset 7 = .ok (.putfield 93, 3) := by decide +kernel
theorem dX11_reset_10 : decode cX11_reset 10 = .ok (.aload_n 0, 1) := by decide +kernel
theorem dX11_reset_11 : decode cX11_reset 11 = .ok (.iconst 0, 1) := by decide +kernel
theorem dX11_reset_12 : decode cX11_reset 12 = .ok (.putfield 96, 3) := by decide +kernel
theorem dX11_reset_15 : decode cX11_reset 15 = .ok (.aload_n 0, 1) := by decide +kernel
theorem dX11_reset_16 : decode cX11_reset 16 = .ok (.iconst 0, 1) := by decide +kernel
theorem dX11_reset_17 : decode cX11_reset 17 = .ok (.putfield 99, 3) := by decide +kernel
theorem dX11_reset_20 : decode cX11_reset 20 = .ok (.aload_n 0, 1) := by decide +kernel
theorem dX11_reset_21 : decode cX11_reset 21 = .ok (.iconst 0, 1) := by decide +kernel
theorem dX11_reset_22 : decode cX11_reset 22 = .ok (.putfield 105, 3) := by decide +kernel
theorem dX11_reset_25 : decode cX11_reset 25 = .ok (.return_, 1) := by decide +kernel
def pX11_reset    : Option (Int32 × Int32 × Int32 × Int32 × Int32) :=
  some ((0 : Int32), (0 : Int32), (0 : Int32), (0 : Int32), (0 : Int32))
theorem hdX11_reset : yX11_reset.cls = RX11 ∧ yX11_reset.cls ≠ "java/lang/invoke/MethodHandle" ∧ yX11_reset.cls ≠ "java/lang/invoke/VarHandle" ∧ (parseMethodDescriptor yX11_reset.desc).map (fun d => d.parameters.length) = some 0 := by decide +kernel
set_option maxHeartbeats 8000000 in
set_option maxRecDepth 100000 in
theorem mX11_reset (l : Launch) (dC : Nat → ClassId) (dI : Nat → Nat → Nat) (o : Nat) (o_text : Nat) (o_packed : Nat) (o_loaded : Nat) (o_out : Nat) (o_lengths : Nat) (o_distances : Nat) (o_heads : Nat) (o_earlier : Nat) (o_often : Nat) (o_symbolLengths : Nat) (o_distanceLengths : Nat) (o_lengthLengths : Nat) (o_symbolCodes : Nat) (o_distanceCodes : Nat) (o_lengthCodes : Nat) (o_counts : Nat) (o_parents : Nat) (o_alone : Nat) (o_row : Nat) (o_toldSymbols : Nat) (o_toldNumbers : Nat)   (o_textRoom : Int32) (o_byteRoom : Int32) (o_chain : Int32) (o_textSize : Int32) (o_packedSize : Int32) (o_matches : Int32) (o_loadedSize : Int32) (o_outSize : Int32) (o_bits : Int32) (o_tokens : Int32) (o_told : Int32) (o_place : Int32) (o_fail : Int32) (o_found : Int32) (o_symbolCount : Int32) (o_distanceCount : Int32) (o_lengthCount : Int32)  (sz : Nat) (u : Int32 × Int32 × Int32 × Int32 × Int32) (h : pX11_reset = some u) : Met l yX11_reset (Cond.code yX11_reset cX11_reset 1 none :: fb_tb) ({ frames := 0, cells := 0, slots := 0, locals := 0 }) (fb_Pc (dC, dI) [.ref o] sz [] [(o, .inr (11, [.int o_textRoom, .int o_byteRoom, .int o_chain, .ref o_text, .int o_textSize, .ref o_packed, .int o_packedSize, .int o_matches, .ref o_loaded, .int o_loadedSize, .ref o_out, .int o_outSize, .int o_bits, .int o_tokens, .ref o_lengths, .ref o_distances, .ref o_heads, .ref o_earlier, .ref o_often, .ref o_symbolLengths, .ref o_distanceLengths, .ref o_lengthLengths, .ref o_symbolCodes, .ref o_distanceCodes, .ref o_lengthCodes, .ref o_counts, .ref o_parents, .ref o_alone, .ref o_row, .int o_told, .ref o_toldSymbols, .ref o_toldNumbers, .int o_place, .int o_fail, .int o_found, .int o_symbolCount, .int o_distanceCount, .int o_lengthCount]))]) (fb_Qv (dC, dI) [(o, .inr (11, [.int o_textRoom, .int o_byteRoom, .int o_chain, .ref o_text, .int u.1, .ref o_packed, .int u.2.1, .int u.2.2.1, .ref o_loaded, .int u.2.2.2.1, .ref o_out, .int u.2.2.2.2, .int o_bits, .int o_tokens, .ref o_lengths, .ref o_distances, .ref o_heads, .ref o_earlier, .ref o_often, .ref o_symbolLengths, .ref o_distanceLengths, .ref o_lengthLengths, .ref o_symbolCodes, .ref o_distanceCodes, .ref o_lengthCodes, .ref o_counts, .ref o_parents, .ref o_alone, .ref o_row, .int o_told, .ref o_toldSymbols, .ref o_toldNumbers, .int o_place, .int o_fail, .int o_found, .int o_symbolCount, .int o_distanceCount, .int o_lengthCount]))] (va_A [(o, .inr (11, [.int o_textRoom, .int o_byteRoom, .int o_chain, .ref o_text, .int o_textSize, .ref o_packed, .int o_packedSize, .int o_matches, .ref o_loaded, .int o_loadedSize, .ref o_out, .int o_outSize, .int o_bits, .int o_tokens, .ref o_lengths, .ref o_distances, .ref o_heads, .ref o_earlier, .ref o_often, .ref o_symbolLengths, .ref o_distanceLengths, .ref o_lengthLengths, .ref o_symbolCodes, .ref o_distanceCodes, .ref o_lengthCodes, .ref o_counts, .ref o_parents, .ref o_alone, .ref o_row, .int o_told, .ref o_toldSymbols, .ref o_toldNumbers, .int o_place, .int o_fail, .int o_found, .int o_symbolCount, .int o_distanceCount, .int o_lengthCount]))] sz)) 0 0 (va_A [(o, .inr (11, [.int o_textRoom, .int o_byteRoom, .int o_chain, .ref o_text, .int o_textSize, .ref o_packed, .int o_packedSize, .int o_matches, .ref o_loaded, .int o_loadedSize, .ref o_out, .int o_outSize, .int o_bits, .int o_tokens, .ref o_lengths, .ref o_distances, .ref o_heads, .ref o_earlier, .ref o_often, .ref o_symbolLengths, .ref o_distanceLengths, .ref o_lengthLengths, .ref o_symbolCodes, .ref o_distanceCodes, .ref o_lengthCodes, .ref o_counts, .ref o_parents, .ref o_alone, .ref o_row, .int o_told, .ref o_toldSymbols, .ref o_toldNumbers, .int o_place, .int o_fail, .int o_found, .int o_symbolCount, .int o_distanceCount, .int o_lengthCount]))] sz) := by
  refine fb_metv (by decide) (Nat.le_of_ble_eq_true rfl) (fun p e s m args below meth c A Q ls H hx hb hml hown hts hP hK hN hZ hD hA hS hret hl => ?_)
  replace hl : lv_has ls 1 [(0, .ref o)] := hl
  unfold pX11_reset at h
  refine lv_aload_n hx hb dX11_reset_0 rfl (lv_at hl 0 rfl) ?_
  refine lv_iconst (v := (0 : Int32)) hx hb dX11_reset_1 (by decide) ?_
  refine va_put (D := (dC, dI)) (ci := 11) (v := .int (0 : Int32)) (ty := .int) (C := RX11) (T := TX11) (N := 38) hx hb hts i_X11 tyX11 tyX11_ok nmX11 hown hK hP hD hS 0 rfl rfl 4 (by decide) (hts _ k_841) (fun _ h9 => h9) rfl (by decide +kernel) rfl rfl (Nat.le_of_ble_eq_true rfl) dX11_reset_2 (fun H locs hP hD hS => ?_)
  replace hP : va_P (dC, dI) fb_cl [(o, .inr (11, [.int o_textRoom, .int o_byteRoom, .int o_chain, .ref o_text, .int (0 : Int32), .ref o_packed, .int o_packedSize, .int o_matches, .ref o_loaded, .int o_loadedSize, .ref o_out, .int o_outSize, .int o_bits, .int o_tokens, .ref o_lengths, .ref o_distances, .ref o_heads, .ref o_earlier, .ref o_often, .ref o_symbolLengths, .ref o_distanceLengths, .ref o_lengthLengths, .ref o_symbolCodes, .ref o_distanceCodes, .ref o_lengthCodes, .ref o_counts, .ref o_parents, .ref o_alone, .ref o_row, .int o_told, .ref o_toldSymbols, .ref o_toldNumbers, .int o_place, .int o_fail, .int o_found, .int o_symbolCount, .int o_distanceCount, .int o_lengthCount]))] H := hP
  replace hD : va_D A [(o, .inr (11, [.int o_textRoom, .int o_byteRoom, .int o_chain, .ref o_text, .int (0 : Int32), .ref o_packed, .int o_packedSize, .int o_matches, .ref o_loaded, .int o_loadedSize, .ref o_out, .int o_outSize, .int o_bits, .int o_tokens, .ref o_lengths, .ref o_distances, .ref o_heads, .ref o_earlier, .ref o_often, .ref o_symbolLengths, .ref o_distanceLengths, .ref o_lengthLengths, .ref o_symbolCodes, .ref o_distanceCodes, .ref o_lengthCodes, .ref o_counts, .ref o_parents, .ref o_alone, .ref o_row, .int o_told, .ref o_toldSymbols, .ref o_toldNumbers, .int o_place, .int o_fail, .int o_found, .int o_symbolCount, .int o_distanceCount, .int o_lengthCount]))] := hD
  refine lv_aload_n hx hb dX11_reset_5 rfl (lv_at hl 0 rfl) ?_
  refine lv_iconst (v := (0 : Int32)) hx hb dX11_reset_6 (by decide) ?_
  refine va_put (D := (dC, dI)) (ci := 11) (v := .int (0 : Int32)) (ty := .int) (C := RX11) (T := TX11) (N := 38) hx hb hts i_X11 tyX11 tyX11_ok nmX11 hown hK hP hD hS 0 rfl rfl 6 (by decide) (hts _ k_843) (fun _ h9 => h9) rfl (by decide +kernel) rfl rfl (Nat.le_of_ble_eq_true rfl) dX11_reset_7 (fun H locs hP hD hS => ?_)
  replace hP : va_P (dC, dI) fb_cl [(o, .inr (11, [.int o_textRoom, .int o_byteRoom, .int o_chain, .ref o_text, .int (0 : Int32), .ref o_packed, .int (0 : Int32), .int o_matches, .ref o_loaded, .int o_loadedSize, .ref o_out, .int o_outSize, .int o_bits, .int o_tokens, .ref o_lengths, .ref o_distances, .ref o_heads, .ref o_earlier, .ref o_often, .ref o_symbolLengths, .ref o_distanceLengths, .ref o_lengthLengths, .ref o_symbolCodes, .ref o_distanceCodes, .ref o_lengthCodes, .ref o_counts, .ref o_parents, .ref o_alone, .ref o_row, .int o_told, .ref o_toldSymbols, .ref o_toldNumbers, .int o_place, .int o_fail, .int o_found, .int o_symbolCount, .int o_distanceCount, .int o_lengthCount]))] H := hP
  replace hD : va_D A [(o, .inr (11, [.int o_textRoom, .int o_byteRoom, .int o_chain, .ref o_text, .int (0 : Int32), .ref o_packed, .int (0 : Int32), .int o_matches, .ref o_loaded, .int o_loadedSize, .ref o_out, .int o_outSize, .int o_bits, .int o_tokens, .ref o_lengths, .ref o_distances, .ref o_heads, .ref o_earlier, .ref o_often, .ref o_symbolLengths, .ref o_distanceLengths, .ref o_lengthLengths, .ref o_symbolCodes, .ref o_distanceCodes, .ref o_lengthCodes, .ref o_counts, .ref o_parents, .ref o_alone, .ref o_row, .int o_told, .ref o_toldSymbols, .ref o_toldNumbers, .int o_place, .int o_fail, .int o_found, .int o_symbolCount, .int o_distanceCount, .int o_lengthCount]))] := hD
  refine lv_aload_n hx hb dX11_reset_10 rfl (lv_at hl 0 rfl) ?_
  refine lv_iconst (v := (0 : Int32)) hx hb dX11_reset_11 (by decide) ?_
  refine va_put (D := (dC, dI)) (ci := 11) (v := .int (0 : Int32)) (ty := .int) (C := RX11) (T := TX11) (N := 38) hx hb hts i_X11 tyX11 tyX11_ok nmX11 hown hK hP hD hS 0 rfl rfl 9 (by decide) (hts _ k_846) (fun _ h9 => h9) rfl (by decide +kernel) rfl rfl (Nat.le_of_ble_eq_true rfl) dX11_reset_12 (fun H locs hP hD hS => ?_)
  replace hP : va_P (dC, dI) fb_cl [(o, .inr (11, [.int o_textRoom, .int o_byteRoom, .int o_chain, .ref o_text, .int (0 : Int32), .ref o_packed, .int (0 : Int32), .int o_matches, .ref o_loaded, .int (0 : Int32), .ref o_out, .int o_outSize, .int o_bits, .int o_tokens, .ref o_lengths, .ref o_distances, .ref o_heads, .ref o_earlier, .ref o_often, .ref o_symbolLengths, .ref o_distanceLengths, .ref o_lengthLengths, .ref o_symbolCodes, .ref o_distanceCodes, .ref o_lengthCodes, .ref o_counts, .ref o_parents, .ref o_alone, .ref o_row, .int o_told, .ref o_toldSymbols, .ref o_toldNumbers, .int o_place, .int o_fail, .int o_found, .int o_symbolCount, .int o_distanceCount, .int o_lengthCount]))] H := hP
  replace hD : va_D A [(o, .inr (11, [.int o_textRoom, .int o_byteRoom, .int o_chain, .ref o_text, .int (0 : Int32), .ref o_packed, .int (0 : Int32), .int o_matches, .ref o_loaded, .int (0 : Int32), .ref o_out, .int o_outSize, .int o_bits, .int o_tokens, .ref o_lengths, .ref o_distances, .ref o_heads, .ref o_earlier, .ref o_often, .ref o_symbolLengths, .ref o_distanceLengths, .ref o_lengthLengths, .ref o_symbolCodes, .ref o_distanceCodes, .ref o_lengthCodes, .ref o_counts, .ref o_parents, .ref o_alone, .ref o_row, .int o_told, .ref o_toldSymbols, .ref o_toldNumbers, .int o_place, .int o_fail, .int o_found, .int o_symbolCount, .int o_distanceCount, .int o_lengthCount]))] := hD
  refine lv_aload_n hx hb dX11_reset_15 rfl (lv_at hl 0 rfl) ?_
  refine lv_iconst (v := (0 : Int32)) hx hb dX11_reset_16 (by decide) ?_
  refine va_put (D := (dC, dI)) (ci := 11) (v := .int (0 : Int32)) (ty := .int) (C := RX11) (T := TX11) (N := 38) hx hb hts i_X11 tyX11 tyX11_ok nmX11 hown hK hP hD hS 0 rfl rfl 11 (by decide) (hts _ k_848) (fun _ h9 => h9) rfl (by decide +kernel) rfl rfl (Nat.le_of_ble_eq_true rfl) dX11_reset_17 (fun H locs hP hD hS => ?_)
  replace hP : va_P (dC, dI) fb_cl [(o, .inr (11, [.int o_textRoom, .int o_byteRoom, .int o_chain, .ref o_text, .int (0 : Int32), .ref o_packed, .int (0 : Int32), .int o_matches, .ref o_loaded, .int (0 : Int32), .ref o_out, .int (0 : Int32), .int o_bits, .int o_tokens, .ref o_lengths, .ref o_distances, .ref o_heads, .ref o_earlier, .ref o_often, .ref o_symbolLengths, .ref o_distanceLengths, .ref o_lengthLengths, .ref o_symbolCodes, .ref o_distanceCodes, .ref o_lengthCodes, .ref o_counts, .ref o_parents, .ref o_alone, .ref o_row, .int o_told, .ref o_toldSymbols, .ref o_toldNumbers, .int o_place, .int o_fail, .int o_found, .int o_symbolCount, .int o_distanceCount, .int o_lengthCount]))] H := hP
  replace hD : va_D A [(o, .inr (11, [.int o_textRoom, .int o_byteRoom, .int o_chain, .ref o_text, .int (0 : Int32), .ref o_packed, .int (0 : Int32), .int o_matches, .ref o_loaded, .int (0 : Int32), .ref o_out, .int (0 : Int32), .int o_bits, .int o_tokens, .ref o_lengths, .ref o_distances, .ref o_heads, .ref o_earlier, .ref o_often, .ref o_symbolLengths, .ref o_distanceLengths, .ref o_lengthLengths, .ref o_symbolCodes, .ref o_distanceCodes, .ref o_lengthCodes, .ref o_counts, .ref o_parents, .ref o_alone, .ref o_row, .int o_told, .ref o_toldSymbols, .ref o_toldNumbers, .int o_place, .int o_fail, .int o_found, .int o_symbolCount, .int o_distanceCount, .int o_lengthCount]))] := hD
  refine lv_aload_n hx hb dX11_reset_20 rfl (lv_at hl 0 rfl) ?_
  refine lv_iconst (v := (0 : Int32)) hx hb dX11_reset_21 (by decide) ?_
  refine va_put (D := (dC, dI)) (ci := 11) (v := .int (0 : Int32)) (ty := .int) (C := RX11) (T := TX11) (N := 38) hx hb hts i_X11 tyX11 tyX11_ok nmX11 hown hK hP hD hS 0 rfl rfl 7 (by decide) (hts _ k_844) (fun _ h9 => h9) rfl (by decide +kernel) rfl rfl (Nat.le_of_ble_eq_true rfl) dX11_reset_22 (fun H locs hP hD hS => ?_)
  replace hP : va_P (dC, dI) fb_cl [(o, .inr (11, [.int o_textRoom, .int o_byteRoom, .int o_chain, .ref o_text, .int (0 : Int32), .ref o_packed, .int (0 : Int32), .int (0 : Int32), .ref o_loaded, .int (0 : Int32), .ref o_out, .int (0 : Int32), .int o_bits, .int o_tokens, .ref o_lengths, .ref o_distances, .ref o_heads, .ref o_earlier, .ref o_often, .ref o_symbolLengths, .ref o_distanceLengths, .ref o_lengthLengths, .ref o_symbolCodes, .ref o_distanceCodes, .ref o_lengthCodes, .ref o_counts, .ref o_parents, .ref o_alone, .ref o_row, .int o_told, .ref o_toldSymbols, .ref o_toldNumbers, .int o_place, .int o_fail, .int o_found, .int o_symbolCount, .int o_distanceCount, .int o_lengthCount]))] H := hP
  replace hD : va_D A [(o, .inr (11, [.int o_textRoom, .int o_byteRoom, .int o_chain, .ref o_text, .int (0 : Int32), .ref o_packed, .int (0 : Int32), .int (0 : Int32), .ref o_loaded, .int (0 : Int32), .ref o_out, .int (0 : Int32), .int o_bits, .int o_tokens, .ref o_lengths, .ref o_distances, .ref o_heads, .ref o_earlier, .ref o_often, .ref o_symbolLengths, .ref o_distanceLengths, .ref o_lengthLengths, .ref o_symbolCodes, .ref o_distanceCodes, .ref o_lengthCodes, .ref o_counts, .ref o_parents, .ref o_alone, .ref o_row, .int o_told, .ref o_toldSymbols, .ref o_toldNumbers, .int o_place, .int o_fail, .int o_found, .int o_symbolCount, .int o_distanceCount, .int o_lengthCount]))] := hD
  have hu := Option.some.inj h
  exact hret _ _ _ _ dX11_reset_25 (by rw [← hu]; exact hP) (by rw [← hu]; exact hD) hS
theorem dX11_count_0 : decode cX11_count 0 = .ok (.iload_n 1, 1) := by decide +kernel
theorem dX11_count_1 : decode cX11_count 1 = .ok (.ifCond .ne 10, 3) := by decide +kernel
theorem dX11_count_4 : decode cX11_count 4 = .ok (.aload_n 0, 1) := by decide +kernel
theorem dX11_count_5 : decode cX11_count 5 = .ok (.getfield 90, 3) := by decide +kernel
theorem dX11_count_8 : decode cX11_count 8 = .ok (.goto 52, 3) := by decide +kernel
theorem dX11_count_11 : decode cX11_count 11 = .ok (.iload_n 1, 1) := by decide +kernel
theorem dX11_count_12 : decode cX11_count 12 = .ok (.iconst 1, 1) := by decide +kernel
theorem dX11_count_13 : decode cX11_count 13 = .ok (.if_icmp .ne 10, 3) := by decide +kernel
theorem dX11_count_16 : decode cX11_count 16 = .ok (.aload_n 0, 1) := by decide +kernel
theorem dX11_count_17 : decode cX11_count 17 = .ok (.getfield 93, 3) := by decide +kernel
theorem dX11_count_20 : decode cX11_count 20 = .ok (.goto 40, 3) := by decide +kernel
theorem dX11_count_23 : decode cX11_count 23 = .ok (.iload_n 1, 1) := by decide +kernel
theorem dX11_count_24 : decode cX11_count 24 = .ok (.iconst 2, 1) := by decide +kernel
theorem dX11_count_25 : decode cX11_count 25 = .ok (.if_icmp .ne 10, 3) := by decide +kernel
theorem dX11_count_28 : decode cX11_count 28 = .ok (.aload_n 0, 1) := by decide +kernel
theorem dX11_count_29 : decode cX11_count 29 = .ok (.getfield 96, 3) := by decide +kernel
theorem dX11_count_32 : decode cX11_count 32 = .ok (.goto 28, 3) := by decide +kernel
theorem dX11_count_35 : decode cX11_count 35 = .ok (.iload_n 1, 1) := by decide +kernel
theorem dX11_count_36 : decode cX11_count 36 = .ok (.iconst 3, 1) := by decide +kernel
theorem dX11_count_37 : decode cX11_count 37 = .ok (.if_icmp .ne 10, 3) := by decide +kernel
theorem dX11_count_40 : decode cX11_count 40 = .ok (.aload_n 0, 1) := by decide +kernel
theorem dX11_count_41 : decode cX11_count 41 = .ok (.getfield 99, 3) := by decide +kernel
theorem dX11_count_44 : decode cX11_count 44 = .ok (.goto 16, 3) := by decide +kernel
theorem dX11_count_47 : decode cX11_count 47 = .ok (.iload_n 1, 1) := by decide +kernel
theorem dX11_count_48 : decode cX11_count 48 = .ok (.iconst 4, 1) := by decide +kernel
theorem dX11_count_49 : decode cX11_count 49 = .ok (.if_icmp .ne 10, 3) := by decide +kernel
theorem dX11_count_52 : decode cX11_count 52 = .ok (.aload_n 0, 1) := by decide +kernel
theorem dX11_count_53 : decode cX11_count 53 = .ok (.getfield 105, 3) := by decide +kernel
theorem dX11_count_56 : decode cX11_count 56 = .ok (.goto 4, 3) := by decide +kernel
theorem dX11_count_59 : decode cX11_count 59 = .ok (.iconst (-1), 1) := by decide +kernel
theorem dX11_count_60 : decode cX11_count 60 = .ok (.ireturn, 1) := by decide +kernel
def pX11_count (o_textSize : Int32) (o_packedSize : Int32) (o_matches : Int32) (o_loadedSize : Int32) (o_outSize : Int32) (x1 : Int32)   : Option (Int32) :=
  if x1 = 0 then
  (some (o_textSize))
  else
  (if x1 = (1 : Int32) then
  (some (o_packedSize))
  else
  (if x1 = (2 : Int32) then
  (some (o_loadedSize))
  else
  (if x1 = (3 : Int32) then
  (some (o_outSize))
  else
  (if x1 = (4 : Int32) then
  (some (o_matches))
  else
  (some ((-1 : Int32)))))))
theorem hdX11_count : yX11_count.cls = RX11 ∧ yX11_count.cls ≠ "java/lang/invoke/MethodHandle" ∧ yX11_count.cls ≠ "java/lang/invoke/VarHandle" ∧ (parseMethodDescriptor yX11_count.desc).map (fun d => d.parameters.length) = some 1 := by decide +kernel
set_option maxHeartbeats 8000000 in
set_option maxRecDepth 100000 in
theorem mX11_count (l : Launch) (dC : Nat → ClassId) (dI : Nat → Nat → Nat) (o : Nat) (o_text : Nat) (o_packed : Nat) (o_loaded : Nat) (o_out : Nat) (o_lengths : Nat) (o_distances : Nat) (o_heads : Nat) (o_earlier : Nat) (o_often : Nat) (o_symbolLengths : Nat) (o_distanceLengths : Nat) (o_lengthLengths : Nat) (o_symbolCodes : Nat) (o_distanceCodes : Nat) (o_lengthCodes : Nat) (o_counts : Nat) (o_parents : Nat) (o_alone : Nat) (o_row : Nat) (o_toldSymbols : Nat) (o_toldNumbers : Nat)   (o_textRoom : Int32) (o_byteRoom : Int32) (o_chain : Int32) (o_textSize : Int32) (o_packedSize : Int32) (o_matches : Int32) (o_loadedSize : Int32) (o_outSize : Int32) (o_bits : Int32) (o_tokens : Int32) (o_told : Int32) (o_place : Int32) (o_fail : Int32) (o_found : Int32) (o_symbolCount : Int32) (o_distanceCount : Int32) (o_lengthCount : Int32) (x1 : Int32) (sz : Nat) (u : Int32) (h : pX11_count o_textSize o_packedSize o_matches o_loadedSize o_outSize x1 = some u) : Met l yX11_count (Cond.code yX11_count cX11_count 2 (some .int) :: fb_tb) ({ frames := 0, cells := 0, slots := 0, locals := 0 }) (fb_Pc (dC, dI) [.ref o, .int x1] sz [] [(o, .inr (11, [.int o_textRoom, .int o_byteRoom, .int o_chain, .ref o_text, .int o_textSize, .ref o_packed, .int o_packedSize, .int o_matches, .ref o_loaded, .int o_loadedSize, .ref o_out, .int o_outSize, .int o_bits, .int o_tokens, .ref o_lengths, .ref o_distances, .ref o_heads, .ref o_earlier, .ref o_often, .ref o_symbolLengths, .ref o_distanceLengths, .ref o_lengthLengths, .ref o_symbolCodes, .ref o_distanceCodes, .ref o_lengthCodes, .ref o_counts, .ref o_parents, .ref o_alone, .ref o_row, .int o_told, .ref o_toldSymbols, .ref o_toldNumbers, .int o_place, .int o_fail, .int o_found, .int o_symbolCount, .int o_distanceCount, .int o_lengthCount]))]) (fb_Qi (dC, dI) u [(o, .inr (11, [.int o_textRoom, .int o_byteRoom, .int o_chain, .ref o_text, .int o_textSize, .ref o_packed, .int o_packedSize, .int o_matches, .ref o_loaded, .int o_loadedSize, .ref o_out, .int o_outSize, .int o_bits, .int o_tokens, .ref o_lengths, .ref o_distances, .ref o_heads, .ref o_earlier, .ref o_often, .ref o_symbolLengths, .ref o_distanceLengths, .ref o_lengthLengths, .ref o_symbolCodes, .ref o_distanceCodes, .ref o_lengthCodes, .ref o_counts, .ref o_parents, .ref o_alone, .ref o_row, .int o_told, .ref o_toldSymbols, .ref o_toldNumbers, .int o_place, .int o_fail, .int o_found, .int o_symbolCount, .int o_distanceCount, .int o_lengthCount]))] (va_A [(o, .inr (11, [.int o_textRoom, .int o_byteRoom, .int o_chain, .ref o_text, .int o_textSize, .ref o_packed, .int o_packedSize, .int o_matches, .ref o_loaded, .int o_loadedSize, .ref o_out, .int o_outSize, .int o_bits, .int o_tokens, .ref o_lengths, .ref o_distances, .ref o_heads, .ref o_earlier, .ref o_often, .ref o_symbolLengths, .ref o_distanceLengths, .ref o_lengthLengths, .ref o_symbolCodes, .ref o_distanceCodes, .ref o_lengthCodes, .ref o_counts, .ref o_parents, .ref o_alone, .ref o_row, .int o_told, .ref o_toldSymbols, .ref o_toldNumbers, .int o_place, .int o_fail, .int o_found, .int o_symbolCount, .int o_distanceCount, .int o_lengthCount]))] sz)) 0 0 (va_A [(o, .inr (11, [.int o_textRoom, .int o_byteRoom, .int o_chain, .ref o_text, .int o_textSize, .ref o_packed, .int o_packedSize, .int o_matches, .ref o_loaded, .int o_loadedSize, .ref o_out, .int o_outSize, .int o_bits, .int o_tokens, .ref o_lengths, .ref o_distances, .ref o_heads, .ref o_earlier, .ref o_often, .ref o_symbolLengths, .ref o_distanceLengths, .ref o_lengthLengths, .ref o_symbolCodes, .ref o_distanceCodes, .ref o_lengthCodes, .ref o_counts, .ref o_parents, .ref o_alone, .ref o_row, .int o_told, .ref o_toldSymbols, .ref o_toldNumbers, .int o_place, .int o_fail, .int o_found, .int o_symbolCount, .int o_distanceCount, .int o_lengthCount]))] sz) := by
  refine fb_meti (ty := .int) (by decide) (Nat.le_of_ble_eq_true rfl) (fun p e s m args below meth c A Q ls H hx hb hml hown hts hP hK hN hZ hD hA hS hret hl => ?_)
  replace hl : lv_has ls 2 [(0, .ref o), (1, .int x1)] := hl
  unfold pX11_count at h
  refine lv_iload_n hx hb dX11_count_0 rfl (lv_at hl 1 rfl) ?_
  refine lv_if_ne (tgt := 11) hx hb dX11_count_1 (by decide) (fun c1 => ?_) (fun c1 => ?_)
  · replace h := fb_f c1 h
    refine lv_iload_n hx hb dX11_count_11 rfl (lv_at hl 1 rfl) ?_
    refine lv_iconst (v := (1 : Int32)) hx hb dX11_count_12 (by decide) ?_
    refine lv_icmp_ne (tgt := 23) hx hb dX11_count_13 (by decide) (fun c2 => ?_) (fun c2 => ?_)
    · replace h := fb_f c2 h
      refine lv_iload_n hx hb dX11_count_23 rfl (lv_at hl 1 rfl) ?_
      refine lv_iconst (v := (2 : Int32)) hx hb dX11_count_24 (by decide) ?_
      refine lv_icmp_ne (tgt := 35) hx hb dX11_count_25 (by decide) (fun c3 => ?_) (fun c3 => ?_)
      · replace h := fb_f c3 h
        refine lv_iload_n hx hb dX11_count_35 rfl (lv_at hl 1 rfl) ?_
        refine lv_iconst (v := (3 : Int32)) hx hb dX11_count_36 (by decide) ?_
        refine lv_icmp_ne (tgt := 47) hx hb dX11_count_37 (by decide) (fun c4 => ?_) (fun c4 => ?_)
        · replace h := fb_f c4 h
          refine lv_iload_n hx hb dX11_count_47 rfl (lv_at hl 1 rfl) ?_
          refine lv_iconst (v := (4 : Int32)) hx hb dX11_count_48 (by decide) ?_
          refine lv_icmp_ne (tgt := 59) hx hb dX11_count_49 (by decide) (fun c5 => ?_) (fun c5 => ?_)
          · replace h := fb_f c5 h
            refine lv_iconst (v := (-1 : Int32)) hx hb dX11_count_59 (by decide) ?_
            have hu := Option.some.inj h
            exact hret _ _ _ _ _ dX11_count_60 rfl (by rw [← hu]) hP hD hS
          · replace h := fb_t c5 h
            refine lv_aload_n hx hb dX11_count_52 rfl (lv_at hl 0 rfl) ?_
            refine va_get (D := (dC, dI)) (ci := 11) (v := .int o_matches) (C := RX11) (T := TX11) (N := 38) hx hb hts i_X11 hown hK hP 0 rfl rfl 7 (by decide) (hts _ k_844) (fun _ h9 => h9) rfl dX11_count_53 ?_
            refine lv_goto (tgt := 60) hx hb dX11_count_56 (by decide) ?_
            have hu := Option.some.inj h
            exact hret _ _ _ _ _ dX11_count_60 rfl (by rw [← hu]) hP hD hS
        · replace h := fb_t c4 h
          refine lv_aload_n hx hb dX11_count_40 rfl (lv_at hl 0 rfl) ?_
          refine va_get (D := (dC, dI)) (ci := 11) (v := .int o_outSize) (C := RX11) (T := TX11) (N := 38) hx hb hts i_X11 hown hK hP 0 rfl rfl 11 (by decide) (hts _ k_848) (fun _ h9 => h9) rfl dX11_count_41 ?_
          refine lv_goto (tgt := 60) hx hb dX11_count_44 (by decide) ?_
          have hu := Option.some.inj h
          exact hret _ _ _ _ _ dX11_count_60 rfl (by rw [← hu]) hP hD hS
      · replace h := fb_t c3 h
        refine lv_aload_n hx hb dX11_count_28 rfl (lv_at hl 0 rfl) ?_
        refine va_get (D := (dC, dI)) (ci := 11) (v := .int o_loadedSize) (C := RX11) (T := TX11) (N := 38) hx hb hts i_X11 hown hK hP 0 rfl rfl 9 (by decide) (hts _ k_846) (fun _ h9 => h9) rfl dX11_count_29 ?_
        refine lv_goto (tgt := 60) hx hb dX11_count_32 (by decide) ?_
        have hu := Option.some.inj h
        exact hret _ _ _ _ _ dX11_count_60 rfl (by rw [← hu]) hP hD hS
    · replace h := fb_t c2 h
      refine lv_aload_n hx hb dX11_count_16 rfl (lv_at hl 0 rfl) ?_
      refine va_get (D := (dC, dI)) (ci := 11) (v := .int o_packedSize) (C := RX11) (T := TX11) (N := 38) hx hb hts i_X11 hown hK hP 0 rfl rfl 6 (by decide) (hts _ k_843) (fun _ h9 => h9) rfl dX11_count_17 ?_
      refine lv_goto (tgt := 60) hx hb dX11_count_20 (by decide) ?_
      have hu := Option.some.inj h
      exact hret _ _ _ _ _ dX11_count_60 rfl (by rw [← hu]) hP hD hS
  · replace h := fb_t c1 h
    refine lv_aload_n hx hb dX11_count_4 rfl (lv_at hl 0 rfl) ?_
    refine va_get (D := (dC, dI)) (ci := 11) (v := .int o_textSize) (C := RX11) (T := TX11) (N := 38) hx hb hts i_X11 hown hK hP 0 rfl rfl 4 (by decide) (hts _ k_841) (fun _ h9 => h9) rfl dX11_count_5 ?_
    refine lv_goto (tgt := 60) hx hb dX11_count_8 (by decide) ?_
    have hu := Option.some.inj h
    exact hret _ _ _ _ _ dX11_count_60 rfl (by rw [← hu]) hP hD hS
theorem dX11_mixed_0 : decode cX11_mixed 0 = .ok (.aload_n 0, 1) := by decide +kernel
theorem dX11_mixed_1 : decode cX11_mixed 1 = .ok (.getfield 8, 3) := by decide +kernel
theorem dX11_mixed_4 : decode cX11_mixed 4 = .ok (.iload_n 1, 1) := by decide +kernel
theorem dX11_mixed_5 : decode cX11_mixed 5 = .ok (.iaload, 1) := by decide +kernel
theorem dX11_mixed_6 : decode cX11_mixed 6 = .ok (.sipush 331, 3) := by decide +kernel
theorem dX11_mixed_9 : decode cX11_mixed 9 = .ok (.imul, 1) := by decide +kernel
theorem dX11_mixed_10 : decode cX11_mixed 10 = .ok (.aload_n 0, 1) := by decide +kernel
theorem dX11_mixed_11 : decode cX11_mixed 11 = .ok (.getfield 8, 3) := by decide +kernel
theorem dX11_mixed_14 : decode cX11_mixed 14 = .ok (.iload_n 1, 1) := by decide +kernel
theorem dX11_mixed_15 : decode cX11_mixed 15 = .ok (.iconst 1, 1) := by decide +kernel
theorem dX11_mixed_16 : decode cX11_mixed 16 = .ok (.iadd, 1) := by decide +kernel
theorem dX11_mixed_17 : decode cX11_mixed 17 = .ok (.iaload, 1) := by decide +kernel
theorem dX11_mixed_18 : decode cX11_mixed 18 = .ok (.bipush 37, 2) := by decide +kernel
theorem dX11_mixed_20 : decode cX11_mixed 20 = .ok (.imul, 1) := by decide +kernel
theorem dX11_mixed_21 : decode cX11_mixed 21 = .ok (.iadd, 1) := by decide +kernel
theorem dX11_mixed_22 : decode cX11_mixed 22 = .ok (.aload_n 0, 1) := by decide +kernel
theorem dX11_mixed_23 : decode cX11_mixed 23 = .ok (.getfield 8, 3) := by decide +kernel
theorem dX11_mixed_26 : decode cX11_mixed 26 = .ok (.iload_n 1, 1) := by decide +kernel
theorem dX11_mixed_27 : decode cX11_mixed 27 = .ok (.iconst 2, 1) := by decide +kernel
theorem dX11_mixed_28 : decode cX11_mixed 28 = .ok (.iadd, 1) := by decide +kernel
theorem dX11_mixed_29 : decode cX11_mixed 29 = .ok (.iaload, 1) := by decide +kernel
theorem dX11_mixed_30 : decode cX11_mixed 30 = .ok (.iadd, 1) := by decide +kernel
theorem dX11_mixed_31 : decode cX11_mixed 31 = .ok (.sipush 4096, 3) := by decide +kernel
theorem dX11_mixed_34 : decode cX11_mixed 34 = .ok (.irem, 1) := by decide +kernel
theorem dX11_mixed_35 : decode cX11_mixed 35 = .ok (.ireturn, 1) := by decide +kernel
def pX11_mixed (o_text_n : Nat) (o_text_v : Nat → Int32) (x1 : Int32)   : Option (Int32) :=
  if x1 < 0 ∨ o_text_n ≤ (x1).toNatClampNeg then none else
  if (x1 + (1 : Int32)) < 0 ∨ o_text_n ≤ ((x1 + (1 : Int32))).toNatClampNeg then none else
  if (x1 + (2 : Int32)) < 0 ∨ o_text_n ≤ ((x1 + (2 : Int32))).toNatClampNeg then none else
  some ((((((o_text_v (x1).toNatClampNeg) * (331 : Int32)) + ((o_text_v ((x1 + (1 : Int32))).toNatClampNeg) * (37 : Int32))) + (o_text_v ((x1 + (2 : Int32))).toNatClampNeg)) - ((((o_text_v (x1).toNatClampNeg) * (331 : Int32)) + ((o_text_v ((x1 + (1 : Int32))).toNatClampNeg) * (37 : Int32))) + (o_text_v ((x1 + (2 : Int32))).toNatClampNeg)) / (4096 : Int32) * (4096 : Int32)))
theorem hdX11_mixed : yX11_mixed.cls = RX11 ∧ yX11_mixed.cls ≠ "java/lang/invoke/MethodHandle" ∧ yX11_mixed.cls ≠ "java/lang/invoke/VarHandle" ∧ (parseMethodDescriptor yX11_mixed.desc).map (fun d => d.parameters.length) = some 1 := by decide +kernel
set_option maxHeartbeats 8000000 in
set_option maxRecDepth 100000 in
theorem mX11_mixed (l : Launch) (dC : Nat → ClassId) (dI : Nat → Nat → Nat) (o : Nat) (o_text : Nat) (o_packed : Nat) (o_loaded : Nat) (o_out : Nat) (o_lengths : Nat) (o_distances : Nat) (o_heads : Nat) (o_earlier : Nat) (o_often : Nat) (o_symbolLengths : Nat) (o_distanceLengths : Nat) (o_lengthLengths : Nat) (o_symbolCodes : Nat) (o_distanceCodes : Nat) (o_lengthCodes : Nat) (o_counts : Nat) (o_parents : Nat) (o_alone : Nat) (o_row : Nat) (o_toldSymbols : Nat) (o_toldNumbers : Nat) (o_text_c : ClassId) (o_text_n : Nat) (o_textRoom : Int32) (o_byteRoom : Int32) (o_chain : Int32) (o_textSize : Int32) (o_packedSize : Int32) (o_matches : Int32) (o_loadedSize : Int32) (o_outSize : Int32) (o_bits : Int32) (o_tokens : Int32) (o_told : Int32) (o_place : Int32) (o_fail : Int32) (o_found : Int32) (o_symbolCount : Int32) (o_distanceCount : Int32) (o_lengthCount : Int32) (o_text_v : Nat → Int32) (x1 : Int32) (sz : Nat) (u : Int32) (h : pX11_mixed o_text_n o_text_v x1 = some u) : Met l yX11_mixed (Cond.code yX11_mixed cX11_mixed 2 (some .int) :: fb_tb) ({ frames := 0, cells := 0, slots := 0, locals := 0 }) (fb_Pc (dC, dI) [.ref o, .int x1] sz [(o_text_c, .int)] [(o, .inr (11, [.int o_textRoom, .int o_byteRoom, .int o_chain, .ref o_text, .int o_textSize, .ref o_packed, .int o_packedSize, .int o_matches, .ref o_loaded, .int o_loadedSize, .ref o_out, .int o_outSize, .int o_bits, .int o_tokens, .ref o_lengths, .ref o_distances, .ref o_heads, .ref o_earlier, .ref o_often, .ref o_symbolLengths, .ref o_distanceLengths, .ref o_lengthLengths, .ref o_symbolCodes, .ref o_distanceCodes, .ref o_lengthCodes, .ref o_counts, .ref o_parents, .ref o_alone, .ref o_row, .int o_told, .ref o_toldSymbols, .ref o_toldNumbers, .int o_place, .int o_fail, .int o_found, .int o_symbolCount, .int o_distanceCount, .int o_lengthCount])), (o_text, .inl (o_text_c, o_text_n, .inl o_text_v))]) (fb_Qi (dC, dI) u [(o, .inr (11, [.int o_textRoom, .int o_byteRoom, .int o_chain, .ref o_text, .int o_textSize, .ref o_packed, .int o_packedSize, .int o_matches, .ref o_loaded, .int o_loadedSize, .ref o_out, .int o_outSize, .int o_bits, .int o_tokens, .ref o_lengths, .ref o_distances, .ref o_heads, .ref o_earlier, .ref o_often, .ref o_symbolLengths, .ref o_distanceLengths, .ref o_lengthLengths, .ref o_symbolCodes, .ref o_distanceCodes, .ref o_lengthCodes, .ref o_counts, .ref o_parents, .ref o_alone, .ref o_row, .int o_told, .ref o_toldSymbols, .ref o_toldNumbers, .int o_place, .int o_fail, .int o_found, .int o_symbolCount, .int o_distanceCount, .int o_lengthCount])), (o_text, .inl (o_text_c, o_text_n, .inl o_text_v))] (va_A [(o, .inr (11, [.int o_textRoom, .int o_byteRoom, .int o_chain, .ref o_text, .int o_textSize, .ref o_packed, .int o_packedSize, .int o_matches, .ref o_loaded, .int o_loadedSize, .ref o_out, .int o_outSize, .int o_bits, .int o_tokens, .ref o_lengths, .ref o_distances, .ref o_heads, .ref o_earlier, .ref o_often, .ref o_symbolLengths, .ref o_distanceLengths, .ref o_lengthLengths, .ref o_symbolCodes, .ref o_distanceCodes, .ref o_lengthCodes, .ref o_counts, .ref o_parents, .ref o_alone, .ref o_row, .int o_told, .ref o_toldSymbols, .ref o_toldNumbers, .int o_place, .int o_fail, .int o_found, .int o_symbolCount, .int o_distanceCount, .int o_lengthCount])), (o_text, .inl (o_text_c, o_text_n, .inl o_text_v))] sz)) 0 0 (va_A [(o, .inr (11, [.int o_textRoom, .int o_byteRoom, .int o_chain, .ref o_text, .int o_textSize, .ref o_packed, .int o_packedSize, .int o_matches, .ref o_loaded, .int o_loadedSize, .ref o_out, .int o_outSize, .int o_bits, .int o_tokens, .ref o_lengths, .ref o_distances, .ref o_heads, .ref o_earlier, .ref o_often, .ref o_symbolLengths, .ref o_distanceLengths, .ref o_lengthLengths, .ref o_symbolCodes, .ref o_distanceCodes, .ref o_lengthCodes, .ref o_counts, .ref o_parents, .ref o_alone, .ref o_row, .int o_told, .ref o_toldSymbols, .ref o_toldNumbers, .int o_place, .int o_fail, .int o_found, .int o_symbolCount, .int o_distanceCount, .int o_lengthCount])), (o_text, .inl (o_text_c, o_text_n, .inl o_text_v))] sz) := by
  refine fb_meti (ty := .int) (by decide) (Nat.le_of_ble_eq_true rfl) (fun p e s m args below meth c A Q ls H hx hb hml hown hts hP hK hN hZ hD hA hS hret hl => ?_)
  replace hl : lv_has ls 2 [(0, .ref o), (1, .int x1)] := hl
  unfold pX11_mixed at h
  refine lv_aload_n hx hb dX11_mixed_0 rfl (lv_at hl 0 rfl) ?_
  refine va_get (D := (dC, dI)) (ci := 11) (v := .ref o_text) (C := RX11) (T := TX11) (N := 38) hx hb hts i_X11 hown hK hP 0 rfl rfl 3 (by decide) (hts _ k_840) (fun _ h9 => h9) rfl dX11_mixed_1 ?_
  refine lv_iload_n hx hb dX11_mixed_4 rfl (lv_at hl 1 rfl) ?_
  obtain ⟨g1, h⟩ := fb_g h
  refine va_iald hx hb hK hP 1 0 rfl rfl g1 dX11_mixed_5 ?_
  refine lv_sipush (v := (331 : Int32)) hx hb dX11_mixed_6 (by decide) ?_
  refine lv_imul hx hb dX11_mixed_9 ?_
  refine lv_aload_n hx hb dX11_mixed_10 rfl (lv_at hl 0 rfl) ?_
  refine va_get (D := (dC, dI)) (ci := 11) (v := .ref o_text) (C := RX11) (T := TX11) (N := 38) hx hb hts i_X11 hown hK hP 0 rfl rfl 3 (by decide) (hts _ k_840) (fun _ h9 => h9) rfl dX11_mixed_11 ?_
  refine lv_iload_n hx hb dX11_mixed_14 rfl (lv_at hl 1 rfl) ?_
  refine lv_iconst (v := (1 : Int32)) hx hb dX11_mixed_15 (by decide) ?_
  refine lv_iadd hx hb dX11_mixed_16 ?_
  obtain ⟨g2, h⟩ := fb_g h
  refine va_iald hx hb hK hP 1 0 rfl rfl g2 dX11_mixed_17 ?_
  refine lv_bipush (v := (37 : Int32)) hx hb dX11_mixed_18 (by decide) ?_
  refine lv_imul hx hb dX11_mixed_20 ?_
  refine lv_iadd hx hb dX11_mixed_21 ?_
  refine lv_aload_n hx hb dX11_mixed_22 rfl (lv_at hl 0 rfl) ?_
  refine va_get (D := (dC, dI)) (ci := 11) (v := .ref o_text) (C := RX11) (T := TX11) (N := 38) hx hb hts i_X11 hown hK hP 0 rfl rfl 3 (by decide) (hts _ k_840) (fun _ h9 => h9) rfl dX11_mixed_23 ?_
  refine lv_iload_n hx hb dX11_mixed_26 rfl (lv_at hl 1 rfl) ?_
  refine lv_iconst (v := (2 : Int32)) hx hb dX11_mixed_27 (by decide) ?_
  refine lv_iadd hx hb dX11_mixed_28 ?_
  obtain ⟨g3, h⟩ := fb_g h
  refine va_iald hx hb hK hP 1 0 rfl rfl g3 dX11_mixed_29 ?_
  refine lv_iadd hx hb dX11_mixed_30 ?_
  refine lv_sipush (v := (4096 : Int32)) hx hb dX11_mixed_31 (by decide) ?_
  refine lv_irem hx hb dX11_mixed_34 (by decide) ?_
  have hu := Option.some.inj h
  exact hret _ _ _ _ _ dX11_mixed_35 rfl (by rw [← hu]) hP hD hS
