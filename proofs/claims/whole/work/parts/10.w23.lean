theorem dX11_clearOften_0 : decode cX11_clearOften 0 = .ok (.iconst 0, 1) := by decide +kernel
theorem dX11_clearOften_1 : decode cX11_clearOften 1 = .ok (.istore_n 1, 1) := by decide +kernel
theorem dX11_clearOften_2 : decode cX11_clearOften 2 = .ok (.iload_n 1, 1) := by decide +kernel
theorem dX11_clearOften_3 : decode cX11_clearOften 3 = .ok (.sipush 288, 3) := by decide +kernel
theorem dX11_clearOften_6 : decode cX11_clearOften 6 = .ok (.if_icmp .ge 16, 3) := by decide +kernel
theorem dX11_clearOften_9 : decode cX11_clearOften 9 = .ok (.aload_n 0, 1) := by decide +kernel
theorem dX11_clearOften_10 : decode cX11_clearOften 10 = .ok (.getfield 36, 3) := by decide +kernel
theorem dX11_clearOften_13 : decode cX11_clearOften 13 = .ok (.iload_n 1, 1) := by decide +kernel
theorem dX11_clearOften_14 : decode cX11_clearOften 14 = .ok (.iconst 0, 1) := by decide +kernel
theorem dX11_clearOften_15 : decode cX11_clearOften 15 = .ok (.iastore, 1) := by decide +kernel
theorem dX11_clearOften_16 : decode cX11_clearOften 16 = .ok (.iinc 1 1, 3) := by decide +kernel
theorem dX11_clearOften_19 : decode cX11_clearOften 19 = .ok (.goto (-17), 3) := by decide +kernel
theorem dX11_clearOften_22 : decode cX11_clearOften 22 = .ok (.return_, 1) := by decide +kernel
def pX11_clearOften_b2 (o_often_n : Nat)  : Nat → (Nat → Int32) → Int32 → Option ((Nat → Int32))
  | 0 => fun _ _ => none
  | n + 1 => fun o_often_v x1 =>
  if (288 : Int32) ≤ x1 then
  (some (o_often_v))
  else
  (if x1 < 0 ∨ o_often_n ≤ (x1).toNatClampNeg then none else
  (pX11_clearOften_b2 o_often_n n) (upd o_often_v (x1).toNatClampNeg (0 : Int32)) (x1 + (1 : Int32)))
def pX11_clearOften (o_often_n : Nat)  (o_often_v : Nat → Int32) : Option ((Nat → Int32)) :=
  pX11_clearOften_b2 o_often_n fb_F o_often_v (0 : Int32)
theorem hdX11_clearOften : yX11_clearOften.cls = RX11 ∧ yX11_clearOften.cls ≠ "java/lang/invoke/MethodHandle" ∧ yX11_clearOften.cls ≠ "java/lang/invoke/VarHandle" ∧ (parseMethodDescriptor yX11_clearOften.desc).map (fun d => d.parameters.length) = some 0 := by decide +kernel
set_option maxHeartbeats 8000000 in
set_option maxRecDepth 100000 in
theorem mX11_clearOften (l : Launch) (dC : Nat → ClassId) (dI : Nat → Nat → Nat) (o : Nat) (o_often : Nat) (o_text : Nat) (o_packed : Nat) (o_loaded : Nat) (o_out : Nat) (o_lengths : Nat) (o_distances : Nat) (o_heads : Nat) (o_earlier : Nat) (o_symbolLengths : Nat) (o_distanceLengths : Nat) (o_lengthLengths : Nat) (o_symbolCodes : Nat) (o_distanceCodes : Nat) (o_lengthCodes : Nat) (o_counts : Nat) (o_parents : Nat) (o_alone : Nat) (o_row : Nat) (o_toldSymbols : Nat) (o_toldNumbers : Nat) (o_often_c : ClassId) (o_often_n : Nat) (o_textRoom : Int32) (o_byteRoom : Int32) (o_chain : Int32) (o_textSize : Int32) (o_packedSize : Int32) (o_matches : Int32) (o_loadedSize : Int32) (o_outSize : Int32) (o_bits : Int32) (o_tokens : Int32) (o_told : Int32) (o_place : Int32) (o_fail : Int32) (o_found : Int32) (o_symbolCount : Int32) (o_distanceCount : Int32) (o_lengthCount : Int32) (o_often_v : Nat → Int32)  (sz : Nat) (u : (Nat → Int32)) (h : pX11_clearOften o_often_n o_often_v = some u) : Met l yX11_clearOften (Cond.code yX11_clearOften cX11_clearOften 2 none :: fb_tb) ({ frames := 0, cells := 0, slots := 0, locals := 0 }) (fb_Pc (dC, dI) [.ref o] sz [(o_often_c, .int)] [(o, .inr (11, [.int o_textRoom, .int o_byteRoom, .int o_chain, .ref o_text, .int o_textSize, .ref o_packed, .int o_packedSize, .int o_matches, .ref o_loaded, .int o_loadedSize, .ref o_out, .int o_outSize, .int o_bits, .int o_tokens, .ref o_lengths, .ref o_distances, .ref o_heads, .ref o_earlier, .ref o_often, .ref o_symbolLengths, .ref o_distanceLengths, .ref o_lengthLengths, .ref o_symbolCodes, .ref o_distanceCodes, .ref o_lengthCodes, .ref o_counts, .ref o_parents, .ref o_alone, .ref o_row, .int o_told, .ref o_toldSymbols, .ref o_toldNumbers, .int o_place, .int o_fail, .int o_found, .int o_symbolCount, .int o_distanceCount, .int o_lengthCount])), (o_often, .inl (o_often_c, o_often_n, .inl o_often_v))]) (fb_Qv (dC, dI) [(o, .inr (11, [.int o_textRoom, .int o_byteRoom, .int o_chain, .ref o_text, .int o_textSize, .ref o_packed, .int o_packedSize, .int o_matches, .ref o_loaded, .int o_loadedSize, .ref o_out, .int o_outSize, .int o_bits, .int o_tokens, .ref o_lengths, .ref o_distances, .ref o_heads, .ref o_earlier, .ref o_often, .ref o_symbolLengths, .ref o_distanceLengths, .ref o_lengthLengths, .ref o_symbolCodes, .ref o_distanceCodes, .ref o_lengthCodes, .ref o_counts, .ref o_parents, .ref o_alone, .ref o_row, .int o_told, .ref o_toldSymbols, .ref o_toldNumbers, .int o_place, .int o_fail, .int o_found, .int o_symbolCount, .int o_distanceCount, .int o_lengthCount])), (o_often, .inl (o_often_c, o_often_n, .inl u))] (va_A [(o, .inr (11, [.int o_textRoom, .int o_byteRoom, .int o_chain, .ref o_text, .int o_textSize, .ref o_packed, .int o_packedSize, .int o_matches, .ref o_loaded, .int o_loadedSize, .ref o_out, .int o_outSize, .int o_bits, .int o_tokens, .ref o_lengths, .ref o_distances, .ref o_heads, .ref o_earlier, .ref o_often, .ref o_symbolLengths, .ref o_distanceLengths, .ref o_lengthLengths, .ref o_symbolCodes, .ref o_distanceCodes, .ref o_lengthCodes, .ref o_counts, .ref o_parents, .ref o_alone, .ref o_row, .int o_told, .ref o_toldSymbols, .ref o_toldNumbers, .int o_place, .int o_fail, .int o_found, .int o_symbolCount, .int o_distanceCount, .int o_lengthCount])), (o_often, .inl (o_often_c, o_often_n, .inl o_often_v))] sz)) 0 0 (va_A [(o, .inr (11, [.int o_textRoom, .int o_byteRoom, .int o_chain, .ref o_text, .int o_textSize, .ref o_packed, .int o_packedSize, .int o_matches, .ref o_loaded, .int o_loadedSize, .ref o_out, .int o_outSize, .int o_bits, .int o_tokens, .ref o_lengths, .ref o_distances, .ref o_heads, .ref o_earlier, .ref o_often, .ref o_symbolLengths, .ref o_distanceLengths, .ref o_lengthLengths, .ref o_symbolCodes, .ref o_distanceCodes, .ref o_lengthCodes, .ref o_counts, .ref o_parents, .ref o_alone, .ref o_row, .int o_told, .ref o_toldSymbols, .ref o_toldNumbers, .int o_place, .int o_fail, .int o_found, .int o_symbolCount, .int o_distanceCount, .int o_lengthCount])), (o_often, .inl (o_often_c, o_often_n, .inl o_often_v))] sz) := by
  refine fb_metv (by decide) (Nat.le_of_ble_eq_true rfl) (fun p e s m args below meth c A Q ls H hx hb hml hown hts hP hK hN hZ hD hA hS hret hl => ?_)
  replace hl : lv_has ls 2 [(0, .ref o)] := hl
  have wB2 : ∀ n : Nat, ∀ (o_often_v : Nat → Int32) (x1 : Int32) (H : Heap) (locs : List Loc) (ls : Array Slot), va_P (dC, dI) fb_cl [(o, .inr (11, [.int o_textRoom, .int o_byteRoom, .int o_chain, .ref o_text, .int o_textSize, .ref o_packed, .int o_packedSize, .int o_matches, .ref o_loaded, .int o_loadedSize, .ref o_out, .int o_outSize, .int o_bits, .int o_tokens, .ref o_lengths, .ref o_distances, .ref o_heads, .ref o_earlier, .ref o_often, .ref o_symbolLengths, .ref o_distanceLengths, .ref o_lengthLengths, .ref o_symbolCodes, .ref o_distanceCodes, .ref o_lengthCodes, .ref o_counts, .ref o_parents, .ref o_alone, .ref o_row, .int o_told, .ref o_toldSymbols, .ref o_toldNumbers, .int o_place, .int o_fail, .int o_found, .int o_symbolCount, .int o_distanceCount, .int o_lengthCount])), (o_often, .inl (o_often_c, o_often_n, .inl o_often_v))] H → va_D A [(o, .inr (11, [.int o_textRoom, .int o_byteRoom, .int o_chain, .ref o_text, .int o_textSize, .ref o_packed, .int o_packedSize, .int o_matches, .ref o_loaded, .int o_loadedSize, .ref o_out, .int o_outSize, .int o_bits, .int o_tokens, .ref o_lengths, .ref o_distances, .ref o_heads, .ref o_earlier, .ref o_often, .ref o_symbolLengths, .ref o_distanceLengths, .ref o_lengthLengths, .ref o_symbolCodes, .ref o_distanceCodes, .ref o_lengthCodes, .ref o_counts, .ref o_parents, .ref o_alone, .ref o_row, .int o_told, .ref o_toldSymbols, .ref o_toldNumbers, .int o_place, .int o_fail, .int o_found, .int o_symbolCount, .int o_distanceCount, .int o_lengthCount])), (o_often, .inl (o_often_c, o_often_n, .inl o_often_v))] → va_S A s.heap H locs → lv_has ls 2 [(0, .ref o), (1, .int x1)] → pX11_clearOften_b2 o_often_n n o_often_v x1 = some u → W p l e ({ frames := 0, cells := 0, slots := 0, locals := 0 }) s m args below meth c H locs 0 0 Q (F0 m 2 ls []) := by
    intro n
    induction n with
    | zero => intro o_often_v x1 H locs ls hP hD hS hl h; cases h
    | succ n ih =>
      intro o_often_v x1 H locs ls hP hD hS hl h
      rw [pX11_clearOften_b2] at h
      refine lv_iload_n hx hb dX11_clearOften_2 rfl (lv_at hl 1 rfl) ?_
      refine lv_sipush (v := (288 : Int32)) hx hb dX11_clearOften_3 (by decide) ?_
      refine lv_icmp_ge (tgt := 22) hx hb dX11_clearOften_6 (by decide) (fun c1 => ?_) (fun c1 => ?_)
      · replace h := fb_t c1 h
        have hu := Option.some.inj h
        exact hret _ _ _ _ dX11_clearOften_22 (by rw [← hu]; exact hP) (by rw [← hu]; exact hD) hS
      · replace h := fb_f c1 h
        refine lv_aload_n hx hb dX11_clearOften_9 rfl (lv_at hl 0 rfl) ?_
        refine va_get (D := (dC, dI)) (ci := 11) (v := .ref o_often) (C := RX11) (T := TX11) (N := 38) hx hb hts i_X11 hown hK hP 0 rfl rfl 18 (by decide) (hts _ k_855) (fun _ h9 => h9) rfl dX11_clearOften_10 ?_
        refine lv_iload_n hx hb dX11_clearOften_13 rfl (lv_at hl 1 rfl) ?_
        refine lv_iconst (v := (0 : Int32)) hx hb dX11_clearOften_14 (by decide) ?_
        obtain ⟨g2, h⟩ := fb_g h
        refine va_iast hx hb hK hP hD hS 1 0 rfl rfl g2 dX11_clearOften_15 (fun H locs hP hD hS => ?_)
        replace hP : va_P (dC, dI) fb_cl [(o, .inr (11, [.int o_textRoom, .int o_byteRoom, .int o_chain, .ref o_text, .int o_textSize, .ref o_packed, .int o_packedSize, .int o_matches, .ref o_loaded, .int o_loadedSize, .ref o_out, .int o_outSize, .int o_bits, .int o_tokens, .ref o_lengths, .ref o_distances, .ref o_heads, .ref o_earlier, .ref o_often, .ref o_symbolLengths, .ref o_distanceLengths, .ref o_lengthLengths, .ref o_symbolCodes, .ref o_distanceCodes, .ref o_lengthCodes, .ref o_counts, .ref o_parents, .ref o_alone, .ref o_row, .int o_told, .ref o_toldSymbols, .ref o_toldNumbers, .int o_place, .int o_fail, .int o_found, .int o_symbolCount, .int o_distanceCount, .int o_lengthCount])), (o_often, .inl (o_often_c, o_often_n, .inl (upd o_often_v (x1).toNatClampNeg (0 : Int32))))] H := hP
        replace hD : va_D A [(o, .inr (11, [.int o_textRoom, .int o_byteRoom, .int o_chain, .ref o_text, .int o_textSize, .ref o_packed, .int o_packedSize, .int o_matches, .ref o_loaded, .int o_loadedSize, .ref o_out, .int o_outSize, .int o_bits, .int o_tokens, .ref o_lengths, .ref o_distances, .ref o_heads, .ref o_earlier, .ref o_often, .ref o_symbolLengths, .ref o_distanceLengths, .ref o_lengthLengths, .ref o_symbolCodes, .ref o_distanceCodes, .ref o_lengthCodes, .ref o_counts, .ref o_parents, .ref o_alone, .ref o_row, .int o_told, .ref o_toldSymbols, .ref o_toldNumbers, .int o_place, .int o_fail, .int o_found, .int o_symbolCount, .int o_distanceCount, .int o_lengthCount])), (o_often, .inl (o_often_c, o_often_n, .inl (upd o_often_v (x1).toNatClampNeg (0 : Int32))))] := hD
        refine lv_iinc (v := (x1 + (1 : Int32))) (lv' := [(1, .int (x1 + (1 : Int32))), (0, .ref o)]) hx hb dX11_clearOften_16 hl (k := 1) rfl rfl (by decide) rfl (fun ls hl => ?_)
        refine lv_goto (tgt := 2) hx hb dX11_clearOften_19 (by decide) ?_
        exact ih (upd o_often_v (x1).toNatClampNeg (0 : Int32)) (x1 + (1 : Int32)) _ _ _ hP hD hS (lv_sub hl [1, 0] rfl) h
  unfold pX11_clearOften at h
  refine lv_iconst (v := (0 : Int32)) hx hb dX11_clearOften_0 (by decide) ?_
  refine lv_istore_n (lv' := [(1, .int (0 : Int32)), (0, .ref o)]) hx hb dX11_clearOften_1 rfl hl (by decide) rfl (fun ls hl => ?_)
  exact wB2 fb_F o_often_v (0 : Int32) _ _ _ hP hD hS (lv_sub hl [1, 0] rfl) h
theorem dX11_lastOf_0 : decode cX11_lastOf 0 = .ok (.iload_n 1, 1) := by decide +kernel
theorem dX11_lastOf_1 : decode cX11_lastOf 1 = .ok (.iconst 1, 1) := by decide +kernel
theorem dX11_lastOf_2 : decode cX11_lastOf 2 = .ok (.isub, 1) := by decide +kernel
theorem dX11_lastOf_3 : decode cX11_lastOf 3 = .ok (.istore_n 2, 1) := by decide +kernel
theorem dX11_lastOf_4 : decode cX11_lastOf 4 = .ok (.iload_n 2, 1) := by decide +kernel
theorem dX11_lastOf_5 : decode cX11_lastOf 5 = .ok (.ifCond .le 15, 3) := by decide +kernel
theorem dX11_lastOf_8 : decode cX11_lastOf 8 = .ok (.aload_n 0, 1) := by decide +kernel
theorem dX11_lastOf_9 : decode cX11_lastOf 9 = .ok (.iload_n 2, 1) := by decide +kernel
theorem dX11_lastOf_10 : decode cX11_lastOf 10 = .ok (.iaload, 1) := by decide +kernel
theorem dX11_lastOf_11 : decode cX11_lastOf 11 = .ok (.ifCond .ne 9, 3) := by decide +kernel
theorem dX11_lastOf_14 : decode cX11_lastOf 14 = .ok (.iinc 2 (-1), 3) := by decide +kernel
theorem dX11_lastOf_17 : decode cX11_lastOf 17 = .ok (.goto (-13), 3) := by decide +kernel
theorem dX11_lastOf_20 : decode cX11_lastOf 20 = .ok (.iload_n 2, 1) := by decide +kernel
theorem dX11_lastOf_21 : decode cX11_lastOf 21 = .ok (.ireturn, 1) := by decide +kernel
def pX11_lastOf_b4 (a0_n : Nat) (a0_v : Nat → Int32)  : Nat → Int32 → Option (Int32)
  | 0 => fun _ => none
  | n + 1 => fun x2 =>
  if x2 ≤ 0 then
  (some (x2))
  else
  (if x2 < 0 ∨ a0_n ≤ (x2).toNatClampNeg then none else
  if (a0_v (x2).toNatClampNeg) = 0 then
  ((pX11_lastOf_b4 a0_n a0_v n) (x2 + (-1 : Int32)))
  else
  (some (x2)))
def pX11_lastOf (a0_n : Nat) (a0_v : Nat → Int32) (x1 : Int32)   : Option (Int32) :=
  pX11_lastOf_b4 a0_n a0_v fb_F (x1 - (1 : Int32))
theorem hdX11_lastOf : yX11_lastOf.cls ≠ "java/lang/invoke/MethodHandle" ∧ yX11_lastOf.cls ≠ "java/lang/invoke/VarHandle" ∧ (parseMethodDescriptor yX11_lastOf.desc).map (fun d => d.parameters.length) = some 2 := by decide +kernel
set_option maxHeartbeats 8000000 in
set_option maxRecDepth 100000 in
theorem mX11_lastOf (l : Launch) (dC : Nat → ClassId) (dI : Nat → Nat → Nat) (a0 : Nat) (a0_c : ClassId) (a0_n : Nat) (a0_v : Nat → Int32) (x1 : Int32) (sz : Nat) (u : Int32) (h : pX11_lastOf a0_n a0_v x1 = some u) : Met l yX11_lastOf (Cond.code yX11_lastOf cX11_lastOf 3 (some .int) :: fb_tb) ({ frames := 0, cells := 0, slots := 0, locals := 0 }) (fb_Pc (dC, dI) [.ref a0, .int x1] sz [(a0_c, .int)] [(a0, .inl (a0_c, a0_n, .inl a0_v))]) (fb_Qi (dC, dI) u [(a0, .inl (a0_c, a0_n, .inl a0_v))] (va_A [(a0, .inl (a0_c, a0_n, .inl a0_v))] sz)) 0 0 (va_A [(a0, .inl (a0_c, a0_n, .inl a0_v))] sz) := by
  refine fb_meti (ty := .int) (by decide) (Nat.le_of_ble_eq_true rfl) (fun p e s m args below meth c A Q ls H hx hb hml hown hts hP hK hN hZ hD hA hS hret hl => ?_)
  replace hl : lv_has ls 3 [(0, .ref a0), (1, .int x1)] := hl
  have wB4 : ∀ n : Nat, ∀ (x2 : Int32) (H : Heap) (locs : List Loc) (ls : Array Slot), va_P (dC, dI) fb_cl [(a0, .inl (a0_c, a0_n, .inl a0_v))] H → va_D A [(a0, .inl (a0_c, a0_n, .inl a0_v))] → va_S A s.heap H locs → lv_has ls 3 [(0, .ref a0), (2, .int x2)] → pX11_lastOf_b4 a0_n a0_v n x2 = some u → W p l e ({ frames := 0, cells := 0, slots := 0, locals := 0 }) s m args below meth c H locs 0 0 Q (F0 m 4 ls []) := by
    intro n
    induction n with
    | zero => intro x2 H locs ls hP hD hS hl h; cases h
    | succ n ih =>
      intro x2 H locs ls hP hD hS hl h
      rw [pX11_lastOf_b4] at h
      refine lv_iload_n hx hb dX11_lastOf_4 rfl (lv_at hl 1 rfl) ?_
      refine lv_if_le (tgt := 20) hx hb dX11_lastOf_5 (by decide) (fun c1 => ?_) (fun c1 => ?_)
      · replace h := fb_t c1 h
        refine lv_iload_n hx hb dX11_lastOf_20 rfl (lv_at hl 1 rfl) ?_
        have hu := Option.some.inj h
        exact hret _ _ _ _ _ dX11_lastOf_21 rfl (by rw [← hu]) hP hD hS
      · replace h := fb_f c1 h
        refine lv_aload_n hx hb dX11_lastOf_8 rfl (lv_at hl 0 rfl) ?_
        refine lv_iload_n hx hb dX11_lastOf_9 rfl (lv_at hl 1 rfl) ?_
        obtain ⟨g2, h⟩ := fb_g h
        refine va_iald hx hb hK hP 0 0 rfl rfl g2 dX11_lastOf_10 ?_
        refine lv_if_ne (tgt := 20) hx hb dX11_lastOf_11 (by decide) (fun c3 => ?_) (fun c3 => ?_)
        · replace h := fb_f c3 h
          refine lv_iload_n hx hb dX11_lastOf_20 rfl (lv_at hl 1 rfl) ?_
          have hu := Option.some.inj h
          exact hret _ _ _ _ _ dX11_lastOf_21 rfl (by rw [← hu]) hP hD hS
        · replace h := fb_t c3 h
          refine lv_iinc (v := (x2 + (-1 : Int32))) (lv' := [(2, .int (x2 + (-1 : Int32))), (0, .ref a0)]) hx hb dX11_lastOf_14 hl (k := 1) rfl rfl (by decide) rfl (fun ls hl => ?_)
          refine lv_goto (tgt := 4) hx hb dX11_lastOf_17 (by decide) ?_
          exact ih (x2 + (-1 : Int32)) _ _ _ hP hD hS (lv_sub hl [1, 0] rfl) h
  unfold pX11_lastOf at h
  refine lv_iload_n hx hb dX11_lastOf_0 rfl (lv_at hl 1 rfl) ?_
  refine lv_iconst (v := (1 : Int32)) hx hb dX11_lastOf_1 (by decide) ?_
  refine lv_isub hx hb dX11_lastOf_2 ?_
  refine lv_istore_n (lv' := [(2, .int (x1 - (1 : Int32))), (0, .ref a0), (1, .int x1)]) hx hb dX11_lastOf_3 rfl hl (by decide) rfl (fun ls hl => ?_)
  exact wB4 fb_F (x1 - (1 : Int32)) _ _ _ hP hD hS (lv_sub hl [1, 0] rfl) h
theorem dX11_orderOf_0 : decode cX11_orderOf 0 = .ok (.iload_n 0, 1) := by decide +kernel
theorem dX11_orderOf_1 : decode cX11_orderOf 1 = .ok (.iconst 3, 1) := by decide +kernel
theorem dX11_orderOf_2 : decode cX11_orderOf 2 = .ok (.if_icmp .ge 10, 3) := by decide +kernel
theorem dX11_orderOf_5 : decode cX11_orderOf 5 = .ok (.bipush 16, 2) := by decide +kernel
theorem dX11_orderOf_7 : decode cX11_orderOf 7 = .ok (.iload_n 0, 1) := by decide +kernel
theorem dX11_orderOf_8 : decode cX11_orderOf 8 = .ok (.iadd, 1) := by decide +kernel
theorem dX11_orderOf_9 : decode cX11_orderOf 9 = .ok (.goto 33, 3) := by decide +kernel
theorem dX11_orderOf_12 : decode cX11_orderOf 12 = .ok (.iload_n 0, 1) := by decide +kernel
theorem dX11_orderOf_13 : decode cX11_orderOf 13 = .ok (.iconst 3, 1) := by decide +kernel
theorem dX11_orderOf_14 : decode cX11_orderOf 14 = .ok (.if_icmp .ne 7, 3) := by decide +kernel
theorem dX11_orderOf_17 : decode cX11_orderOf 17 = .ok (.iconst 0, 1) := by decide +kernel
theorem dX11_orderOf_18 : decode cX11_orderOf 18 = .ok (.goto 24, 3) := by decide +kernel
theorem dX11_orderOf_21 : decode cX11_orderOf 21 = .ok (.iload_n 0, 1) := by decide +kernel
theorem dX11_orderOf_22 : decode cX11_orderOf 22 = .ok (.iconst 2, 1) := by decide +kernel
theorem dX11_orderOf_23 : decode cX11_orderOf 23 = .ok (.irem, 1) := by decide +kernel
theorem dX11_orderOf_24 : decode cX11_orderOf 24 = .ok (.ifCond .ne 12, 3) := by decide +kernel
theorem dX11_orderOf_27 : decode cX11_orderOf 27 = .ok (.bipush 6, 2) := by decide +kernel
theorem dX11_orderOf_29 : decode cX11_orderOf 29 = .ok (.iload_n 0, 1) := by decide +kernel
theorem dX11_orderOf_30 : decode cX11_orderOf 30 = .ok (.iconst 2, 1) := by decide +kernel
theorem dX11_orderOf_31 : decode cX11_orderOf 31 = .ok (.idiv, 1) := by decide +kernel
theorem dX11_orderOf_32 : decode cX11_orderOf 32 = .ok (.iadd, 1) := by decide +kernel
theorem dX11_orderOf_33 : decode cX11_orderOf 33 = .ok (.goto 9, 3) := by decide +kernel
theorem dX11_orderOf_36 : decode cX11_orderOf 36 = .ok (.bipush 9, 2) := by decide +kernel
theorem dX11_orderOf_38 : decode cX11_orderOf 38 = .ok (.iload_n 0, 1) := by decide +kernel
theorem dX11_orderOf_39 : decode cX11_orderOf 39 = .ok (.iconst 2, 1) := by decide +kernel
theorem dX11_orderOf_40 : decode cX11_orderOf 40 = .ok (.idiv, 1) := by decide +kernel
theorem dX11_orderOf_41 : decode cX11_orderOf 41 = .ok (.isub, 1) := by decide +kernel
theorem dX11_orderOf_42 : decode cX11_orderOf 42 = .ok (.ireturn, 1) := by decide +kernel
def pX11_orderOf (x0 : Int32)   : Option (Int32) :=
  if (3 : Int32) ≤ x0 then
  (if x0 = (3 : Int32) then
  (some ((0 : Int32)))
  else
  (if (x0 - x0 / (2 : Int32) * (2 : Int32)) = 0 then
  (some (((6 : Int32) + (x0 / (2 : Int32)))))
  else
  (some (((9 : Int32) - (x0 / (2 : Int32)))))))
  else
  (some (((16 : Int32) + x0)))
theorem hdX11_orderOf : yX11_orderOf.cls ≠ "java/lang/invoke/MethodHandle" ∧ yX11_orderOf.cls ≠ "java/lang/invoke/VarHandle" ∧ (parseMethodDescriptor yX11_orderOf.desc).map (fun d => d.parameters.length) = some 1 := by decide +kernel
set_option maxHeartbeats 8000000 in
set_option maxRecDepth 100000 in
theorem mX11_orderOf (l : Launch) (dC : Nat → ClassId) (dI : Nat → Nat → Nat)     (x0 : Int32) (sz : Nat) (u : Int32) (h : pX11_orderOf x0 = some u) : Met l yX11_orderOf (Cond.code yX11_orderOf cX11_orderOf 1 (some .int) :: fb_tb) ({ frames := 0, cells := 0, slots := 0, locals := 0 }) (fb_Pc (dC, dI) [.int x0] sz [] []) (fb_Qi (dC, dI) u [] (va_A [] sz)) 0 0 (va_A [] sz) := by
  refine fb_meti (ty := .int) (by decide) (Nat.le_of_ble_eq_true rfl) (fun p e s m args below meth c A Q ls H hx hb hml hown hts hP hK hN hZ hD hA hS hret hl => ?_)
  replace hl : lv_has ls 1 [(0, .int x0)] := hl
  unfold pX11_orderOf at h
  refine lv_iload_n hx hb dX11_orderOf_0 rfl (lv_at hl 0 rfl) ?_
  refine lv_iconst (v := (3 : Int32)) hx hb dX11_orderOf_1 (by decide) ?_
  refine lv_icmp_ge (tgt := 12) hx hb dX11_orderOf_2 (by decide) (fun c1 => ?_) (fun c1 => ?_)
  · replace h := fb_t c1 h
    refine lv_iload_n hx hb dX11_orderOf_12 rfl (lv_at hl 0 rfl) ?_
    refine lv_iconst (v := (3 : Int32)) hx hb dX11_orderOf_13 (by decide) ?_
    refine lv_icmp_ne (tgt := 21) hx hb dX11_orderOf_14 (by decide) (fun c2 => ?_) (fun c2 => ?_)
    · replace h := fb_f c2 h
      refine lv_iload_n hx hb dX11_orderOf_21 rfl (lv_at hl 0 rfl) ?_
      refine lv_iconst (v := (2 : Int32)) hx hb dX11_orderOf_22 (by decide) ?_
      refine lv_irem hx hb dX11_orderOf_23 (by decide) ?_
      refine lv_if_ne (tgt := 36) hx hb dX11_orderOf_24 (by decide) (fun c3 => ?_) (fun c3 => ?_)
      · replace h := fb_f c3 h
        refine lv_bipush (v := (9 : Int32)) hx hb dX11_orderOf_36 (by decide) ?_
        refine lv_iload_n hx hb dX11_orderOf_38 rfl (lv_at hl 0 rfl) ?_
        refine lv_iconst (v := (2 : Int32)) hx hb dX11_orderOf_39 (by decide) ?_
        refine lv_idiv hx hb dX11_orderOf_40 (by decide) ?_
        refine lv_isub hx hb dX11_orderOf_41 ?_
        have hu := Option.some.inj h
        exact hret _ _ _ _ _ dX11_orderOf_42 rfl (by rw [← hu]) hP hD hS
      · replace h := fb_t c3 h
        refine lv_bipush (v := (6 : Int32)) hx hb dX11_orderOf_27 (by decide) ?_
        refine lv_iload_n hx hb dX11_orderOf_29 rfl (lv_at hl 0 rfl) ?_
        refine lv_iconst (v := (2 : Int32)) hx hb dX11_orderOf_30 (by decide) ?_
        refine lv_idiv hx hb dX11_orderOf_31 (by decide) ?_
        refine lv_iadd hx hb dX11_orderOf_32 ?_
        refine lv_goto (tgt := 42) hx hb dX11_orderOf_33 (by decide) ?_
        have hu := Option.some.inj h
        exact hret _ _ _ _ _ dX11_orderOf_42 rfl (by rw [← hu]) hP hD hS
    · replace h := fb_t c2 h
      refine lv_iconst (v := (0 : Int32)) hx hb dX11_orderOf_17 (by decide) ?_
      refine lv_goto (tgt := 42) hx hb dX11_orderOf_18 (by decide) ?_
      have hu := Option.some.inj h
      exact hret _ _ _ _ _ dX11_orderOf_42 rfl (by rw [← hu]) hP hD hS
  · replace h := fb_f c1 h
    refine lv_bipush (v := (16 : Int32)) hx hb dX11_orderOf_5 (by decide) ?_
    refine lv_iload_n hx hb dX11_orderOf_7 rfl (lv_at hl 0 rfl) ?_
    refine lv_iadd hx hb dX11_orderOf_8 ?_
    refine lv_goto (tgt := 42) hx hb dX11_orderOf_9 (by decide) ?_
    have hu := Option.some.inj h
    exact hret _ _ _ _ _ dX11_orderOf_42 rfl (by rw [← hu]) hP hD hS
theorem dX11_tellOne_0 : decode cX11_tellOne 0 = .ok (.aload_n 0, 1) := by decide +kernel
theorem dX11_tellOne_1 : decode cX11_tellOne 1 = .ok (.getfield 70, 3) := by decide +kernel
theorem dX11_tellOne_4 : decode cX11_tellOne 4 = .ok (.aload_n 0, 1) := by decide +kernel
theorem dX11_tellOne_5 : decode cX11_tellOne 5 = .ok (.getfield 150, 3) := by decide +kernel
theorem dX11_tellOne_8 : decode cX11_tellOne 8 = .ok (.iload_n 1, 1) := by decide +kernel
theorem dX11_tellOne_9 : decode cX11_tellOne 9 = .ok (.iastore, 1) := by decide +kernel
theorem dX11_tellOne_10 : decode cX11_tellOne 10 = .ok (.aload_n 0, 1) := by decide +kernel
theorem dX11_tellOne_11 : decode cX11_tellOne 11 = .ok (.getfield 73, 3) := by decide +kernel
theorem dX11_tellOne_14 : decode cX11_tellOne 14 = .ok (.aload_n 0, 1) := by decide +kernel
theorem dX11_tellOne_15 : decode cX11_tellOne 15 = .ok (.getfield 150, 3) := by decide +kernel
theorem dX11_tellOne_18 : decode cX11_tellOne 18 = .ok (.iload_n 2, 1) := by decide +kernel
theorem dX11_tellOne_19 : decode cX11_tellOne 19 = .ok (.iastore, 1) := by decide +kernel
theorem dX11_tellOne_20 : decode cX11_tellOne 20 = .ok (.aload_n 0, 1) := by decide +kernel
theorem dX11_tellOne_21 : decode cX11_tellOne 21 = .ok (.dup, 1) := by decide +kernel
theorem dX11_tellOne_22 : decode cX11_tellOne 22 = .ok (.getfield 150, 3) := by decide +kernel
theorem dX11_tellOne_25 : decode cX11_tellOne 25 = .ok (.iconst 1, 1) := by decide +kernel
theorem dX11_tellOne_26 : decode cX11_tellOne 26 = .ok (.iadd, 1) := by decide +kernel
theorem dX11_tellOne_27 : decode cX11_tellOne 27 = .ok (.putfield 150, 3) := by decide +kernel
theorem dX11_tellOne_30 : decode cX11_tellOne 30 = .ok (.return_, 1) := by decide +kernel
def pX11_tellOne (o_toldSymbols_n : Nat) (o_toldNumbers_n : Nat) (x1 : Int32) (x2 : Int32)  (o_told : Int32) (o_toldSymbols_v : Nat → Int32) (o_toldNumbers_v : Nat → Int32) : Option (Int32 × (Nat → Int32) × (Nat → Int32)) :=
  if o_told < 0 ∨ o_toldSymbols_n ≤ (o_told).toNatClampNeg then none else
  if o_told < 0 ∨ o_toldNumbers_n ≤ (o_told).toNatClampNeg then none else
  some ((o_told + (1 : Int32)), (upd o_toldSymbols_v (o_told).toNatClampNeg x1), (upd o_toldNumbers_v (o_told).toNatClampNeg x2))
theorem hdX11_tellOne : yX11_tellOne.cls = RX11 ∧ yX11_tellOne.cls ≠ "java/lang/invoke/MethodHandle" ∧ yX11_tellOne.cls ≠ "java/lang/invoke/VarHandle" ∧ (parseMethodDescriptor yX11_tellOne.desc).map (fun d => d.parameters.length) = some 2 := by decide +kernel
set_option maxHeartbeats 8000000 in
set_option maxRecDepth 100000 in
theorem mX11_tellOne (l : Launch) (dC : Nat → ClassId) (dI : Nat → Nat → Nat) (o : Nat) (o_toldSymbols : Nat) (o_toldNumbers : Nat) (o_text : Nat) (o_packed : Nat) (o_loaded : Nat) (o_out : Nat) (o_lengths : Nat) (o_distances : Nat) (o_heads : Nat) (o_earlier : Nat) (o_often : Nat) (o_symbolLengths : Nat) (o_distanceLengths : Nat) (o_lengthLengths : Nat) (o_symbolCodes : Nat) (o_distanceCodes : Nat) (o_lengthCodes : Nat) (o_counts : Nat) (o_parents : Nat) (o_alone : Nat) (o_row : Nat) (o_toldSymbols_c : ClassId) (o_toldNumbers_c : ClassId) (o_toldSymbols_n : Nat) (o_toldNumbers_n : Nat) (o_textRoom : Int32) (o_byteRoom : Int32) (o_chain : Int32) (o_textSize : Int32) (o_packedSize : Int32) (o_matches : Int32) (o_loadedSize : Int32) (o_outSize : Int32) (o_bits : Int32) (o_tokens : Int32) (o_told : Int32) (o_place : Int32) (o_fail : Int32) (o_found : Int32) (o_symbolCount : Int32) (o_distanceCount : Int32) (o_lengthCount : Int32) (o_toldSymbols_v : Nat → Int32) (o_toldNumbers_v : Nat → Int32) (x1 : Int32) (x2 : Int32) (sz : Nat) (u : Int32 × (Nat → Int32) × (Nat → Int32)) (h : pX11_tellOne o_toldSymbols_n o_toldNumbers_n x1 x2 o_told o_toldSymbols_v o_toldNumbers_v = some u) : Met l yX11_tellOne (Cond.code yX11_tellOne cX11_tellOne 3 none :: fb_tb) ({ frames := 0, cells := 0, slots := 0, locals := 0 }) (fb_Pc (dC, dI) [.ref o, .int x1, .int x2] sz [(o_toldSymbols_c, .int), (o_toldNumbers_c, .int)] [(o, .inr (11, [.int o_textRoom, .int o_byteRoom, .int o_chain, .ref o_text, .int o_textSize, .ref o_packed, .int o_packedSize, .int o_matches, .ref o_loaded, .int o_loadedSize, .ref o_out, .int o_outSize, .int o_bits, .int o_tokens, .ref o_lengths, .ref o_distances, .ref o_heads, .ref o_earlier, .ref o_often, .ref o_symbolLengths, .ref o_distanceLengths, .ref o_lengthLengths, .ref o_symbolCodes, .ref o_distanceCodes, .ref o_lengthCodes, .ref o_counts, .ref o_parents, .ref o_alone, .ref o_row, .int o_told, .ref o_toldSymbols, .ref o_toldNumbers, .int o_place, .int o_fail, .int o_found, .int o_symbolCount, .int o_distanceCount, .int o_lengthCount])), (o_toldSymbols, .inl (o_toldSymbols_c, o_toldSymbols_n, .inl o_toldSymbols_v)), (o_toldNumbers, .inl (o_toldNumbers_c, o_toldNumbers_n, .inl o_toldNumbers_v))]) (fb_Qv (dC, dI) [(o, .inr (11, [.int o_textRoom, .int o_byteRoom, .int o_chain, .ref o_text, .int o_textSize, .ref o_packed, .int o_packedSize, .int o_matches, .ref o_loaded, .int o_loadedSize, .ref o_out, .int o_outSize, .int o_bits, .int o_tokens, .ref o_lengths, .ref o_distances, .ref o_heads, .ref o_earlier, .ref o_often, .ref o_symbolLengths, .ref o_distanceLengths, .ref o_lengthLengths, .ref o_symbolCodes, .ref o_distanceCodes, .ref o_lengthCodes, .ref o_counts, .ref o_parents, .ref o_alone, .ref o_row, .int u.1, .ref o_toldSymbols, .ref o_toldNumbers, .int o_place, .int o_fail, .int o_found, .int o_symbolCount, .int o_distanceCount, .int o_lengthCount])), (o_toldSymbols, .inl (o_toldSymbols_c, o_toldSymbols_n, .inl u.2.1)), (o_toldNumbers, .inl (o_toldNumbers_c, o_toldNumbers_n, .inl u.2.2))] (va_A [(o, .inr (11, [.int o_textRoom, .int o_byteRoom, .int o_chain, .ref o_text, .int o_textSize, .ref o_packed, .int o_packedSize, .int o_matches, .ref o_loaded, .int o_loadedSize, .ref o_out, .int o_outSize, .int o_bits, .int o_tokens, .ref o_lengths, .ref o_distances, .ref o_heads, .ref o_earlier, .ref o_often, .ref o_symbolLengths, .ref o_distanceLengths, .ref o_lengthLengths, .ref o_symbolCodes, .ref o_distanceCodes, .ref o_lengthCodes, .ref o_counts, .ref o_parents, .ref o_alone, .ref o_row, .int o_told, .ref o_toldSymbols, .ref o_toldNumbers, .int o_place, .int o_fail, .int o_found, .int o_symbolCount, .int o_distanceCount, .int o_lengthCount])), (o_toldSymbols, .inl (o_toldSymbols_c, o_toldSymbols_n, .inl o_toldSymbols_v)), (o_toldNumbers, .inl (o_toldNumbers_c, o_toldNumbers_n, .inl o_toldNumbers_v))] sz)) 0 0 (va_A [(o, .inr (11, [.int o_textRoom, .int o_byteRoom, .int o_chain, .ref o_text, .int o_textSize, .ref o_packed, .int o_packedSize, .int o_matches, .ref o_loaded, .int o_loadedSize, .ref o_out, .int o_outSize, .int o_bits, .int o_tokens, .ref o_lengths, .ref o_distances, .ref o_heads, .ref o_earlier, .ref o_often, .ref o_symbolLengths, .ref o_distanceLengths, .ref o_lengthLengths, .ref o_symbolCodes, .ref o_distanceCodes, .ref o_lengthCodes, .ref o_counts, .ref o_parents, .ref o_alone, .ref o_row, .int o_told, .ref o_toldSymbols, .ref o_toldNumbers, .int o_place, .int o_fail, .int o_found, .int o_symbolCount, .int o_distanceCount, .int o_lengthCount])), (o_toldSymbols, .inl (o_toldSymbols_c, o_toldSymbols_n, .inl o_toldSymbols_v)), (o_toldNumbers, .inl (o_toldNumbers_c, o_toldNumbers_n, .inl o_toldNumbers_v))] sz) := by
  refine fb_metv (by decide) (Nat.le_of_ble_eq_true rfl) (fun p e s m args below meth c A Q ls H hx hb hml hown hts hP hK hN hZ hD hA hS hret hl => ?_)
  replace hl : lv_has ls 3 [(0, .ref o), (1, .int x1), (2, .int x2)] := hl
  unfold pX11_tellOne at h
  refine lv_aload_n hx hb dX11_tellOne_0 rfl (lv_at hl 0 rfl) ?_
  refine va_get (D := (dC, dI)) (ci := 11) (v := .ref o_toldSymbols) (C := RX11) (T := TX11) (N := 38) hx hb hts i_X11 hown hK hP 0 rfl rfl 30 (by decide) (hts _ k_867) (fun _ h9 => h9) rfl dX11_tellOne_1 ?_
  refine lv_aload_n hx hb dX11_tellOne_4 rfl (lv_at hl 0 rfl) ?_
  refine va_get (D := (dC, dI)) (ci := 11) (v := .int o_told) (C := RX11) (T := TX11) (N := 38) hx hb hts i_X11 hown hK hP 0 rfl rfl 29 (by decide) (hts _ k_866) (fun _ h9 => h9) rfl dX11_tellOne_5 ?_
  refine lv_iload_n hx hb dX11_tellOne_8 rfl (lv_at hl 1 rfl) ?_
  obtain ⟨g1, h⟩ := fb_g h
  refine va_iast hx hb hK hP hD hS 1 0 rfl rfl g1 dX11_tellOne_9 (fun H locs hP hD hS => ?_)
  replace hP : va_P (dC, dI) fb_cl [(o, .inr (11, [.int o_textRoom, .int o_byteRoom, .int o_chain, .ref o_text, .int o_textSize, .ref o_packed, .int o_packedSize, .int o_matches, .ref o_loaded, .int o_loadedSize, .ref o_out, .int o_outSize, .int o_bits, .int o_tokens, .ref o_lengths, .ref o_distances, .ref o_heads, .ref o_earlier, .ref o_often, .ref o_symbolLengths, .ref o_distanceLengths, .ref o_lengthLengths, .ref o_symbolCodes, .ref o_distanceCodes, .ref o_lengthCodes, .ref o_counts, .ref o_parents, .ref o_alone, .ref o_row, .int o_told, .ref o_toldSymbols, .ref o_toldNumbers, .int o_place, .int o_fail, .int o_found, .int o_symbolCount, .int o_distanceCount, .int o_lengthCount])), (o_toldSymbols, .inl (o_toldSymbols_c, o_toldSymbols_n, .inl (upd o_toldSymbols_v (o_told).toNatClampNeg x1))), (o_toldNumbers, .inl (o_toldNumbers_c, o_toldNumbers_n, .inl o_toldNumbers_v))] H := hP
  replace hD : va_D A [(o, .inr (11, [.int o_textRoom, .int o_byteRoom, .int o_chain, .ref o_text, .int o_textSize, .ref o_packed, .int o_packedSize, .int o_matches, .ref o_loaded, .int o_loadedSize, .ref o_out, .int o_outSize, .int o_bits, .int o_tokens, .ref o_lengths, .ref o_distances, .ref o_heads, .ref o_earlier, .ref o_often, .ref o_symbolLengths, .ref o_distanceLengths, .ref o_lengthLengths, .ref o_symbolCodes, .ref o_distanceCodes, .ref o_lengthCodes, .ref o_counts, .ref o_parents, .ref o_alone, .ref o_row, .int o_told, .ref o_toldSymbols, .ref o_toldNumbers, .int o_place, .int o_fail, .int o_found, .int o_symbolCount, .int o_distanceCount, .int o_lengthCount])), (o_toldSymbols, .inl (o_toldSymbols_c, o_toldSymbols_n, .inl (upd o_toldSymbols_v (o_told).toNatClampNeg x1))), (o_toldNumbers, .inl (o_toldNumbers_c, o_toldNumbers_n, .inl o_toldNumbers_v))] := hD
  refine lv_aload_n hx hb dX11_tellOne_10 rfl (lv_at hl 0 rfl) ?_
  refine va_get (D := (dC, dI)) (ci := 11) (v := .ref o_toldNumbers) (C := RX11) (T := TX11) (N := 38) hx hb hts i_X11 hown hK hP 0 rfl rfl 31 (by decide) (hts _ k_868) (fun _ h9 => h9) rfl dX11_tellOne_11 ?_
  refine lv_aload_n hx hb dX11_tellOne_14 rfl (lv_at hl 0 rfl) ?_
  refine va_get (D := (dC, dI)) (ci := 11) (v := .int o_told) (C := RX11) (T := TX11) (N := 38) hx hb hts i_X11 hown hK hP 0 rfl rfl 29 (by decide) (hts _ k_866) (fun _ h9 => h9) rfl dX11_tellOne_15 ?_
  refine lv_iload_n hx hb dX11_tellOne_18 rfl (lv_at hl 2 rfl) ?_
  obtain ⟨g2, h⟩ := fb_g h
  refine va_iast hx hb hK hP hD hS 2 1 rfl rfl g2 dX11_tellOne_19 (fun H locs hP hD hS => ?_)
  replace hP : va_P (dC, dI) fb_cl [(o, .inr (11, [.int o_textRoom, .int o_byteRoom, .int o_chain, .ref o_text, .int o_textSize, .ref o_packed, .int o_packedSize, .int o_matches, .ref o_loaded, .int o_loadedSize, .ref o_out, .int o_outSize, .int o_bits, .int o_tokens, .ref o_lengths, .ref o_distances, .ref o_heads, .ref o_earlier, .ref o_often, .ref o_symbolLengths, .ref o_distanceLengths, .ref o_lengthLengths, .ref o_symbolCodes, .ref o_distanceCodes, .ref o_lengthCodes, .ref o_counts, .ref o_parents, .ref o_alone, .ref o_row, .int o_told, .ref o_toldSymbols, .ref o_toldNumbers, .int o_place, .int o_fail, .int o_found, .int o_symbolCount, .int o_distanceCount, .int o_lengthCount])), (o_toldSymbols, .inl (o_toldSymbols_c, o_toldSymbols_n, .inl (upd o_toldSymbols_v (o_told).toNatClampNeg x1))), (o_toldNumbers, .inl (o_toldNumbers_c, o_toldNumbers_n, .inl (upd o_toldNumbers_v (o_told).toNatClampNeg x2)))] H := hP
  replace hD : va_D A [(o, .inr (11, [.int o_textRoom, .int o_byteRoom, .int o_chain, .ref o_text, .int o_textSize, .ref o_packed, .int o_packedSize, .int o_matches, .ref o_loaded, .int o_loadedSize, .ref o_out, .int o_outSize, .int o_bits, .int o_tokens, .ref o_lengths, .ref o_distances, .ref o_heads, .ref o_earlier, .ref o_often, .ref o_symbolLengths, .ref o_distanceLengths, .ref o_lengthLengths, .ref o_symbolCodes, .ref o_distanceCodes, .ref o_lengthCodes, .ref o_counts, .ref o_parents, .ref o_alone, .ref o_row, .int o_told, .ref o_toldSymbols, .ref o_toldNumbers, .int o_place, .int o_fail, .int o_found, .int o_symbolCount, .int o_distanceCount, .int o_lengthCount])), (o_toldSymbols, .inl (o_toldSymbols_c, o_toldSymbols_n, .inl (upd o_toldSymbols_v (o_told).toNatClampNeg x1))), (o_toldNumbers, .inl (o_toldNumbers_c, o_toldNumbers_n, .inl (upd o_toldNumbers_v (o_told).toNatClampNeg x2)))] := hD
  refine lv_aload_n hx hb dX11_tellOne_20 rfl (lv_at hl 0 rfl) ?_
  refine lv_dup hx hb dX11_tellOne_21 rfl ?_
  refine va_get (D := (dC, dI)) (ci := 11) (v := .int o_told) (C := RX11) (T := TX11) (N := 38) hx hb hts i_X11 hown hK hP 0 rfl rfl 29 (by decide) (hts _ k_866) (fun _ h9 => h9) rfl dX11_tellOne_22 ?_
  refine lv_iconst (v := (1 : Int32)) hx hb dX11_tellOne_25 (by decide) ?_
  refine lv_iadd hx hb dX11_tellOne_26 ?_
  refine va_put (D := (dC, dI)) (ci := 11) (v := .int (o_told + (1 : Int32))) (ty := .int) (C := RX11) (T := TX11) (N := 38) hx hb hts i_X11 tyX11 tyX11_ok nmX11 hown hK hP hD hS 0 rfl rfl 29 (by decide) (hts _ k_866) (fun _ h9 => h9) rfl (by decide +kernel) rfl rfl (Nat.le_of_ble_eq_true rfl) dX11_tellOne_27 (fun H locs hP hD hS => ?_)
  replace hP : va_P (dC, dI) fb_cl [(o, .inr (11, [.int o_textRoom, .int o_byteRoom, .int o_chain, .ref o_text, .int o_textSize, .ref o_packed, .int o_packedSize, .int o_matches, .ref o_loaded, .int o_loadedSize, .ref o_out, .int o_outSize, .int o_bits, .int o_tokens, .ref o_lengths, .ref o_distances, .ref o_heads, .ref o_earlier, .ref o_often, .ref o_symbolLengths, .ref o_distanceLengths, .ref o_lengthLengths, .ref o_symbolCodes, .ref o_distanceCodes, .ref o_lengthCodes, .ref o_counts, .ref o_parents, .ref o_alone, .ref o_row, .int (o_told + (1 : Int32)), .ref o_toldSymbols, .ref o_toldNumbers, .int o_place, .int o_fail, .int o_found, .int o_symbolCount, .int o_distanceCount, .int o_lengthCount])), (o_toldSymbols, .inl (o_toldSymbols_c, o_toldSymbols_n, .inl (upd o_toldSymbols_v (o_told).toNatClampNeg x1))), (o_toldNumbers, .inl (o_toldNumbers_c, o_toldNumbers_n, .inl (upd o_toldNumbers_v (o_told).toNatClampNeg x2)))] H := hP
  replace hD : va_D A [(o, .inr (11, [.int o_textRoom, .int o_byteRoom, .int o_chain, .ref o_text, .int o_textSize, .ref o_packed, .int o_packedSize, .int o_matches, .ref o_loaded, .int o_loadedSize, .ref o_out, .int o_outSize, .int o_bits, .int o_tokens, .ref o_lengths, .ref o_distances, .ref o_heads, .ref o_earlier, .ref o_often, .ref o_symbolLengths, .ref o_distanceLengths, .ref o_lengthLengths, .ref o_symbolCodes, .ref o_distanceCodes, .ref o_lengthCodes, .ref o_counts, .ref o_parents, .ref o_alone, .ref o_row, .int (o_told + (1 : Int32)), .ref o_toldSymbols, .ref o_toldNumbers, .int o_place, .int o_fail, .int o_found, .int o_symbolCount, .int o_distanceCount, .int o_lengthCount])), (o_toldSymbols, .inl (o_toldSymbols_c, o_toldSymbols_n, .inl (upd o_toldSymbols_v (o_told).toNatClampNeg x1))), (o_toldNumbers, .inl (o_toldNumbers_c, o_toldNumbers_n, .inl (upd o_toldNumbers_v (o_told).toNatClampNeg x2)))] := hD
  have hu := Option.some.inj h
  exact hret _ _ _ _ dX11_tellOne_30 (by rw [← hu]; exact hP) (by rw [← hu]; exact hD) hS
theorem dX11_tellRow_0 : decode cX11_tellRow 0 = .ok (.aload_n 0, 1) := by decide +kernel
theorem dX11_tellRow_1 : decode cX11_tellRow 1 = .ok (.iconst 0, 1) := by decide +kernel
theorem dX11_tellRow_2 : decode cX11_tellRow 2 = .ok (.putfield 150, 3) := by decide +kernel
theorem dX11_tellRow_5 : decode cX11_tellRow 5 = .ok (.iconst 0, 1) := by decide +kernel
theorem dX11_tellRow_6 : decode cX11_tellRow 6 = .ok (.istore_n 2, 1) := by decide +kernel
theorem dX11_tellRow_7 : decode cX11_tellRow 7 = .ok (.iload_n 2, 1) := by decide +kernel
theorem dX11_tellRow_8 : decode cX11_tellRow 8 = .ok (.iload_n 1, 1) := by decide +kernel
theorem dX11_tellRow_9 : decode cX11_tellRow 9 = .ok (.if_icmp .ge 177, 3) := by decide +kernel
theorem dX11_tellRow_12 : decode cX11_tellRow 12 = .ok (.iconst 1, 1) := by decide +kernel
theorem dX11_tellRow_13 : decode cX11_tellRow 13 = .ok (.istore_n 3, 1) := by decide +kernel
theorem dX11_tellRow_14 : decode cX11_tellRow 14 = .ok (.iload_n 2, 1) := by decide +kernel
theorem dX11_tellRow_15 : decode cX11_tellRow 15 = .ok (.iload_n 3, 1) := by decide +kernel
theorem dX11_tellRow_16 : decode cX11_tellRow 16 = .ok (.iadd, 1) := by decide +kernel
theorem dX11_tellRow_17 : decode cX11_tellRow 17 = .ok (.iload_n 1, 1) := by decide +kernel
theorem dX11_tellRow_18 : decode cX11_tellRow 18 = .ok (.if_icmp .ge 26, 3) := by decide +kernel
theorem dX11_tellRow_21 : decode cX11_tellRow 21 = .ok (.aload_n 0, 1) := by decide +kernel
theorem dX11_tellRow_22 : decode cX11_tellRow 22 = .ok (.getfield 67, 3) := by decide +kernel
theorem dX11_tellRow_25 : decode cX11_tellRow 25 = .ok (.iload_n 2, 1) := by decide +kernel
theorem dX11_tellRow_26 : decode cX11_tellRow 26 = .ok (.iload_n 3, 1) := by decide +kernel
theorem dX11_tellRow_27 : decode cX11_tellRow 27 = .ok (.iadd, 1) := by decide +kernel
theorem dX11_tellRow_28 : decode cX11_tellRow 28 = .ok (.iaload, 1) := by decide +kernel
theorem dX11_tellRow_29 : decode cX11_tellRow 29 = .ok (.aload_n 0, 1) := by decide +kernel
theorem dX11_tellRow_30 : decode cX11_tellRow 30 = .ok (.getfield 67, 3) := by decide +kernel
theorem dX11_tellRow_33 : decode cX11_tellRow 33 = .ok (.iload_n 2, 1) := by decide +kernel
theorem dX11_tellRow_34 : decode cX11_tellRow 34 = .ok (.iaload, 1) := by decide +kernel
theorem dX11_tellRow_35 : decode cX11_tellRow 35 = .ok (.if_icmp .ne 9, 3) := by decide +kernel
theorem dX11_tellRow_38 : decode cX11_tellRow 38 = .ok (.iinc 3 1, 3) := by decide +kernel
theorem dX11_tellRow_41 : decode cX11_tellRow 41 = .ok (.goto (-27), 3) := by decide +kernel
theorem dX11_tellRow_44 : decode cX11_tellRow 44 = .ok (.aload_n 0, 1) := by decide +kernel
theorem dX11_tellRow_45 : decode cX11_tellRow 45 = .ok (.getfield 67, 3) := by decide +kernel
theorem dX11_tellRow_48 : decode cX11_tellRow 48 = .ok (.iload_n 2, 1) := by decide +kernel
theorem dX11_tellRow_49 : decode cX11_tellRow 49 = .ok (.iaload, 1) := by decide +kernel
theorem dX11_tellRow_50 : decode cX11_tellRow 50 = .ok (.ifCond .ne 37, 3) := by decide +kernel
theorem dX11_tellRow_53 : decode cX11_tellRow 53 = .ok (.iload_n 3, 1) := by decide +kernel
theorem dX11_tellRow_54 : decode cX11_tellRow 54 = .ok (.bipush 11, 2) := by decide +kernel
theorem dX11_tellRow_56 : decode cX11_tellRow 56 = .ok (.if_icmp .lt 31, 3) := by decide +kernel
theorem dX11_tellRow_59 : decode cX11_tellRow 59 = .ok (.iload_n 3, 1) := by decide +kernel
theorem dX11_tellRow_60 : decode cX11_tellRow 60 = .ok (.sipush 138, 3) := by decide +kernel
theorem dX11_tellRow_63 : decode cX11_tellRow 63 = .ok (.invokestatic 108, 3) := by decide +kernel
theorem dX11_tellRow_66 : decode cX11_tellRow 66 = .ok (.istore 4, 2) := by decide +kernel
theorem dX11_tellRow_68 : decode cX11_tellRow 68 = .ok (.aload_n 0, 1) := by decide +kernel
theorem dX11_tellRow_69 : decode cX11_tellRow 69 = .ok (.bipush 18, 2) := by decide +kernel
theorem dX11_tellRow_71 : decode cX11_tellRow 71 = .ok (.iload 4, 2) := by decide +kernel
theorem dX11_tellRow_73 : decode cX11_tellRow 73 = .ok (.bipush 11, 2) := by decide +kernel
theorem dX11_tellRow_75 : decode cX11_tellRow 75 = .ok (.isub, 1) := by decide +kernel
theorem dX11_tellRow_76 : decode cX11_tellRow 76 = .ok (.invokevirtual 153, 3) := by decide +kernel
theorem dX11_tellRow_79 : decode cX11_tellRow 79 = .ok (.iload_n 2, 1) := by decide +kernel
theorem dX11_tellRow_80 : decode cX11_tellRow 80 = .ok (.iload 4, 2) := by decide +kernel
theorem dX11_tellRow_82 : decode cX11_tellRow 82 = .ok (.iadd, 1) := by decide +kernel
theorem dX11_tellRow_83 : decode cX11_tellRow 83 = .ok (.istore_n 2, 1) := by decide +kernel
theorem dX11_tellRow_84 : decode cX11_tellRow 84 = .ok (.goto 99, 3) := by decide +kernel
theorem dX11_tellRow_87 : decode cX11_tellRow 87 = .ok (.aload_n 0, 1) := by decide +kernel
theorem dX11_tellRow_88 : decode cX11_tellRow 88 = .ok (.getfield 67, 3) := by decide +kernel
theorem dX11_tellRow_91 : decode cX11_tellRow 91 = .ok (.iload_n 2, 1) := by decide +kernel
theorem dX11_tellRow_92 : decode cX11_tellRow 92 = .ok (.iaload, 1) := by decide +kernel
theorem dX11_tellRow_93 : decode cX11_tellRow 93 = .ok (.ifCond .ne 24, 3) := by decide +kernel
theorem dX11_tellRow_96 : decode cX11_tellRow 96 = .ok (.iload_n 3, 1) := by decide +kernel
theorem dX11_tellRow_97 : decode cX11_tellRow 97 = .ok (.iconst 3, 1) := by decide +kernel
theorem dX11_tellRow_98 : decode cX11_tellRow 98 = .ok (.if_icmp .lt 19, 3) := by decide +kernel
theorem dX11_tellRow_101 : decode cX11_tellRow 101 = .ok (.aload_n 0, 1) := by decide +kernel
theorem dX11_tellRow_102 : decode cX11_tellRow 102 = .ok (.bipush 17, 2) := by decide +kernel
theorem dX11_tellRow_104 : decode cX11_tellRow 104 = .ok (.iload_n 3, 1) := by decide +kernel
theorem dX11_tellRow_105 : decode cX11_tellRow 105 = .ok (.iconst 3, 1) := by decide +kernel
theorem dX11_tellRow_106 : decode cX11_tellRow 106 = .ok (.isub, 1) := by decide +kernel
theorem dX11_tellRow_107 : decode cX11_tellRow 107 = .ok (.invokevirtual 153, 3) := by decide +kernel
theorem dX11_tellRow_110 : decode cX11_tellRow 110 = .ok (.iload_n 2, 1) := by decide +kernel
theorem dX11_tellRow_111 : decode cX11_tellRow 111 = .ok (.iload_n 3, 1) := by decide +kernel
theorem dX11_tellRow_112 : decode cX11_tellRow 112 = .ok (.iadd, 1) := by decide +kernel
theorem dX11_tellRow_113 : decode cX11_tellRow 113 = .ok (.istore_n 2, 1) := by decide +kernel
theorem dX11_tellRow_114 : decode cX11_tellRow 114 = .ok (.goto 69, 3) := by decide +kernel
theorem dX11_tellRow_117 : decode cX11_tellRow 117 = .ok (.aload_n 0, 1) := by decide +kernel
theorem dX11_tellRow_118 : decode cX11_tellRow 118 = .ok (.aload_n 0, 1) := by decide +kernel
theorem dX11_tellRow_119 : decode cX11_tellRow 119 = .ok (.getfield 67, 3) := by decide +kernel
theorem dX11_tellRow_122 : decode cX11_tellRow 122 = .ok (.iload_n 2, 1) := by decide +kernel
theorem dX11_tellRow_123 : decode cX11_tellRow 123 = .ok (.iaload, 1) := by decide +kernel
theorem dX11_tellRow_124 : decode cX11_tellRow 124 = .ok (.iconst 0, 1) := by decide +kernel
theorem dX11_tellRow_125 : decode cX11_tellRow 125 = .ok (.invokevirtual 153, 3) := by decide +kernel
theorem dX11_tellRow_128 : decode cX11_tellRow 128 = .ok (.aload_n 0, 1) := by decide +kernel
theorem dX11_tellRow_129 : decode cX11_tellRow 129 = .ok (.getfield 67, 3) := by decide +kernel
theorem dX11_tellRow_132 : decode cX11_tellRow 132 = .ok (.iload_n 2, 1) := by decide +kernel
theorem dX11_tellRow_133 : decode cX11_tellRow 133 = .ok (.iaload, 1) := by decide +kernel
theorem dX11_tellRow_134 : decode cX11_tellRow 134 = .ok (.istore 4, 2) := by decide +kernel
theorem dX11_tellRow_136 : decode cX11_tellRow 136 = .ok (.iinc 2 1, 3) := by decide +kernel
theorem dX11_tellRow_139 : decode cX11_tellRow 139 = .ok (.iinc 3 (-1), 3) := by decide +kernel
theorem dX11_tellRow_142 : decode cX11_tellRow 142 = .ok (.iload 4, 2) := by decide +kernel
theorem dX11_tellRow_144 : decode cX11_tellRow 144 = .ok (.ifCond .le 39, 3) := by decide +kernel
theorem dX11_tellRow_147 : decode cX11_tellRow 147 = .ok (.iload_n 3, 1) := by decide +kernel
theorem dX11_tellRow_148 : decode cX11_tellRow 148 = .ok (.iconst 3, 1) := by decide +kernel
theorem dX11_tellRow_149 : decode cX11_tellRow 149 = .ok (.if_icmp .lt 34, 3) := by decide +kernel
theorem dX11_tellRow_152 : decode cX11_tellRow 152 = .ok (.iload_n 3, 1) := by decide +kernel
theorem dX11_tellRow_153 : decode cX11_tellRow 153 = .ok (.bipush 6, 2) := by decide +kernel
theorem dX11_tellRow_155 : decode cX11_tellRow 155 = .ok (.invokestatic 108, 3) := by decide +kernel
theorem dX11_tellRow_158 : decode cX11_tellRow 158 = .ok (.istore 5, 2) := by decide +kernel
theorem dX11_tellRow_160 : decode cX11_tellRow 160 = .ok (.aload_n 0, 1) := by decide +kernel
theorem dX11_tellRow_161 : decode cX11_tellRow 161 = .ok (.bipush 16, 2) := by decide +kernel
theorem dX11_tellRow_163 : decode cX11_tellRow 163 = .ok (.iload 5, 2) := by decide +kernel
theorem dX11_tellRow_165 : decode cX11_tellRow 165 = .ok (.iconst 3, 1) := by decide +kernel
theorem dX11_tellRow_166 : decode cX11_tellRow 166 = .ok (.isub, 1) := by decide +kernel
theorem dX11_tellRow_167 : decode cX11_tellRow 167 = .ok (.invokevirtual 153, 3) := by decide +kernel
theorem dX11_tellRow_170 : decode cX11_tellRow 170 = .ok (.iload_n 2, 1) := by decide +kernel
theorem dX11_tellRow_171 : decode cX11_tellRow 171 = .ok (.iload 5, 2) := by decide +kernel
theorem dX11_tellRow_173 : decode cX11_tellRow 173 = .ok (.iadd, 1) := by decide +kernel
theorem dX11_tellRow_174 : decode cX11_tellRow 174 = .ok (.istore_n 2, 1) := by decide +kernel
theorem dX11_tellRow_175 : decode cX11_tellRow 175 = .ok (.iload_n 3, 1) := by decide +kernel
theorem dX11_tellRow_176 : decode cX11_tellRow 176 = .ok (.iload 5, 2) := by decide +kernel
theorem dX11_tellRow_178 : decode cX11_tellRow 178 = .ok (.isub, 1) := by decide +kernel
theorem dX11_tellRow_179 : decode cX11_tellRow 179 = .ok (.istore_n 3, 1) := by decide +kernel
theorem dX11_tellRow_180 : decode cX11_tellRow 180 = .ok (.goto (-38), 3) := by decide +kernel
theorem dX11_tellRow_183 : decode cX11_tellRow 183 = .ok (.goto (-176), 3) := by decide +kernel
theorem dX11_tellRow_186 : decode cX11_tellRow 186 = .ok (.return_, 1) := by decide +kernel
def pX11_tellRow_b142 (o_toldSymbols_n : Nat) (o_toldNumbers_n : Nat) (K7 : Int32 → (Nat → Int32) → (Nat → Int32) → Int32 → Option (Int32 × (Nat → Int32) × (Nat → Int32))) : Nat → Int32 → (Nat → Int32) → (Nat → Int32) → Int32 → Int32 → Int32 → Option (Int32 × (Nat → Int32) × (Nat → Int32))
  | 0 => fun _ _ _ _ _ _ => none
  | n + 1 => fun o_told o_toldSymbols_v o_toldNumbers_v x2 x3 x4 =>
  if x4 ≤ 0 then
  (K7 o_told o_toldSymbols_v o_toldNumbers_v x2)
  else
  (if x3 < (3 : Int32) then
  (K7 o_told o_toldSymbols_v o_toldNumbers_v x2)
  else
  ((pX11_min x3 (6 : Int32)).bind (fun u3 =>
  (pX11_tellOne o_toldSymbols_n o_toldNumbers_n (16 : Int32) (u3 - (3 : Int32)) o_told o_toldSymbols_v o_toldNumbers_v).bind (fun u4 =>
  (pX11_tellRow_b142 o_toldSymbols_n o_toldNumbers_n K7 n) u4.1 u4.2.1 u4.2.2 (x2 + u3) (x3 - u3) x4))))
def pX11_tellRow_b117 (o_row_n : Nat) (o_toldSymbols_n : Nat) (o_toldNumbers_n : Nat) (o_row_v : Nat → Int32) (K7 : Int32 → (Nat → Int32) → (Nat → Int32) → Int32 → Option (Int32 × (Nat → Int32) × (Nat → Int32))) (o_told : Int32) (o_toldSymbols_v : Nat → Int32) (o_toldNumbers_v : Nat → Int32) (x2 : Int32) (x3 : Int32) : Option (Int32 × (Nat → Int32) × (Nat → Int32)) :=
  if x2 < 0 ∨ o_row_n ≤ (x2).toNatClampNeg then none else
  (pX11_tellOne o_toldSymbols_n o_toldNumbers_n (o_row_v (x2).toNatClampNeg) (0 : Int32) o_told o_toldSymbols_v o_toldNumbers_v).bind (fun u6 =>
  if x2 < 0 ∨ o_row_n ≤ (x2).toNatClampNeg then none else
  pX11_tellRow_b142 o_toldSymbols_n o_toldNumbers_n K7 fb_F u6.1 u6.2.1 u6.2.2 (x2 + (1 : Int32)) (x3 + (-1 : Int32)) (o_row_v (x2).toNatClampNeg))
def pX11_tellRow_b87 (o_row_n : Nat) (o_toldSymbols_n : Nat) (o_toldNumbers_n : Nat) (o_row_v : Nat → Int32) (K7 : Int32 → (Nat → Int32) → (Nat → Int32) → Int32 → Option (Int32 × (Nat → Int32) × (Nat → Int32))) (o_told : Int32) (o_toldSymbols_v : Nat → Int32) (o_toldNumbers_v : Nat → Int32) (x2 : Int32) (x3 : Int32) : Option (Int32 × (Nat → Int32) × (Nat → Int32)) :=
  if x2 < 0 ∨ o_row_n ≤ (x2).toNatClampNeg then none else
  if (o_row_v (x2).toNatClampNeg) = 0 then
  (if x3 < (3 : Int32) then
  (pX11_tellRow_b117 o_row_n o_toldSymbols_n o_toldNumbers_n o_row_v K7 o_told o_toldSymbols_v o_toldNumbers_v x2 x3)
  else
  ((pX11_tellOne o_toldSymbols_n o_toldNumbers_n (17 : Int32) (x3 - (3 : Int32)) o_told o_toldSymbols_v o_toldNumbers_v).bind (fun u11 =>
  K7 u11.1 u11.2.1 u11.2.2 (x2 + x3))))
  else
  (pX11_tellRow_b117 o_row_n o_toldSymbols_n o_toldNumbers_n o_row_v K7 o_told o_toldSymbols_v o_toldNumbers_v x2 x3)
def pX11_tellRow_b44 (o_row_n : Nat) (o_toldSymbols_n : Nat) (o_toldNumbers_n : Nat) (o_row_v : Nat → Int32) (K7 : Int32 → (Nat → Int32) → (Nat → Int32) → Int32 → Option (Int32 × (Nat → Int32) × (Nat → Int32))) (o_told : Int32) (o_toldSymbols_v : Nat → Int32) (o_toldNumbers_v : Nat → Int32) (x2 : Int32) (x3 : Int32) : Option (Int32 × (Nat → Int32) × (Nat → Int32)) :=
  if x2 < 0 ∨ o_row_n ≤ (x2).toNatClampNeg then none else
  if (o_row_v (x2).toNatClampNeg) = 0 then
  (if x3 < (11 : Int32) then
  (pX11_tellRow_b87 o_row_n o_toldSymbols_n o_toldNumbers_n o_row_v K7 o_told o_toldSymbols_v o_toldNumbers_v x2 x3)
  else
  ((pX11_min x3 (138 : Int32)).bind (fun u15 =>
  (pX11_tellOne o_toldSymbols_n o_toldNumbers_n (18 : Int32) (u15 - (11 : Int32)) o_told o_toldSymbols_v o_toldNumbers_v).bind (fun u16 =>
  K7 u16.1 u16.2.1 u16.2.2 (x2 + u15)))))
  else
  (pX11_tellRow_b87 o_row_n o_toldSymbols_n o_toldNumbers_n o_row_v K7 o_told o_toldSymbols_v o_toldNumbers_v x2 x3)
def pX11_tellRow_b14 (o_row_n : Nat) (o_toldSymbols_n : Nat) (o_toldNumbers_n : Nat) (o_row_v : Nat → Int32) (x1 : Int32) (K7 : Int32 → (Nat → Int32) → (Nat → Int32) → Int32 → Option (Int32 × (Nat → Int32) × (Nat → Int32))) : Nat → Int32 → (Nat → Int32) → (Nat → Int32) → Int32 → Int32 → Option (Int32 × (Nat → Int32) × (Nat → Int32))
  | 0 => fun _ _ _ _ _ => none
  | n + 1 => fun o_told o_toldSymbols_v o_toldNumbers_v x2 x3 =>
  if x1 ≤ (x2 + x3) then
  (pX11_tellRow_b44 o_row_n o_toldSymbols_n o_toldNumbers_n o_row_v K7 o_told o_toldSymbols_v o_toldNumbers_v x2 x3)
  else
  (if (x2 + x3) < 0 ∨ o_row_n ≤ ((x2 + x3)).toNatClampNeg then none else
  if x2 < 0 ∨ o_row_n ≤ (x2).toNatClampNeg then none else
  if (o_row_v ((x2 + x3)).toNatClampNeg) = (o_row_v (x2).toNatClampNeg) then
  ((pX11_tellRow_b14 o_row_n o_toldSymbols_n o_toldNumbers_n o_row_v x1 K7 n) o_told o_toldSymbols_v o_toldNumbers_v x2 (x3 + (1 : Int32)))
  else
  (pX11_tellRow_b44 o_row_n o_toldSymbols_n o_toldNumbers_n o_row_v K7 o_told o_toldSymbols_v o_toldNumbers_v x2 x3))
def pX11_tellRow_b7 (o_row_n : Nat) (o_toldSymbols_n : Nat) (o_toldNumbers_n : Nat) (o_row_v : Nat → Int32) (x1 : Int32)  : Nat → Int32 → (Nat → Int32) → (Nat → Int32) → Int32 → Option (Int32 × (Nat → Int32) × (Nat → Int32))
  | 0 => fun _ _ _ _ => none
  | n + 1 => fun o_told o_toldSymbols_v o_toldNumbers_v x2 =>
  if x1 ≤ x2 then
  (some (o_told, o_toldSymbols_v, o_toldNumbers_v))
  else
  (pX11_tellRow_b14 o_row_n o_toldSymbols_n o_toldNumbers_n o_row_v x1 (pX11_tellRow_b7 o_row_n o_toldSymbols_n o_toldNumbers_n o_row_v x1 n) fb_F o_told o_toldSymbols_v o_toldNumbers_v x2 (1 : Int32))
def pX11_tellRow (o_row_n : Nat) (o_toldSymbols_n : Nat) (o_toldNumbers_n : Nat) (o_row_v : Nat → Int32) (x1 : Int32)  (o_toldSymbols_v : Nat → Int32) (o_toldNumbers_v : Nat → Int32) : Option (Int32 × (Nat → Int32) × (Nat → Int32)) :=
  pX11_tellRow_b7 o_row_n o_toldSymbols_n o_toldNumbers_n o_row_v x1 fb_F (0 : Int32) o_toldSymbols_v o_toldNumbers_v (0 : Int32)
theorem hdX11_tellRow : yX11_tellRow.cls = RX11 ∧ yX11_tellRow.cls ≠ "java/lang/invoke/MethodHandle" ∧ yX11_tellRow.cls ≠ "java/lang/invoke/VarHandle" ∧ (parseMethodDescriptor yX11_tellRow.desc).map (fun d => d.parameters.length) = some 1 := by decide +kernel
set_option maxHeartbeats 8000000 in
set_option maxRecDepth 100000 in
theorem mX11_tellRow (l : Launch) (dC : Nat → ClassId) (dI : Nat → Nat → Nat) (o : Nat) (o_row : Nat) (o_toldSymbols : Nat) (o_toldNumbers : Nat) (o_text : Nat) (o_packed : Nat) (o_loaded : Nat) (o_out : Nat) (o_lengths : Nat) (o_distances : Nat) (o_heads : Nat) (o_earlier : Nat) (o_often : Nat) (o_symbolLengths : Nat) (o_distanceLengths : Nat) (o_lengthLengths : Nat) (o_symbolCodes : Nat) (o_distanceCodes : Nat) (o_lengthCodes : Nat) (o_counts : Nat) (o_parents : Nat) (o_alone : Nat) (o_row_c : ClassId) (o_toldSymbols_c : ClassId) (o_toldNumbers_c : ClassId) (o_row_n : Nat) (o_toldSymbols_n : Nat) (o_toldNumbers_n : Nat) (o_textRoom : Int32) (o_byteRoom : Int32) (o_chain : Int32) (o_textSize : Int32) (o_packedSize : Int32) (o_matches : Int32) (o_loadedSize : Int32) (o_outSize : Int32) (o_bits : Int32) (o_tokens : Int32) (o_told : Int32) (o_place : Int32) (o_fail : Int32) (o_found : Int32) (o_symbolCount : Int32) (o_distanceCount : Int32) (o_lengthCount : Int32) (o_row_v : Nat → Int32) (o_toldSymbols_v : Nat → Int32) (o_toldNumbers_v : Nat → Int32) (x1 : Int32) (sz : Nat) (u : Int32 × (Nat → Int32) × (Nat → Int32)) (h : pX11_tellRow o_row_n o_toldSymbols_n o_toldNumbers_n o_row_v x1 o_toldSymbols_v o_toldNumbers_v = some u) : Met l yX11_tellRow (Cond.code yX11_tellRow cX11_tellRow 6 none :: fb_tb) ({ frames := 1, cells := 0, slots := 0, locals := 22 }) (fb_Pc (dC, dI) [.ref o, .int x1] sz [(o_row_c, .int), (o_toldSymbols_c, .int), (o_toldNumbers_c, .int)] [(o, .inr (11, [.int o_textRoom, .int o_byteRoom, .int o_chain, .ref o_text, .int o_textSize, .ref o_packed, .int o_packedSize, .int o_matches, .ref o_loaded, .int o_loadedSize, .ref o_out, .int o_outSize, .int o_bits, .int o_tokens, .ref o_lengths, .ref o_distances, .ref o_heads, .ref o_earlier, .ref o_often, .ref o_symbolLengths, .ref o_distanceLengths, .ref o_lengthLengths, .ref o_symbolCodes, .ref o_distanceCodes, .ref o_lengthCodes, .ref o_counts, .ref o_parents, .ref o_alone, .ref o_row, .int o_told, .ref o_toldSymbols, .ref o_toldNumbers, .int o_place, .int o_fail, .int o_found, .int o_symbolCount, .int o_distanceCount, .int o_lengthCount])), (o_row, .inl (o_row_c, o_row_n, .inl o_row_v)), (o_toldSymbols, .inl (o_toldSymbols_c, o_toldSymbols_n, .inl o_toldSymbols_v)), (o_toldNumbers, .inl (o_toldNumbers_c, o_toldNumbers_n, .inl o_toldNumbers_v))]) (fb_Qv (dC, dI) [(o, .inr (11, [.int o_textRoom, .int o_byteRoom, .int o_chain, .ref o_text, .int o_textSize, .ref o_packed, .int o_packedSize, .int o_matches, .ref o_loaded, .int o_loadedSize, .ref o_out, .int o_outSize, .int o_bits, .int o_tokens, .ref o_lengths, .ref o_distances, .ref o_heads, .ref o_earlier, .ref o_often, .ref o_symbolLengths, .ref o_distanceLengths, .ref o_lengthLengths, .ref o_symbolCodes, .ref o_distanceCodes, .ref o_lengthCodes, .ref o_counts, .ref o_parents, .ref o_alone, .ref o_row, .int u.1, .ref o_toldSymbols, .ref o_toldNumbers, .int o_place, .int o_fail, .int o_found, .int o_symbolCount, .int o_distanceCount, .int o_lengthCount])), (o_row, .inl (o_row_c, o_row_n, .inl o_row_v)), (o_toldSymbols, .inl (o_toldSymbols_c, o_toldSymbols_n, .inl u.2.1)), (o_toldNumbers, .inl (o_toldNumbers_c, o_toldNumbers_n, .inl u.2.2))] (va_A [(o, .inr (11, [.int o_textRoom, .int o_byteRoom, .int o_chain, .ref o_text, .int o_textSize, .ref o_packed, .int o_packedSize, .int o_matches, .ref o_loaded, .int o_loadedSize, .ref o_out, .int o_outSize, .int o_bits, .int o_tokens, .ref o_lengths, .ref o_distances, .ref o_heads, .ref o_earlier, .ref o_often, .ref o_symbolLengths, .ref o_distanceLengths, .ref o_lengthLengths, .ref o_symbolCodes, .ref o_distanceCodes, .ref o_lengthCodes, .ref o_counts, .ref o_parents, .ref o_alone, .ref o_row, .int o_told, .ref o_toldSymbols, .ref o_toldNumbers, .int o_place, .int o_fail, .int o_found, .int o_symbolCount, .int o_distanceCount, .int o_lengthCount])), (o_row, .inl (o_row_c, o_row_n, .inl o_row_v)), (o_toldSymbols, .inl (o_toldSymbols_c, o_toldSymbols_n, .inl o_toldSymbols_v)), (o_toldNumbers, .inl (o_toldNumbers_c, o_toldNumbers_n, .inl o_toldNumbers_v))] sz)) 0 0 (va_A [(o, .inr (11, [.int o_textRoom, .int o_byteRoom, .int o_chain, .ref o_text, .int o_textSize, .ref o_packed, .int o_packedSize, .int o_matches, .ref o_loaded, .int o_loadedSize, .ref o_out, .int o_outSize, .int o_bits, .int o_tokens, .ref o_lengths, .ref o_distances, .ref o_heads, .ref o_earlier, .ref o_often, .ref o_symbolLengths, .ref o_distanceLengths, .ref o_lengthLengths, .ref o_symbolCodes, .ref o_distanceCodes, .ref o_lengthCodes, .ref o_counts, .ref o_parents, .ref o_alone, .ref o_row, .int o_told, .ref o_toldSymbols, .ref o_toldNumbers, .int o_place, .int o_fail, .int o_found, .int o_symbolCount, .int o_distanceCount, .int o_lengthCount])), (o_row, .inl (o_row_c, o_row_n, .inl o_row_v)), (o_toldSymbols, .inl (o_toldSymbols_c, o_toldSymbols_n, .inl o_toldSymbols_v)), (o_toldNumbers, .inl (o_toldNumbers_c, o_toldNumbers_n, .inl o_toldNumbers_v))] sz) := by
  refine fb_metv (by decide) (Nat.le_of_ble_eq_true rfl) (fun p e s m args below meth c A Q ls H hx hb hml hown hts hP hK hN hZ hD hA hS hret hl => ?_)
  replace hl : lv_has ls 6 [(0, .ref o), (1, .int x1)] := hl
  have wB142 : ∀ (K7 : Int32 → (Nat → Int32) → (Nat → Int32) → Int32 → Option (Int32 × (Nat → Int32) × (Nat → Int32))), (∀ (o_told : Int32) (o_toldSymbols_v : Nat → Int32) (o_toldNumbers_v : Nat → Int32) (x2 : Int32) (H : Heap) (locs : List Loc) (ls : Array Slot), va_P (dC, dI) fb_cl [(o, .inr (11, [.int o_textRoom, .int o_byteRoom, .int o_chain, .ref o_text, .int o_textSize, .ref o_packed, .int o_packedSize, .int o_matches, .ref o_loaded, .int o_loadedSize, .ref o_out, .int o_outSize, .int o_bits, .int o_tokens, .ref o_lengths, .ref o_distances, .ref o_heads, .ref o_earlier, .ref o_often, .ref o_symbolLengths, .ref o_distanceLengths, .ref o_lengthLengths, .ref o_symbolCodes, .ref o_distanceCodes, .ref o_lengthCodes, .ref o_counts, .ref o_parents, .ref o_alone, .ref o_row, .int o_told, .ref o_toldSymbols, .ref o_toldNumbers, .int o_place, .int o_fail, .int o_found, .int o_symbolCount, .int o_distanceCount, .int o_lengthCount])), (o_row, .inl (o_row_c, o_row_n, .inl o_row_v)), (o_toldSymbols, .inl (o_toldSymbols_c, o_toldSymbols_n, .inl o_toldSymbols_v)), (o_toldNumbers, .inl (o_toldNumbers_c, o_toldNumbers_n, .inl o_toldNumbers_v))] H → va_D A [(o, .inr (11, [.int o_textRoom, .int o_byteRoom, .int o_chain, .ref o_text, .int o_textSize, .ref o_packed, .int o_packedSize, .int o_matches, .ref o_loaded, .int o_loadedSize, .ref o_out, .int o_outSize, .int o_bits, .int o_tokens, .ref o_lengths, .ref o_distances, .ref o_heads, .ref o_earlier, .ref o_often, .ref o_symbolLengths, .ref o_distanceLengths, .ref o_lengthLengths, .ref o_symbolCodes, .ref o_distanceCodes, .ref o_lengthCodes, .ref o_counts, .ref o_parents, .ref o_alone, .ref o_row, .int o_told, .ref o_toldSymbols, .ref o_toldNumbers, .int o_place, .int o_fail, .int o_found, .int o_symbolCount, .int o_distanceCount, .int o_lengthCount])), (o_row, .inl (o_row_c, o_row_n, .inl o_row_v)), (o_toldSymbols, .inl (o_toldSymbols_c, o_toldSymbols_n, .inl o_toldSymbols_v)), (o_toldNumbers, .inl (o_toldNumbers_c, o_toldNumbers_n, .inl o_toldNumbers_v))] → va_S A s.heap H locs → lv_has ls 6 [(0, .ref o), (1, .int x1), (2, .int x2)] → K7 o_told o_toldSymbols_v o_toldNumbers_v x2 = some u → W p l e ({ frames := 1, cells := 0, slots := 0, locals := 22 }) s m args below meth c H locs 0 0 Q (F0 m 7 ls [])) → ∀ n : Nat, ∀ (o_told : Int32) (o_toldSymbols_v : Nat → Int32) (o_toldNumbers_v : Nat → Int32) (x2 : Int32) (x3 : Int32) (x4 : Int32) (H : Heap) (locs : List Loc) (ls : Array Slot), va_P (dC, dI) fb_cl [(o, .inr (11, [.int o_textRoom, .int o_byteRoom, .int o_chain, .ref o_text, .int o_textSize, .ref o_packed, .int o_packedSize, .int o_matches, .ref o_loaded, .int o_loadedSize, .ref o_out, .int o_outSize, .int o_bits, .int o_tokens, .ref o_lengths, .ref o_distances, .ref o_heads, .ref o_earlier, .ref o_often, .ref o_symbolLengths, .ref o_distanceLengths, .ref o_lengthLengths, .ref o_symbolCodes, .ref o_distanceCodes, .ref o_lengthCodes, .ref o_counts, .ref o_parents, .ref o_alone, .ref o_row, .int o_told, .ref o_toldSymbols, .ref o_toldNumbers, .int o_place, .int o_fail, .int o_found, .int o_symbolCount, .int o_distanceCount, .int o_lengthCount])), (o_row, .inl (o_row_c, o_row_n, .inl o_row_v)), (o_toldSymbols, .inl (o_toldSymbols_c, o_toldSymbols_n, .inl o_toldSymbols_v)), (o_toldNumbers, .inl (o_toldNumbers_c, o_toldNumbers_n, .inl o_toldNumbers_v))] H → va_D A [(o, .inr (11, [.int o_textRoom, .int o_byteRoom, .int o_chain, .ref o_text, .int o_textSize, .ref o_packed, .int o_packedSize, .int o_matches, .ref o_loaded, .int o_loadedSize, .ref o_out, .int o_outSize, .int o_bits, .int o_tokens, .ref o_lengths, .ref o_distances, .ref o_heads, .ref o_earlier, .ref o_often, .ref o_symbolLengths, .ref o_distanceLengths, .ref o_lengthLengths, .ref o_symbolCodes, .ref o_distanceCodes, .ref o_lengthCodes, .ref o_counts, .ref o_parents, .ref o_alone, .ref o_row, .int o_told, .ref o_toldSymbols, .ref o_toldNumbers, .int o_place, .int o_fail, .int o_found, .int o_symbolCount, .int o_distanceCount, .int o_lengthCount])), (o_row, .inl (o_row_c, o_row_n, .inl o_row_v)), (o_toldSymbols, .inl (o_toldSymbols_c, o_toldSymbols_n, .inl o_toldSymbols_v)), (o_toldNumbers, .inl (o_toldNumbers_c, o_toldNumbers_n, .inl o_toldNumbers_v))] → va_S A s.heap H locs → lv_has ls 6 [(0, .ref o), (1, .int x1), (2, .int x2), (3, .int x3), (4, .int x4)] → pX11_tellRow_b142 o_toldSymbols_n o_toldNumbers_n K7 n o_told o_toldSymbols_v o_toldNumbers_v x2 x3 x4 = some u → W p l e ({ frames := 1, cells := 0, slots := 0, locals := 22 }) s m args below meth c H locs 0 0 Q (F0 m 142 ls []) := by
    intro K7 hK7 n
    induction n with
    | zero => intro o_told o_toldSymbols_v o_toldNumbers_v x2 x3 x4 H locs ls hP hD hS hl h; cases h
    | succ n ih =>
      intro o_told o_toldSymbols_v o_toldNumbers_v x2 x3 x4 H locs ls hP hD hS hl h
      rw [pX11_tellRow_b142] at h
      refine lv_iload hx hb dX11_tellRow_142 (lv_at hl 4 rfl) ?_
      refine lv_if_le (tgt := 183) hx hb dX11_tellRow_144 (by decide) (fun c1 => ?_) (fun c1 => ?_)
      · replace h := fb_t c1 h
        refine lv_goto (tgt := 7) hx hb dX11_tellRow_183 (by decide) ?_
        exact hK7 o_told o_toldSymbols_v o_toldNumbers_v x2 _ _ _ hP hD hS (lv_sub hl [0, 1, 2] rfl) h
      · replace h := fb_f c1 h
        refine lv_iload_n hx hb dX11_tellRow_147 rfl (lv_at hl 3 rfl) ?_
        refine lv_iconst (v := (3 : Int32)) hx hb dX11_tellRow_148 (by decide) ?_
        refine lv_icmp_lt (tgt := 183) hx hb dX11_tellRow_149 (by decide) (fun c2 => ?_) (fun c2 => ?_)
        · replace h := fb_t c2 h
          refine lv_goto (tgt := 7) hx hb dX11_tellRow_183 (by decide) ?_
          exact hK7 o_told o_toldSymbols_v o_toldNumbers_v x2 _ _ _ hP hD hS (lv_sub hl [0, 1, 2] rfl) h
        · replace h := fb_f c2 h
          refine lv_iload_n hx hb dX11_tellRow_152 rfl (lv_at hl 3 rfl) ?_
          refine lv_bipush (v := (6 : Int32)) hx hb dX11_tellRow_153 (by decide) ?_
          obtain ⟨u3, e3, h⟩ := fb_b h
          refine fb_ci (wc := []) (wr := [(o, .inr (11, [.int o_textRoom, .int o_byteRoom, .int o_chain, .ref o_text, .int o_textSize, .ref o_packed, .int o_packedSize, .int o_matches, .ref o_loaded, .int o_loadedSize, .ref o_out, .int o_outSize, .int o_bits, .int o_tokens, .ref o_lengths, .ref o_distances, .ref o_heads, .ref o_earlier, .ref o_often, .ref o_symbolLengths, .ref o_distanceLengths, .ref o_lengthLengths, .ref o_symbolCodes, .ref o_distanceCodes, .ref o_lengthCodes, .ref o_counts, .ref o_parents, .ref o_alone, .ref o_row, .int o_told, .ref o_toldSymbols, .ref o_toldNumbers, .int o_place, .int o_fail, .int o_found, .int o_symbolCount, .int o_distanceCount, .int o_lengthCount])), (o_row, .inl (o_row_c, o_row_n, .inl o_row_v)), (o_toldSymbols, .inl (o_toldSymbols_c, o_toldSymbols_n, .inl o_toldSymbols_v)), (o_toldNumbers, .inl (o_toldNumbers_c, o_toldNumbers_n, .inl o_toldNumbers_v))]) (w1 := []) (ws' := [(o, .inr (11, [.int o_textRoom, .int o_byteRoom, .int o_chain, .ref o_text, .int o_textSize, .ref o_packed, .int o_packedSize, .int o_matches, .ref o_loaded, .int o_loadedSize, .ref o_out, .int o_outSize, .int o_bits, .int o_tokens, .ref o_lengths, .ref o_distances, .ref o_heads, .ref o_earlier, .ref o_often, .ref o_symbolLengths, .ref o_distanceLengths, .ref o_lengthLengths, .ref o_symbolCodes, .ref o_distanceCodes, .ref o_lengthCodes, .ref o_counts, .ref o_parents, .ref o_alone, .ref o_row, .int o_told, .ref o_toldSymbols, .ref o_toldNumbers, .int o_place, .int o_fail, .int o_found, .int o_symbolCount, .int o_distanceCount, .int o_lengthCount])), (o_row, .inl (o_row_c, o_row_n, .inl o_row_v)), (o_toldSymbols, .inl (o_toldSymbols_c, o_toldSymbols_n, .inl o_toldSymbols_v)), (o_toldNumbers, .inl (o_toldNumbers_c, o_toldNumbers_n, .inl o_toldNumbers_v))]) (va_runS (As := [.int x3, .int (6 : Int32)]) (rest := []) ⟨hx, hb, hml, hown, hts⟩ (mX11_min l dC dI x3 (6 : Int32) H.size u3 e3) (va_cwS 2 hts (fb_GSx k_1022 k_1023 k_74 k_1024) rfl rfl rfl hdX11_min ⟨Nat.le_of_ble_eq_true rfl, Nat.le_of_ble_eq_true rfl⟩) (fb_pS hP hD hS hA hK hN hZ [] rfl rfl [] rfl) rfl rfl hl.1 rfl (lv_room (Nat.le_of_ble_eq_true rfl)) dX11_tellRow_155 ⟨Nat.le_of_ble_eq_true rfl, Nat.le_of_ble_eq_true rfl⟩) hP hD hS hA [] [0, 1, 2, 3] rfl rfl rfl (by decide) [0, 1, 2, 3] rfl rfl (fun H locs hP hD hS => ?_)
          refine lv_istore (lv' := [(5, .int u3), (0, .ref o), (1, .int x1), (2, .int x2), (3, .int x3), (4, .int x4)]) hx hb dX11_tellRow_158 hl (by decide) rfl (fun ls hl => ?_)
          refine lv_aload_n hx hb dX11_tellRow_160 rfl (lv_at hl 1 rfl) ?_
          refine lv_bipush (v := (16 : Int32)) hx hb dX11_tellRow_161 (by decide) ?_
          refine lv_iload hx hb dX11_tellRow_163 (lv_at hl 0 rfl) ?_
          refine lv_iconst (v := (3 : Int32)) hx hb dX11_tellRow_165 (by decide) ?_
          refine lv_isub hx hb dX11_tellRow_166 ?_
          obtain ⟨u4, e4, h⟩ := fb_b h
          refine fb_cv (wc := [(o, .inr (11, [.int o_textRoom, .int o_byteRoom, .int o_chain, .ref o_text, .int o_textSize, .ref o_packed, .int o_packedSize, .int o_matches, .ref o_loaded, .int o_loadedSize, .ref o_out, .int o_outSize, .int o_bits, .int o_tokens, .ref o_lengths, .ref o_distances, .ref o_heads, .ref o_earlier, .ref o_often, .ref o_symbolLengths, .ref o_distanceLengths, .ref o_lengthLengths, .ref o_symbolCodes, .ref o_distanceCodes, .ref o_lengthCodes, .ref o_counts, .ref o_parents, .ref o_alone, .ref o_row, .int o_told, .ref o_toldSymbols, .ref o_toldNumbers, .int o_place, .int o_fail, .int o_found, .int o_symbolCount, .int o_distanceCount, .int o_lengthCount])), (o_toldSymbols, .inl (o_toldSymbols_c, o_toldSymbols_n, .inl o_toldSymbols_v)), (o_toldNumbers, .inl (o_toldNumbers_c, o_toldNumbers_n, .inl o_toldNumbers_v))]) (wr := [(o_row, .inl (o_row_c, o_row_n, .inl o_row_v))]) (w1 := [(o, .inr (11, [.int o_textRoom, .int o_byteRoom, .int o_chain, .ref o_text, .int o_textSize, .ref o_packed, .int o_packedSize, .int o_matches, .ref o_loaded, .int o_loadedSize, .ref o_out, .int o_outSize, .int o_bits, .int o_tokens, .ref o_lengths, .ref o_distances, .ref o_heads, .ref o_earlier, .ref o_often, .ref o_symbolLengths, .ref o_distanceLengths, .ref o_lengthLengths, .ref o_symbolCodes, .ref o_distanceCodes, .ref o_lengthCodes, .ref o_counts, .ref o_parents, .ref o_alone, .ref o_row, .int u4.1, .ref o_toldSymbols, .ref o_toldNumbers, .int o_place, .int o_fail, .int o_found, .int o_symbolCount, .int o_distanceCount, .int o_lengthCount])), (o_toldSymbols, .inl (o_toldSymbols_c, o_toldSymbols_n, .inl u4.2.1)), (o_toldNumbers, .inl (o_toldNumbers_c, o_toldNumbers_n, .inl u4.2.2))]) (ws' := [(o, .inr (11, [.int o_textRoom, .int o_byteRoom, .int o_chain, .ref o_text, .int o_textSize, .ref o_packed, .int o_packedSize, .int o_matches, .ref o_loaded, .int o_loadedSize, .ref o_out, .int o_outSize, .int o_bits, .int o_tokens, .ref o_lengths, .ref o_distances, .ref o_heads, .ref o_earlier, .ref o_often, .ref o_symbolLengths, .ref o_distanceLengths, .ref o_lengthLengths, .ref o_symbolCodes, .ref o_distanceCodes, .ref o_lengthCodes, .ref o_counts, .ref o_parents, .ref o_alone, .ref o_row, .int u4.1, .ref o_toldSymbols, .ref o_toldNumbers, .int o_place, .int o_fail, .int o_found, .int o_symbolCount, .int o_distanceCount, .int o_lengthCount])), (o_row, .inl (o_row_c, o_row_n, .inl o_row_v)), (o_toldSymbols, .inl (o_toldSymbols_c, o_toldSymbols_n, .inl u4.2.1)), (o_toldNumbers, .inl (o_toldNumbers_c, o_toldNumbers_n, .inl u4.2.2))]) (va_runV (As := [.int (16 : Int32), .int (u3 - (3 : Int32))]) (rest := []) ⟨hx, hb, hml, hown, hts⟩ (mX11_tellOne l dC dI o o_toldSymbols o_toldNumbers o_text o_packed o_loaded o_out o_lengths o_distances o_heads o_earlier o_often o_symbolLengths o_distanceLengths o_lengthLengths o_symbolCodes o_distanceCodes o_lengthCodes o_counts o_parents o_alone o_row o_toldSymbols_c o_toldNumbers_c o_toldSymbols_n o_toldNumbers_n o_textRoom o_byteRoom o_chain o_textSize o_packedSize o_matches o_loadedSize o_outSize o_bits o_tokens o_told o_place o_fail o_found o_symbolCount o_distanceCount o_lengthCount o_toldSymbols_v o_toldNumbers_v (16 : Int32) (u3 - (3 : Int32)) H.size u4 e4) (cwV 2 hts (fb_GV k_1064 k_1066 k_44 k_74 k_1067) rfl rfl rfl hdX11_tellOne ⟨Nat.le_of_ble_eq_true rfl, Nat.le_of_ble_eq_true rfl⟩) (fb_pV hP hD hS hA hK hN hZ [0, 2, 3] rfl rfl [1, 2] rfl (q0 := 0) (ci := 11) rfl rfl) rfl rfl hl.1 rfl (lv_room (Nat.le_of_ble_eq_true rfl)) dX11_tellRow_167 ⟨Nat.le_of_ble_eq_true rfl, Nat.le_of_ble_eq_true rfl⟩) hP hD hS hA [0, 2, 3] [1] rfl rfl rfl (by decide) [1, 0, 2, 3] rfl rfl (fun H locs hP hD hS => ?_)
          refine lv_iload_n hx hb dX11_tellRow_170 rfl (lv_at hl 3 rfl) ?_
          refine lv_iload hx hb dX11_tellRow_171 (lv_at hl 0 rfl) ?_
          refine lv_iadd hx hb dX11_tellRow_173 ?_
          refine lv_istore_n (lv' := [(2, .int (x2 + u3)), (5, .int u3), (0, .ref o), (1, .int x1), (3, .int x3), (4, .int x4)]) hx hb dX11_tellRow_174 rfl hl (by decide) rfl (fun ls hl => ?_)
          refine lv_iload_n hx hb dX11_tellRow_175 rfl (lv_at hl 4 rfl) ?_
          refine lv_iload hx hb dX11_tellRow_176 (lv_at hl 1 rfl) ?_
          refine lv_isub hx hb dX11_tellRow_178 ?_
          refine lv_istore_n (lv' := [(3, .int (x3 - u3)), (2, .int (x2 + u3)), (5, .int u3), (0, .ref o), (1, .int x1), (4, .int x4)]) hx hb dX11_tellRow_179 rfl hl (by decide) rfl (fun ls hl => ?_)
          refine lv_goto (tgt := 142) hx hb dX11_tellRow_180 (by decide) ?_
          exact ih u4.1 u4.2.1 u4.2.2 (x2 + u3) (x3 - u3) x4 _ _ _ hP hD hS (lv_sub hl [3, 4, 1, 0, 5] rfl) h
  have wB117 : ∀ (K7 : Int32 → (Nat → Int32) → (Nat → Int32) → Int32 → Option (Int32 × (Nat → Int32) × (Nat → Int32))), (∀ (o_told : Int32) (o_toldSymbols_v : Nat → Int32) (o_toldNumbers_v : Nat → Int32) (x2 : Int32) (H : Heap) (locs : List Loc) (ls : Array Slot), va_P (dC, dI) fb_cl [(o, .inr (11, [.int o_textRoom, .int o_byteRoom, .int o_chain, .ref o_text, .int o_textSize, .ref o_packed, .int o_packedSize, .int o_matches, .ref o_loaded, .int o_loadedSize, .ref o_out, .int o_outSize, .int o_bits, .int o_tokens, .ref o_lengths, .ref o_distances, .ref o_heads, .ref o_earlier, .ref o_often, .ref o_symbolLengths, .ref o_distanceLengths, .ref o_lengthLengths, .ref o_symbolCodes, .ref o_distanceCodes, .ref o_lengthCodes, .ref o_counts, .ref o_parents, .ref o_alone, .ref o_row, .int o_told, .ref o_toldSymbols, .ref o_toldNumbers, .int o_place, .int o_fail, .int o_found, .int o_symbolCount, .int o_distanceCount, .int o_lengthCount])), (o_row, .inl (o_row_c, o_row_n, .inl o_row_v)), (o_toldSymbols, .inl (o_toldSymbols_c, o_toldSymbols_n, .inl o_toldSymbols_v)), (o_toldNumbers, .inl (o_toldNumbers_c, o_toldNumbers_n, .inl o_toldNumbers_v))] H → va_D A [(o, .inr (11, [.int o_textRoom, .int o_byteRoom, .int o_chain, .ref o_text, .int o_textSize, .ref o_packed, .int o_packedSize, .int o_matches, .ref o_loaded, .int o_loadedSize, .ref o_out, .int o_outSize, .int o_bits, .int o_tokens, .ref o_lengths, .ref o_distances, .ref o_heads, .ref o_earlier, .ref o_often, .ref o_symbolLengths, .ref o_distanceLengths, .ref o_lengthLengths, .ref o_symbolCodes, .ref o_distanceCodes, .ref o_lengthCodes, .ref o_counts, .ref o_parents, .ref o_alone, .ref o_row, .int o_told, .ref o_toldSymbols, .ref o_toldNumbers, .int o_place, .int o_fail, .int o_found, .int o_symbolCount, .int o_distanceCount, .int o_lengthCount])), (o_row, .inl (o_row_c, o_row_n, .inl o_row_v)), (o_toldSymbols, .inl (o_toldSymbols_c, o_toldSymbols_n, .inl o_toldSymbols_v)), (o_toldNumbers, .inl (o_toldNumbers_c, o_toldNumbers_n, .inl o_toldNumbers_v))] → va_S A s.heap H locs → lv_has ls 6 [(0, .ref o), (1, .int x1), (2, .int x2)] → K7 o_told o_toldSymbols_v o_toldNumbers_v x2 = some u → W p l e ({ frames := 1, cells := 0, slots := 0, locals := 22 }) s m args below meth c H locs 0 0 Q (F0 m 7 ls [])) → ∀ (o_told : Int32) (o_toldSymbols_v : Nat → Int32) (o_toldNumbers_v : Nat → Int32) (x2 : Int32) (x3 : Int32) (H : Heap) (locs : List Loc) (ls : Array Slot), va_P (dC, dI) fb_cl [(o, .inr (11, [.int o_textRoom, .int o_byteRoom, .int o_chain, .ref o_text, .int o_textSize, .ref o_packed, .int o_packedSize, .int o_matches, .ref o_loaded, .int o_loadedSize, .ref o_out, .int o_outSize, .int o_bits, .int o_tokens, .ref o_lengths, .ref o_distances, .ref o_heads, .ref o_earlier, .ref o_often, .ref o_symbolLengths, .ref o_distanceLengths, .ref o_lengthLengths, .ref o_symbolCodes, .ref o_distanceCodes, .ref o_lengthCodes, .ref o_counts, .ref o_parents, .ref o_alone, .ref o_row, .int o_told, .ref o_toldSymbols, .ref o_toldNumbers, .int o_place, .int o_fail, .int o_found, .int o_symbolCount, .int o_distanceCount, .int o_lengthCount])), (o_row, .inl (o_row_c, o_row_n, .inl o_row_v)), (o_toldSymbols, .inl (o_toldSymbols_c, o_toldSymbols_n, .inl o_toldSymbols_v)), (o_toldNumbers, .inl (o_toldNumbers_c, o_toldNumbers_n, .inl o_toldNumbers_v))] H → va_D A [(o, .inr (11, [.int o_textRoom, .int o_byteRoom, .int o_chain, .ref o_text, .int o_textSize, .ref o_packed, .int o_packedSize, .int o_matches, .ref o_loaded, .int o_loadedSize, .ref o_out, .int o_outSize, .int o_bits, .int o_tokens, .ref o_lengths, .ref o_distances, .ref o_heads, .ref o_earlier, .ref o_often, .ref o_symbolLengths, .ref o_distanceLengths, .ref o_lengthLengths, .ref o_symbolCodes, .ref o_distanceCodes, .ref o_lengthCodes, .ref o_counts, .ref o_parents, .ref o_alone, .ref o_row, .int o_told, .ref o_toldSymbols, .ref o_toldNumbers, .int o_place, .int o_fail, .int o_found, .int o_symbolCount, .int o_distanceCount, .int o_lengthCount])), (o_row, .inl (o_row_c, o_row_n, .inl o_row_v)), (o_toldSymbols, .inl (o_toldSymbols_c, o_toldSymbols_n, .inl o_toldSymbols_v)), (o_toldNumbers, .inl (o_toldNumbers_c, o_toldNumbers_n, .inl o_toldNumbers_v))] → va_S A s.heap H locs → lv_has ls 6 [(0, .ref o), (1, .int x1), (2, .int x2), (3, .int x3)] → pX11_tellRow_b117 o_row_n o_toldSymbols_n o_toldNumbers_n o_row_v K7 o_told o_toldSymbols_v o_toldNumbers_v x2 x3 = some u → W p l e ({ frames := 1, cells := 0, slots := 0, locals := 22 }) s m args below meth c H locs 0 0 Q (F0 m 117 ls []) := by
    intro K7 hK7 o_told o_toldSymbols_v o_toldNumbers_v x2 x3 H locs ls hP hD hS hl h
    unfold pX11_tellRow_b117 at h
    refine lv_aload_n hx hb dX11_tellRow_117 rfl (lv_at hl 0 rfl) ?_
    refine lv_aload_n hx hb dX11_tellRow_118 rfl (lv_at hl 0 rfl) ?_
    refine va_get (D := (dC, dI)) (ci := 11) (v := .ref o_row) (C := RX11) (T := TX11) (N := 38) hx hb hts i_X11 hown hK hP 0 rfl rfl 28 (by decide) (hts _ k_865) (fun _ h9 => h9) rfl dX11_tellRow_119 ?_
    refine lv_iload_n hx hb dX11_tellRow_122 rfl (lv_at hl 2 rfl) ?_
    obtain ⟨g5, h⟩ := fb_g h
    refine va_iald hx hb hK hP 1 0 rfl rfl g5 dX11_tellRow_123 ?_
    refine lv_iconst (v := (0 : Int32)) hx hb dX11_tellRow_124 (by decide) ?_
    obtain ⟨u6, e6, h⟩ := fb_b h
    refine fb_cv (wc := [(o, .inr (11, [.int o_textRoom, .int o_byteRoom, .int o_chain, .ref o_text, .int o_textSize, .ref o_packed, .int o_packedSize, .int o_matches, .ref o_loaded, .int o_loadedSize, .ref o_out, .int o_outSize, .int o_bits, .int o_tokens, .ref o_lengths, .ref o_distances, .ref o_heads, .ref o_earlier, .ref o_often, .ref o_symbolLengths, .ref o_distanceLengths, .ref o_lengthLengths, .ref o_symbolCodes, .ref o_distanceCodes, .ref o_lengthCodes, .ref o_counts, .ref o_parents, .ref o_alone, .ref o_row, .int o_told, .ref o_toldSymbols, .ref o_toldNumbers, .int o_place, .int o_fail, .int o_found, .int o_symbolCount, .int o_distanceCount, .int o_lengthCount])), (o_toldSymbols, .inl (o_toldSymbols_c, o_toldSymbols_n, .inl o_toldSymbols_v)), (o_toldNumbers, .inl (o_toldNumbers_c, o_toldNumbers_n, .inl o_toldNumbers_v))]) (wr := [(o_row, .inl (o_row_c, o_row_n, .inl o_row_v))]) (w1 := [(o, .inr (11, [.int o_textRoom, .int o_byteRoom, .int o_chain, .ref o_text, .int o_textSize, .ref o_packed, .int o_packedSize, .int o_matches, .ref o_loaded, .int o_loadedSize, .ref o_out, .int o_outSize, .int o_bits, .int o_tokens, .ref o_lengths, .ref o_distances, .ref o_heads, .ref o_earlier, .ref o_often, .ref o_symbolLengths, .ref o_distanceLengths, .ref o_lengthLengths, .ref o_symbolCodes, .ref o_distanceCodes, .ref o_lengthCodes, .ref o_counts, .ref o_parents, .ref o_alone, .ref o_row, .int u6.1, .ref o_toldSymbols, .ref o_toldNumbers, .int o_place, .int o_fail, .int o_found, .int o_symbolCount, .int o_distanceCount, .int o_lengthCount])), (o_toldSymbols, .inl (o_toldSymbols_c, o_toldSymbols_n, .inl u6.2.1)), (o_toldNumbers, .inl (o_toldNumbers_c, o_toldNumbers_n, .inl u6.2.2))]) (ws' := [(o, .inr (11, [.int o_textRoom, .int o_byteRoom, .int o_chain, .ref o_text, .int o_textSize, .ref o_packed, .int o_packedSize, .int o_matches, .ref o_loaded, .int o_loadedSize, .ref o_out, .int o_outSize, .int o_bits, .int o_tokens, .ref o_lengths, .ref o_distances, .ref o_heads, .ref o_earlier, .ref o_often, .ref o_symbolLengths, .ref o_distanceLengths, .ref o_lengthLengths, .ref o_symbolCodes, .ref o_distanceCodes, .ref o_lengthCodes, .ref o_counts, .ref o_parents, .ref o_alone, .ref o_row, .int u6.1, .ref o_toldSymbols, .ref o_toldNumbers, .int o_place, .int o_fail, .int o_found, .int o_symbolCount, .int o_distanceCount, .int o_lengthCount])), (o_row, .inl (o_row_c, o_row_n, .inl o_row_v)), (o_toldSymbols, .inl (o_toldSymbols_c, o_toldSymbols_n, .inl u6.2.1)), (o_toldNumbers, .inl (o_toldNumbers_c, o_toldNumbers_n, .inl u6.2.2))]) (va_runV (As := [.int (o_row_v (x2).toNatClampNeg), .int (0 : Int32)]) (rest := []) ⟨hx, hb, hml, hown, hts⟩ (mX11_tellOne l dC dI o o_toldSymbols o_toldNumbers o_text o_packed o_loaded o_out o_lengths o_distances o_heads o_earlier o_often o_symbolLengths o_distanceLengths o_lengthLengths o_symbolCodes o_distanceCodes o_lengthCodes o_counts o_parents o_alone o_row o_toldSymbols_c o_toldNumbers_c o_toldSymbols_n o_toldNumbers_n o_textRoom o_byteRoom o_chain o_textSize o_packedSize o_matches o_loadedSize o_outSize o_bits o_tokens o_told o_place o_fail o_found o_symbolCount o_distanceCount o_lengthCount o_toldSymbols_v o_toldNumbers_v (o_row_v (x2).toNatClampNeg) (0 : Int32) H.size u6 e6) (cwV 2 hts (fb_GV k_1064 k_1066 k_44 k_74 k_1067) rfl rfl rfl hdX11_tellOne ⟨Nat.le_of_ble_eq_true rfl, Nat.le_of_ble_eq_true rfl⟩) (fb_pV hP hD hS hA hK hN hZ [0, 2, 3] rfl rfl [1, 2] rfl (q0 := 0) (ci := 11) rfl rfl) rfl rfl hl.1 rfl (lv_room (Nat.le_of_ble_eq_true rfl)) dX11_tellRow_125 ⟨Nat.le_of_ble_eq_true rfl, Nat.le_of_ble_eq_true rfl⟩) hP hD hS hA [0, 2, 3] [1] rfl rfl rfl (by decide) [1, 0, 2, 3] rfl rfl (fun H locs hP hD hS => ?_)
    refine lv_aload_n hx hb dX11_tellRow_128 rfl (lv_at hl 0 rfl) ?_
    refine va_get (D := (dC, dI)) (ci := 11) (v := .ref o_row) (C := RX11) (T := TX11) (N := 38) hx hb hts i_X11 hown hK hP 0 rfl rfl 28 (by decide) (hts _ k_865) (fun _ h9 => h9) rfl dX11_tellRow_129 ?_
    refine lv_iload_n hx hb dX11_tellRow_132 rfl (lv_at hl 2 rfl) ?_
    obtain ⟨g7, h⟩ := fb_g h
    refine va_iald hx hb hK hP 1 0 rfl rfl g7 dX11_tellRow_133 ?_
    refine lv_istore (lv' := [(4, .int (o_row_v (x2).toNatClampNeg)), (0, .ref o), (1, .int x1), (2, .int x2), (3, .int x3)]) hx hb dX11_tellRow_134 hl (by decide) rfl (fun ls hl => ?_)
    refine lv_iinc (v := (x2 + (1 : Int32))) (lv' := [(2, .int (x2 + (1 : Int32))), (4, .int (o_row_v (x2).toNatClampNeg)), (0, .ref o), (1, .int x1), (3, .int x3)]) hx hb dX11_tellRow_136 hl (k := 3) rfl rfl (by decide) rfl (fun ls hl => ?_)
    refine lv_iinc (v := (x3 + (-1 : Int32))) (lv' := [(3, .int (x3 + (-1 : Int32))), (2, .int (x2 + (1 : Int32))), (4, .int (o_row_v (x2).toNatClampNeg)), (0, .ref o), (1, .int x1)]) hx hb dX11_tellRow_139 hl (k := 4) rfl rfl (by decide) rfl (fun ls hl => ?_)
    exact wB142 K7 hK7 fb_F u6.1 u6.2.1 u6.2.2 (x2 + (1 : Int32)) (x3 + (-1 : Int32)) (o_row_v (x2).toNatClampNeg) _ _ _ hP hD hS (lv_sub hl [3, 4, 1, 0, 2] rfl) h
  have wB87 : ∀ (K7 : Int32 → (Nat → Int32) → (Nat → Int32) → Int32 → Option (Int32 × (Nat → Int32) × (Nat → Int32))), (∀ (o_told : Int32) (o_toldSymbols_v : Nat → Int32) (o_toldNumbers_v : Nat → Int32) (x2 : Int32) (H : Heap) (locs : List Loc) (ls : Array Slot), va_P (dC, dI) fb_cl [(o, .inr (11, [.int o_textRoom, .int o_byteRoom, .int o_chain, .ref o_text, .int o_textSize, .ref o_packed, .int o_packedSize, .int o_matches, .ref o_loaded, .int o_loadedSize, .ref o_out, .int o_outSize, .int o_bits, .int o_tokens, .ref o_lengths, .ref o_distances, .ref o_heads, .ref o_earlier, .ref o_often, .ref o_symbolLengths, .ref o_distanceLengths, .ref o_lengthLengths, .ref o_symbolCodes, .ref o_distanceCodes, .ref o_lengthCodes, .ref o_counts, .ref o_parents, .ref o_alone, .ref o_row, .int o_told, .ref o_toldSymbols, .ref o_toldNumbers, .int o_place, .int o_fail, .int o_found, .int o_symbolCount, .int o_distanceCount, .int o_lengthCount])), (o_row, .inl (o_row_c, o_row_n, .inl o_row_v)), (o_toldSymbols, .inl (o_toldSymbols_c, o_toldSymbols_n, .inl o_toldSymbols_v)), (o_toldNumbers, .inl (o_toldNumbers_c, o_toldNumbers_n, .inl o_toldNumbers_v))] H → va_D A [(o, .inr (11, [.int o_textRoom, .int o_byteRoom, .int o_chain, .ref o_text, .int o_textSize, .ref o_packed, .int o_packedSize, .int o_matches, .ref o_loaded, .int o_loadedSize, .ref o_out, .int o_outSize, .int o_bits, .int o_tokens, .ref o_lengths, .ref o_distances, .ref o_heads, .ref o_earlier, .ref o_often, .ref o_symbolLengths, .ref o_distanceLengths, .ref o_lengthLengths, .ref o_symbolCodes, .ref o_distanceCodes, .ref o_lengthCodes, .ref o_counts, .ref o_parents, .ref o_alone, .ref o_row, .int o_told, .ref o_toldSymbols, .ref o_toldNumbers, .int o_place, .int o_fail, .int o_found, .int o_symbolCount, .int o_distanceCount, .int o_lengthCount])), (o_row, .inl (o_row_c, o_row_n, .inl o_row_v)), (o_toldSymbols, .inl (o_toldSymbols_c, o_toldSymbols_n, .inl o_toldSymbols_v)), (o_toldNumbers, .inl (o_toldNumbers_c, o_toldNumbers_n, .inl o_toldNumbers_v))] → va_S A s.heap H locs → lv_has ls 6 [(0, .ref o), (1, .int x1), (2, .int x2)] → K7 o_told o_toldSymbols_v o_toldNumbers_v x2 = some u → W p l e ({ frames := 1, cells := 0, slots := 0, locals := 22 }) s m args below meth c H locs 0 0 Q (F0 m 7 ls [])) → ∀ (o_told : Int32) (o_toldSymbols_v : Nat → Int32) (o_toldNumbers_v : Nat → Int32) (x2 : Int32) (x3 : Int32) (H : Heap) (locs : List Loc) (ls : Array Slot), va_P (dC, dI) fb_cl [(o, .inr (11, [.int o_textRoom, .int o_byteRoom, .int o_chain, .ref o_text, .int o_textSize, .ref o_packed, .int o_packedSize, .int o_matches, .ref o_loaded, .int o_loadedSize, .ref o_out, .int o_outSize, .int o_bits, .int o_tokens, .ref o_lengths, .ref o_distances, .ref o_heads, .ref o_earlier, .ref o_often, .ref o_symbolLengths, .ref o_distanceLengths, .ref o_lengthLengths, .ref o_symbolCodes, .ref o_distanceCodes, .ref o_lengthCodes, .ref o_counts, .ref o_parents, .ref o_alone, .ref o_row, .int o_told, .ref o_toldSymbols, .ref o_toldNumbers, .int o_place, .int o_fail, .int o_found, .int o_symbolCount, .int o_distanceCount, .int o_lengthCount])), (o_row, .inl (o_row_c, o_row_n, .inl o_row_v)), (o_toldSymbols, .inl (o_toldSymbols_c, o_toldSymbols_n, .inl o_toldSymbols_v)), (o_toldNumbers, .inl (o_toldNumbers_c, o_toldNumbers_n, .inl o_toldNumbers_v))] H → va_D A [(o, .inr (11, [.int o_textRoom, .int o_byteRoom, .int o_chain, .ref o_text, .int o_textSize, .ref o_packed, .int o_packedSize, .int o_matches, .ref o_loaded, .int o_loadedSize, .ref o_out, .int o_outSize, .int o_bits, .int o_tokens, .ref o_lengths, .ref o_distances, .ref o_heads, .ref o_earlier, .ref o_often, .ref o_symbolLengths, .ref o_distanceLengths, .ref o_lengthLengths, .ref o_symbolCodes, .ref o_distanceCodes, .ref o_lengthCodes, .ref o_counts, .ref o_parents, .ref o_alone, .ref o_row, .int o_told, .ref o_toldSymbols, .ref o_toldNumbers, .int o_place, .int o_fail, .int o_found, .int o_symbolCount, .int o_distanceCount, .int o_lengthCount])), (o_row, .inl (o_row_c, o_row_n, .inl o_row_v)), (o_toldSymbols, .inl (o_toldSymbols_c, o_toldSymbols_n, .inl o_toldSymbols_v)), (o_toldNumbers, .inl (o_toldNumbers_c, o_toldNumbers_n, .inl o_toldNumbers_v))] → va_S A s.heap H locs → lv_has ls 6 [(0, .ref o), (1, .int x1), (2, .int x2), (3, .int x3)] → pX11_tellRow_b87 o_row_n o_toldSymbols_n o_toldNumbers_n o_row_v K7 o_told o_toldSymbols_v o_toldNumbers_v x2 x3 = some u → W p l e ({ frames := 1, cells := 0, slots := 0, locals := 22 }) s m args below meth c H locs 0 0 Q (F0 m 87 ls []) := by
    intro K7 hK7 o_told o_toldSymbols_v o_toldNumbers_v x2 x3 H locs ls hP hD hS hl h
    unfold pX11_tellRow_b87 at h
    refine lv_aload_n hx hb dX11_tellRow_87 rfl (lv_at hl 0 rfl) ?_
    refine va_get (D := (dC, dI)) (ci := 11) (v := .ref o_row) (C := RX11) (T := TX11) (N := 38) hx hb hts i_X11 hown hK hP 0 rfl rfl 28 (by decide) (hts _ k_865) (fun _ h9 => h9) rfl dX11_tellRow_88 ?_
    refine lv_iload_n hx hb dX11_tellRow_91 rfl (lv_at hl 2 rfl) ?_
    obtain ⟨g8, h⟩ := fb_g h
    refine va_iald hx hb hK hP 1 0 rfl rfl g8 dX11_tellRow_92 ?_
    refine lv_if_ne (tgt := 117) hx hb dX11_tellRow_93 (by decide) (fun c9 => ?_) (fun c9 => ?_)
    · replace h := fb_f c9 h
      exact wB117 K7 hK7 o_told o_toldSymbols_v o_toldNumbers_v x2 x3 _ _ _ hP hD hS (lv_sub hl [0, 1, 2, 3] rfl) h
    · replace h := fb_t c9 h
      refine lv_iload_n hx hb dX11_tellRow_96 rfl (lv_at hl 3 rfl) ?_
      refine lv_iconst (v := (3 : Int32)) hx hb dX11_tellRow_97 (by decide) ?_
      refine lv_icmp_lt (tgt := 117) hx hb dX11_tellRow_98 (by decide) (fun c10 => ?_) (fun c10 => ?_)
      · replace h := fb_t c10 h
        exact wB117 K7 hK7 o_told o_toldSymbols_v o_toldNumbers_v x2 x3 _ _ _ hP hD hS (lv_sub hl [0, 1, 2, 3] rfl) h
      · replace h := fb_f c10 h
        refine lv_aload_n hx hb dX11_tellRow_101 rfl (lv_at hl 0 rfl) ?_
        refine lv_bipush (v := (17 : Int32)) hx hb dX11_tellRow_102 (by decide) ?_
        refine lv_iload_n hx hb dX11_tellRow_104 rfl (lv_at hl 3 rfl) ?_
        refine lv_iconst (v := (3 : Int32)) hx hb dX11_tellRow_105 (by decide) ?_
        refine lv_isub hx hb dX11_tellRow_106 ?_
        obtain ⟨u11, e11, h⟩ := fb_b h
        refine fb_cv (wc := [(o, .inr (11, [.int o_textRoom, .int o_byteRoom, .int o_chain, .ref o_text, .int o_textSize, .ref o_packed, .int o_packedSize, .int o_matches, .ref o_loaded, .int o_loadedSize, .ref o_out, .int o_outSize, .int o_bits, .int o_tokens, .ref o_lengths, .ref o_distances, .ref o_heads, .ref o_earlier, .ref o_often, .ref o_symbolLengths, .ref o_distanceLengths, .ref o_lengthLengths, .ref o_symbolCodes, .ref o_distanceCodes, .ref o_lengthCodes, .ref o_counts, .ref o_parents, .ref o_alone, .ref o_row, .int o_told, .ref o_toldSymbols, .ref o_toldNumbers, .int o_place, .int o_fail, .int o_found, .int o_symbolCount, .int o_distanceCount, .int o_lengthCount])), (o_toldSymbols, .inl (o_toldSymbols_c, o_toldSymbols_n, .inl o_toldSymbols_v)), (o_toldNumbers, .inl (o_toldNumbers_c, o_toldNumbers_n, .inl o_toldNumbers_v))]) (wr := [(o_row, .inl (o_row_c, o_row_n, .inl o_row_v))]) (w1 := [(o, .inr (11, [.int o_textRoom, .int o_byteRoom, .int o_chain, .ref o_text, .int o_textSize, .ref o_packed, .int o_packedSize, .int o_matches, .ref o_loaded, .int o_loadedSize, .ref o_out, .int o_outSize, .int o_bits, .int o_tokens, .ref o_lengths, .ref o_distances, .ref o_heads, .ref o_earlier, .ref o_often, .ref o_symbolLengths, .ref o_distanceLengths, .ref o_lengthLengths, .ref o_symbolCodes, .ref o_distanceCodes, .ref o_lengthCodes, .ref o_counts, .ref o_parents, .ref o_alone, .ref o_row, .int u11.1, .ref o_toldSymbols, .ref o_toldNumbers, .int o_place, .int o_fail, .int o_found, .int o_symbolCount, .int o_distanceCount, .int o_lengthCount])), (o_toldSymbols, .inl (o_toldSymbols_c, o_toldSymbols_n, .inl u11.2.1)), (o_toldNumbers, .inl (o_toldNumbers_c, o_toldNumbers_n, .inl u11.2.2))]) (ws' := [(o, .inr (11, [.int o_textRoom, .int o_byteRoom, .int o_chain, .ref o_text, .int o_textSize, .ref o_packed, .int o_packedSize, .int o_matches, .ref o_loaded, .int o_loadedSize, .ref o_out, .int o_outSize, .int o_bits, .int o_tokens, .ref o_lengths, .ref o_distances, .ref o_heads, .ref o_earlier, .ref o_often, .ref o_symbolLengths, .ref o_distanceLengths, .ref o_lengthLengths, .ref o_symbolCodes, .ref o_distanceCodes, .ref o_lengthCodes, .ref o_counts, .ref o_parents, .ref o_alone, .ref o_row, .int u11.1, .ref o_toldSymbols, .ref o_toldNumbers, .int o_place, .int o_fail, .int o_found, .int o_symbolCount, .int o_distanceCount, .int o_lengthCount])), (o_row, .inl (o_row_c, o_row_n, .inl o_row_v)), (o_toldSymbols, .inl (o_toldSymbols_c, o_toldSymbols_n, .inl u11.2.1)), (o_toldNumbers, .inl (o_toldNumbers_c, o_toldNumbers_n, .inl u11.2.2))]) (va_runV (As := [.int (17 : Int32), .int (x3 - (3 : Int32))]) (rest := []) ⟨hx, hb, hml, hown, hts⟩ (mX11_tellOne l dC dI o o_toldSymbols o_toldNumbers o_text o_packed o_loaded o_out o_lengths o_distances o_heads o_earlier o_often o_symbolLengths o_distanceLengths o_lengthLengths o_symbolCodes o_distanceCodes o_lengthCodes o_counts o_parents o_alone o_row o_toldSymbols_c o_toldNumbers_c o_toldSymbols_n o_toldNumbers_n o_textRoom o_byteRoom o_chain o_textSize o_packedSize o_matches o_loadedSize o_outSize o_bits o_tokens o_told o_place o_fail o_found o_symbolCount o_distanceCount o_lengthCount o_toldSymbols_v o_toldNumbers_v (17 : Int32) (x3 - (3 : Int32)) H.size u11 e11) (cwV 2 hts (fb_GV k_1064 k_1066 k_44 k_74 k_1067) rfl rfl rfl hdX11_tellOne ⟨Nat.le_of_ble_eq_true rfl, Nat.le_of_ble_eq_true rfl⟩) (fb_pV hP hD hS hA hK hN hZ [0, 2, 3] rfl rfl [1, 2] rfl (q0 := 0) (ci := 11) rfl rfl) rfl rfl hl.1 rfl (lv_room (Nat.le_of_ble_eq_true rfl)) dX11_tellRow_107 ⟨Nat.le_of_ble_eq_true rfl, Nat.le_of_ble_eq_true rfl⟩) hP hD hS hA [0, 2, 3] [1] rfl rfl rfl (by decide) [1, 0, 2, 3] rfl rfl (fun H locs hP hD hS => ?_)
        refine lv_iload_n hx hb dX11_tellRow_110 rfl (lv_at hl 2 rfl) ?_
        refine lv_iload_n hx hb dX11_tellRow_111 rfl (lv_at hl 3 rfl) ?_
        refine lv_iadd hx hb dX11_tellRow_112 ?_
        refine lv_istore_n (lv' := [(2, .int (x2 + x3)), (0, .ref o), (1, .int x1), (3, .int x3)]) hx hb dX11_tellRow_113 rfl hl (by decide) rfl (fun ls hl => ?_)
        refine lv_goto (tgt := 183) hx hb dX11_tellRow_114 (by decide) ?_
        refine lv_goto (tgt := 7) hx hb dX11_tellRow_183 (by decide) ?_
        exact hK7 u11.1 u11.2.1 u11.2.2 (x2 + x3) _ _ _ hP hD hS (lv_sub hl [1, 2, 0] rfl) h
  have wB44 : ∀ (K7 : Int32 → (Nat → Int32) → (Nat → Int32) → Int32 → Option (Int32 × (Nat → Int32) × (Nat → Int32))), (∀ (o_told : Int32) (o_toldSymbols_v : Nat → Int32) (o_toldNumbers_v : Nat → Int32) (x2 : Int32) (H : Heap) (locs : List Loc) (ls : Array Slot), va_P (dC, dI) fb_cl [(o, .inr (11, [.int o_textRoom, .int o_byteRoom, .int o_chain, .ref o_text, .int o_textSize, .ref o_packed, .int o_packedSize, .int o_matches, .ref o_loaded, .int o_loadedSize, .ref o_out, .int o_outSize, .int o_bits, .int o_tokens, .ref o_lengths, .ref o_distances, .ref o_heads, .ref o_earlier, .ref o_often, .ref o_symbolLengths, .ref o_distanceLengths, .ref o_lengthLengths, .ref o_symbolCodes, .ref o_distanceCodes, .ref o_lengthCodes, .ref o_counts, .ref o_parents, .ref o_alone, .ref o_row, .int o_told, .ref o_toldSymbols, .ref o_toldNumbers, .int o_place, .int o_fail, .int o_found, .int o_symbolCount, .int o_distanceCount, .int o_lengthCount])), (o_row, .inl (o_row_c, o_row_n, .inl o_row_v)), (o_toldSymbols, .inl (o_toldSymbols_c, o_toldSymbols_n, .inl o_toldSymbols_v)), (o_toldNumbers, .inl (o_toldNumbers_c, o_toldNumbers_n, .inl o_toldNumbers_v))] H → va_D A [(o, .inr (11, [.int o_textRoom, .int o_byteRoom, .int o_chain, .ref o_text, .int o_textSize, .ref o_packed, .int o_packedSize, .int o_matches, .ref o_loaded, .int o_loadedSize, .ref o_out, .int o_outSize, .int o_bits, .int o_tokens, .ref o_lengths, .ref o_distances, .ref o_heads, .ref o_earlier, .ref o_often, .ref o_symbolLengths, .ref o_distanceLengths, .ref o_lengthLengths, .ref o_symbolCodes, .ref o_distanceCodes, .ref o_lengthCodes, .ref o_counts, .ref o_parents, .ref o_alone, .ref o_row, .int o_told, .ref o_toldSymbols, .ref o_toldNumbers, .int o_place, .int o_fail, .int o_found, .int o_symbolCount, .int o_distanceCount, .int o_lengthCount])), (o_row, .inl (o_row_c, o_row_n, .inl o_row_v)), (o_toldSymbols, .inl (o_toldSymbols_c, o_toldSymbols_n, .inl o_toldSymbols_v)), (o_toldNumbers, .inl (o_toldNumbers_c, o_toldNumbers_n, .inl o_toldNumbers_v))] → va_S A s.heap H locs → lv_has ls 6 [(0, .ref o), (1, .int x1), (2, .int x2)] → K7 o_told o_toldSymbols_v o_toldNumbers_v x2 = some u → W p l e ({ frames := 1, cells := 0, slots := 0, locals := 22 }) s m args below meth c H locs 0 0 Q (F0 m 7 ls [])) → ∀ (o_told : Int32) (o_toldSymbols_v : Nat → Int32) (o_toldNumbers_v : Nat → Int32) (x2 : Int32) (x3 : Int32) (H : Heap) (locs : List Loc) (ls : Array Slot), va_P (dC, dI) fb_cl [(o, .inr (11, [.int o_textRoom, .int o_byteRoom, .int o_chain, .ref o_text, .int o_textSize, .ref o_packed, .int o_packedSize, .int o_matches, .ref o_loaded, .int o_loadedSize, .ref o_out, .int o_outSize, .int o_bits, .int o_tokens, .ref o_lengths, .ref o_distances, .ref o_heads, .ref o_earlier, .ref o_often, .ref o_symbolLengths, .ref o_distanceLengths, .ref o_lengthLengths, .ref o_symbolCodes, .ref o_distanceCodes, .ref o_lengthCodes, .ref o_counts, .ref o_parents, .ref o_alone, .ref o_row, .int o_told, .ref o_toldSymbols, .ref o_toldNumbers, .int o_place, .int o_fail, .int o_found, .int o_symbolCount, .int o_distanceCount, .int o_lengthCount])), (o_row, .inl (o_row_c, o_row_n, .inl o_row_v)), (o_toldSymbols, .inl (o_toldSymbols_c, o_toldSymbols_n, .inl o_toldSymbols_v)), (o_toldNumbers, .inl (o_toldNumbers_c, o_toldNumbers_n, .inl o_toldNumbers_v))] H → va_D A [(o, .inr (11, [.int o_textRoom, .int o_byteRoom, .int o_chain, .ref o_text, .int o_textSize, .ref o_packed, .int o_packedSize, .int o_matches, .ref o_loaded, .int o_loadedSize, .ref o_out, .int o_outSize, .int o_bits, .int o_tokens, .ref o_lengths, .ref o_distances, .ref o_heads, .ref o_earlier, .ref o_often, .ref o_symbolLengths, .ref o_distanceLengths, .ref o_lengthLengths, .ref o_symbolCodes, .ref o_distanceCodes, .ref o_lengthCodes, .ref o_counts, .ref o_parents, .ref o_alone, .ref o_row, .int o_told, .ref o_toldSymbols, .ref o_toldNumbers, .int o_place, .int o_fail, .int o_found, .int o_symbolCount, .int o_distanceCount, .int o_lengthCount])), (o_row, .inl (o_row_c, o_row_n, .inl o_row_v)), (o_toldSymbols, .inl (o_toldSymbols_c, o_toldSymbols_n, .inl o_toldSymbols_v)), (o_toldNumbers, .inl (o_toldNumbers_c, o_toldNumbers_n, .inl o_toldNumbers_v))] → va_S A s.heap H locs → lv_has ls 6 [(0, .ref o), (1, .int x1), (2, .int x2), (3, .int x3)] → pX11_tellRow_b44 o_row_n o_toldSymbols_n o_toldNumbers_n o_row_v K7 o_told o_toldSymbols_v o_toldNumbers_v x2 x3 = some u → W p l e ({ frames := 1, cells := 0, slots := 0, locals := 22 }) s m args below meth c H locs 0 0 Q (F0 m 44 ls []) := by
    intro K7 hK7 o_told o_toldSymbols_v o_toldNumbers_v x2 x3 H locs ls hP hD hS hl h
    unfold pX11_tellRow_b44 at h
    refine lv_aload_n hx hb dX11_tellRow_44 rfl (lv_at hl 0 rfl) ?_
    refine va_get (D := (dC, dI)) (ci := 11) (v := .ref o_row) (C := RX11) (T := TX11) (N := 38) hx hb hts i_X11 hown hK hP 0 rfl rfl 28 (by decide) (hts _ k_865) (fun _ h9 => h9) rfl dX11_tellRow_45 ?_
    refine lv_iload_n hx hb dX11_tellRow_48 rfl (lv_at hl 2 rfl) ?_
    obtain ⟨g12, h⟩ := fb_g h
    refine va_iald hx hb hK hP 1 0 rfl rfl g12 dX11_tellRow_49 ?_
    refine lv_if_ne (tgt := 87) hx hb dX11_tellRow_50 (by decide) (fun c13 => ?_) (fun c13 => ?_)
    · replace h := fb_f c13 h
      exact wB87 K7 hK7 o_told o_toldSymbols_v o_toldNumbers_v x2 x3 _ _ _ hP hD hS (lv_sub hl [0, 1, 2, 3] rfl) h
    · replace h := fb_t c13 h
      refine lv_iload_n hx hb dX11_tellRow_53 rfl (lv_at hl 3 rfl) ?_
      refine lv_bipush (v := (11 : Int32)) hx hb dX11_tellRow_54 (by decide) ?_
      refine lv_icmp_lt (tgt := 87) hx hb dX11_tellRow_56 (by decide) (fun c14 => ?_) (fun c14 => ?_)
      · replace h := fb_t c14 h
        exact wB87 K7 hK7 o_told o_toldSymbols_v o_toldNumbers_v x2 x3 _ _ _ hP hD hS (lv_sub hl [0, 1, 2, 3] rfl) h
      · replace h := fb_f c14 h
        refine lv_iload_n hx hb dX11_tellRow_59 rfl (lv_at hl 3 rfl) ?_
        refine lv_sipush (v := (138 : Int32)) hx hb dX11_tellRow_60 (by decide) ?_
        obtain ⟨u15, e15, h⟩ := fb_b h
        refine fb_ci (wc := []) (wr := [(o, .inr (11, [.int o_textRoom, .int o_byteRoom, .int o_chain, .ref o_text, .int o_textSize, .ref o_packed, .int o_packedSize, .int o_matches, .ref o_loaded, .int o_loadedSize, .ref o_out, .int o_outSize, .int o_bits, .int o_tokens, .ref o_lengths, .ref o_distances, .ref o_heads, .ref o_earlier, .ref o_often, .ref o_symbolLengths, .ref o_distanceLengths, .ref o_lengthLengths, .ref o_symbolCodes, .ref o_distanceCodes, .ref o_lengthCodes, .ref o_counts, .ref o_parents, .ref o_alone, .ref o_row, .int o_told, .ref o_toldSymbols, .ref o_toldNumbers, .int o_place, .int o_fail, .int o_found, .int o_symbolCount, .int o_distanceCount, .int o_lengthCount])), (o_row, .inl (o_row_c, o_row_n, .inl o_row_v)), (o_toldSymbols, .inl (o_toldSymbols_c, o_toldSymbols_n, .inl o_toldSymbols_v)), (o_toldNumbers, .inl (o_toldNumbers_c, o_toldNumbers_n, .inl o_toldNumbers_v))]) (w1 := []) (ws' := [(o, .inr (11, [.int o_textRoom, .int o_byteRoom, .int o_chain, .ref o_text, .int o_textSize, .ref o_packed, .int o_packedSize, .int o_matches, .ref o_loaded, .int o_loadedSize, .ref o_out, .int o_outSize, .int o_bits, .int o_tokens, .ref o_lengths, .ref o_distances, .ref o_heads, .ref o_earlier, .ref o_often, .ref o_symbolLengths, .ref o_distanceLengths, .ref o_lengthLengths, .ref o_symbolCodes, .ref o_distanceCodes, .ref o_lengthCodes, .ref o_counts, .ref o_parents, .ref o_alone, .ref o_row, .int o_told, .ref o_toldSymbols, .ref o_toldNumbers, .int o_place, .int o_fail, .int o_found, .int o_symbolCount, .int o_distanceCount, .int o_lengthCount])), (o_row, .inl (o_row_c, o_row_n, .inl o_row_v)), (o_toldSymbols, .inl (o_toldSymbols_c, o_toldSymbols_n, .inl o_toldSymbols_v)), (o_toldNumbers, .inl (o_toldNumbers_c, o_toldNumbers_n, .inl o_toldNumbers_v))]) (va_runS (As := [.int x3, .int (138 : Int32)]) (rest := []) ⟨hx, hb, hml, hown, hts⟩ (mX11_min l dC dI x3 (138 : Int32) H.size u15 e15) (va_cwS 2 hts (fb_GSx k_1022 k_1023 k_74 k_1024) rfl rfl rfl hdX11_min ⟨Nat.le_of_ble_eq_true rfl, Nat.le_of_ble_eq_true rfl⟩) (fb_pS hP hD hS hA hK hN hZ [] rfl rfl [] rfl) rfl rfl hl.1 rfl (lv_room (Nat.le_of_ble_eq_true rfl)) dX11_tellRow_63 ⟨Nat.le_of_ble_eq_true rfl, Nat.le_of_ble_eq_true rfl⟩) hP hD hS hA [] [0, 1, 2, 3] rfl rfl rfl (by decide) [0, 1, 2, 3] rfl rfl (fun H locs hP hD hS => ?_)
        refine lv_istore (lv' := [(4, .int u15), (0, .ref o), (1, .int x1), (2, .int x2), (3, .int x3)]) hx hb dX11_tellRow_66 hl (by decide) rfl (fun ls hl => ?_)
        refine lv_aload_n hx hb dX11_tellRow_68 rfl (lv_at hl 1 rfl) ?_
        refine lv_bipush (v := (18 : Int32)) hx hb dX11_tellRow_69 (by decide) ?_
        refine lv_iload hx hb dX11_tellRow_71 (lv_at hl 0 rfl) ?_
        refine lv_bipush (v := (11 : Int32)) hx hb dX11_tellRow_73 (by decide) ?_
        refine lv_isub hx hb dX11_tellRow_75 ?_
        obtain ⟨u16, e16, h⟩ := fb_b h
        refine fb_cv (wc := [(o, .inr (11, [.int o_textRoom, .int o_byteRoom, .int o_chain, .ref o_text, .int o_textSize, .ref o_packed, .int o_packedSize, .int o_matches, .ref o_loaded, .int o_loadedSize, .ref o_out, .int o_outSize, .int o_bits, .int o_tokens, .ref o_lengths, .ref o_distances, .ref o_heads, .ref o_earlier, .ref o_often, .ref o_symbolLengths, .ref o_distanceLengths, .ref o_lengthLengths, .ref o_symbolCodes, .ref o_distanceCodes, .ref o_lengthCodes, .ref o_counts, .ref o_parents, .ref o_alone, .ref o_row, .int o_told, .ref o_toldSymbols, .ref o_toldNumbers, .int o_place, .int o_fail, .int o_found, .int o_symbolCount, .int o_distanceCount, .int o_lengthCount])), (o_toldSymbols, .inl (o_toldSymbols_c, o_toldSymbols_n, .inl o_toldSymbols_v)), (o_toldNumbers, .inl (o_toldNumbers_c, o_toldNumbers_n, .inl o_toldNumbers_v))]) (wr := [(o_row, .inl (o_row_c, o_row_n, .inl o_row_v))]) (w1 := [(o, .inr (11, [.int o_textRoom, .int o_byteRoom, .int o_chain, .ref o_text, .int o_textSize, .ref o_packed, .int o_packedSize, .int o_matches, .ref o_loaded, .int o_loadedSize, .ref o_out, .int o_outSize, .int o_bits, .int o_tokens, .ref o_lengths, .ref o_distances, .ref o_heads, .ref o_earlier, .ref o_often, .ref o_symbolLengths, .ref o_distanceLengths, .ref o_lengthLengths, .ref o_symbolCodes, .ref o_distanceCodes, .ref o_lengthCodes, .ref o_counts, .ref o_parents, .ref o_alone, .ref o_row, .int u16.1, .ref o_toldSymbols, .ref o_toldNumbers, .int o_place, .int o_fail, .int o_found, .int o_symbolCount, .int o_distanceCount, .int o_lengthCount])), (o_toldSymbols, .inl (o_toldSymbols_c, o_toldSymbols_n, .inl u16.2.1)), (o_toldNumbers, .inl (o_toldNumbers_c, o_toldNumbers_n, .inl u16.2.2))]) (ws' := [(o, .inr (11, [.int o_textRoom, .int o_byteRoom, .int o_chain, .ref o_text, .int o_textSize, .ref o_packed, .int o_packedSize, .int o_matches, .ref o_loaded, .int o_loadedSize, .ref o_out, .int o_outSize, .int o_bits, .int o_tokens, .ref o_lengths, .ref o_distances, .ref o_heads, .ref o_earlier, .ref o_often, .ref o_symbolLengths, .ref o_distanceLengths, .ref o_lengthLengths, .ref o_symbolCodes, .ref o_distanceCodes, .ref o_lengthCodes, .ref o_counts, .ref o_parents, .ref o_alone, .ref o_row, .int u16.1, .ref o_toldSymbols, .ref o_toldNumbers, .int o_place, .int o_fail, .int o_found, .int o_symbolCount, .int o_distanceCount, .int o_lengthCount])), (o_row, .inl (o_row_c, o_row_n, .inl o_row_v)), (o_toldSymbols, .inl (o_toldSymbols_c, o_toldSymbols_n, .inl u16.2.1)), (o_toldNumbers, .inl (o_toldNumbers_c, o_toldNumbers_n, .inl u16.2.2))]) (va_runV (As := [.int (18 : Int32), .int (u15 - (11 : Int32))]) (rest := []) ⟨hx, hb, hml, hown, hts⟩ (mX11_tellOne l dC dI o o_toldSymbols o_toldNumbers o_text o_packed o_loaded o_out o_lengths o_distances o_heads o_earlier o_often o_symbolLengths o_distanceLengths o_lengthLengths o_symbolCodes o_distanceCodes o_lengthCodes o_counts o_parents o_alone o_row o_toldSymbols_c o_toldNumbers_c o_toldSymbols_n o_toldNumbers_n o_textRoom o_byteRoom o_chain o_textSize o_packedSize o_matches o_loadedSize o_outSize o_bits o_tokens o_told o_place o_fail o_found o_symbolCount o_distanceCount o_lengthCount o_toldSymbols_v o_toldNumbers_v (18 : Int32) (u15 - (11 : Int32)) H.size u16 e16) (cwV 2 hts (fb_GV k_1064 k_1066 k_44 k_74 k_1067) rfl rfl rfl hdX11_tellOne ⟨Nat.le_of_ble_eq_true rfl, Nat.le_of_ble_eq_true rfl⟩) (fb_pV hP hD hS hA hK hN hZ [0, 2, 3] rfl rfl [1, 2] rfl (q0 := 0) (ci := 11) rfl rfl) rfl rfl hl.1 rfl (lv_room (Nat.le_of_ble_eq_true rfl)) dX11_tellRow_76 ⟨Nat.le_of_ble_eq_true rfl, Nat.le_of_ble_eq_true rfl⟩) hP hD hS hA [0, 2, 3] [1] rfl rfl rfl (by decide) [1, 0, 2, 3] rfl rfl (fun H locs hP hD hS => ?_)
        refine lv_iload_n hx hb dX11_tellRow_79 rfl (lv_at hl 3 rfl) ?_
        refine lv_iload hx hb dX11_tellRow_80 (lv_at hl 0 rfl) ?_
        refine lv_iadd hx hb dX11_tellRow_82 ?_
        refine lv_istore_n (lv' := [(2, .int (x2 + u15)), (4, .int u15), (0, .ref o), (1, .int x1), (3, .int x3)]) hx hb dX11_tellRow_83 rfl hl (by decide) rfl (fun ls hl => ?_)
        refine lv_goto (tgt := 183) hx hb dX11_tellRow_84 (by decide) ?_
        refine lv_goto (tgt := 7) hx hb dX11_tellRow_183 (by decide) ?_
        exact hK7 u16.1 u16.2.1 u16.2.2 (x2 + u15) _ _ _ hP hD hS (lv_sub hl [2, 3, 0] rfl) h
  have wB14 : ∀ (K7 : Int32 → (Nat → Int32) → (Nat → Int32) → Int32 → Option (Int32 × (Nat → Int32) × (Nat → Int32))), (∀ (o_told : Int32) (o_toldSymbols_v : Nat → Int32) (o_toldNumbers_v : Nat → Int32) (x2 : Int32) (H : Heap) (locs : List Loc) (ls : Array Slot), va_P (dC, dI) fb_cl [(o, .inr (11, [.int o_textRoom, .int o_byteRoom, .int o_chain, .ref o_text, .int o_textSize, .ref o_packed, .int o_packedSize, .int o_matches, .ref o_loaded, .int o_loadedSize, .ref o_out, .int o_outSize, .int o_bits, .int o_tokens, .ref o_lengths, .ref o_distances, .ref o_heads, .ref o_earlier, .ref o_often, .ref o_symbolLengths, .ref o_distanceLengths, .ref o_lengthLengths, .ref o_symbolCodes, .ref o_distanceCodes, .ref o_lengthCodes, .ref o_counts, .ref o_parents, .ref o_alone, .ref o_row, .int o_told, .ref o_toldSymbols, .ref o_toldNumbers, .int o_place, .int o_fail, .int o_found, .int o_symbolCount, .int o_distanceCount, .int o_lengthCount])), (o_row, .inl (o_row_c, o_row_n, .inl o_row_v)), (o_toldSymbols, .inl (o_toldSymbols_c, o_toldSymbols_n, .inl o_toldSymbols_v)), (o_toldNumbers, .inl (o_toldNumbers_c, o_toldNumbers_n, .inl o_toldNumbers_v))] H → va_D A [(o, .inr (11, [.int o_textRoom, .int o_byteRoom, .int o_chain, .ref o_text, .int o_textSize, .ref o_packed, .int o_packedSize, .int o_matches, .ref o_loaded, .int o_loadedSize, .ref o_out, .int o_outSize, .int o_bits, .int o_tokens, .ref o_lengths, .ref o_distances, .ref o_heads, .ref o_earlier, .ref o_often, .ref o_symbolLengths, .ref o_distanceLengths, .ref o_lengthLengths, .ref o_symbolCodes, .ref o_distanceCodes, .ref o_lengthCodes, .ref o_counts, .ref o_parents, .ref o_alone, .ref o_row, .int o_told, .ref o_toldSymbols, .ref o_toldNumbers, .int o_place, .int o_fail, .int o_found, .int o_symbolCount, .int o_distanceCount, .int o_lengthCount])), (o_row, .inl (o_row_c, o_row_n, .inl o_row_v)), (o_toldSymbols, .inl (o_toldSymbols_c, o_toldSymbols_n, .inl o_toldSymbols_v)), (o_toldNumbers, .inl (o_toldNumbers_c, o_toldNumbers_n, .inl o_toldNumbers_v))] → va_S A s.heap H locs → lv_has ls 6 [(0, .ref o), (1, .int x1), (2, .int x2)] → K7 o_told o_toldSymbols_v o_toldNumbers_v x2 = some u → W p l e ({ frames := 1, cells := 0, slots := 0, locals := 22 }) s m args below meth c H locs 0 0 Q (F0 m 7 ls [])) → ∀ n : Nat, ∀ (o_told : Int32) (o_toldSymbols_v : Nat → Int32) (o_toldNumbers_v : Nat → Int32) (x2 : Int32) (x3 : Int32) (H : Heap) (locs : List Loc) (ls : Array Slot), va_P (dC, dI) fb_cl [(o, .inr (11, [.int o_textRoom, .int o_byteRoom, .int o_chain, .ref o_text, .int o_textSize, .ref o_packed, .int o_packedSize, .int o_matches, .ref o_loaded, .int o_loadedSize, .ref o_out, .int o_outSize, .int o_bits, .int o_tokens, .ref o_lengths, .ref o_distances, .ref o_heads, .ref o_earlier, .ref o_often, .ref o_symbolLengths, .ref o_distanceLengths, .ref o_lengthLengths, .ref o_symbolCodes, .ref o_distanceCodes, .ref o_lengthCodes, .ref o_counts, .ref o_parents, .ref o_alone, .ref o_row, .int o_told, .ref o_toldSymbols, .ref o_toldNumbers, .int o_place, .int o_fail, .int o_found, .int o_symbolCount, .int o_distanceCount, .int o_lengthCount])), (o_row, .inl (o_row_c, o_row_n, .inl o_row_v)), (o_toldSymbols, .inl (o_toldSymbols_c, o_toldSymbols_n, .inl o_toldSymbols_v)), (o_toldNumbers, .inl (o_toldNumbers_c, o_toldNumbers_n, .inl o_toldNumbers_v))] H → va_D A [(o, .inr (11, [.int o_textRoom, .int o_byteRoom, .int o_chain, .ref o_text, .int o_textSize, .ref o_packed, .int o_packedSize, .int o_matches, .ref o_loaded, .int o_loadedSize, .ref o_out, .int o_outSize, .int o_bits, .int o_tokens, .ref o_lengths, .ref o_distances, .ref o_heads, .ref o_earlier, .ref o_often, .ref o_symbolLengths, .ref o_distanceLengths, .ref o_lengthLengths, .ref o_symbolCodes, .ref o_distanceCodes, .ref o_lengthCodes, .ref o_counts, .ref o_parents, .ref o_alone, .ref o_row, .int o_told, .ref o_toldSymbols, .ref o_toldNumbers, .int o_place, .int o_fail, .int o_found, .int o_symbolCount, .int o_distanceCount, .int o_lengthCount])), (o_row, .inl (o_row_c, o_row_n, .inl o_row_v)), (o_toldSymbols, .inl (o_toldSymbols_c, o_toldSymbols_n, .inl o_toldSymbols_v)), (o_toldNumbers, .inl (o_toldNumbers_c, o_toldNumbers_n, .inl o_toldNumbers_v))] → va_S A s.heap H locs → lv_has ls 6 [(0, .ref o), (1, .int x1), (2, .int x2), (3, .int x3)] → pX11_tellRow_b14 o_row_n o_toldSymbols_n o_toldNumbers_n o_row_v x1 K7 n o_told o_toldSymbols_v o_toldNumbers_v x2 x3 = some u → W p l e ({ frames := 1, cells := 0, slots := 0, locals := 22 }) s m args below meth c H locs 0 0 Q (F0 m 14 ls []) := by
    intro K7 hK7 n
    induction n with
    | zero => intro o_told o_toldSymbols_v o_toldNumbers_v x2 x3 H locs ls hP hD hS hl h; cases h
    | succ n ih =>
      intro o_told o_toldSymbols_v o_toldNumbers_v x2 x3 H locs ls hP hD hS hl h
      rw [pX11_tellRow_b14] at h
      refine lv_iload_n hx hb dX11_tellRow_14 rfl (lv_at hl 2 rfl) ?_
      refine lv_iload_n hx hb dX11_tellRow_15 rfl (lv_at hl 3 rfl) ?_
      refine lv_iadd hx hb dX11_tellRow_16 ?_
      refine lv_iload_n hx hb dX11_tellRow_17 rfl (lv_at hl 1 rfl) ?_
      refine lv_icmp_ge (tgt := 44) hx hb dX11_tellRow_18 (by decide) (fun c17 => ?_) (fun c17 => ?_)
      · replace h := fb_t c17 h
        exact wB44 K7 hK7 o_told o_toldSymbols_v o_toldNumbers_v x2 x3 _ _ _ hP hD hS (lv_sub hl [0, 1, 2, 3] rfl) h
      · replace h := fb_f c17 h
        refine lv_aload_n hx hb dX11_tellRow_21 rfl (lv_at hl 0 rfl) ?_
        refine va_get (D := (dC, dI)) (ci := 11) (v := .ref o_row) (C := RX11) (T := TX11) (N := 38) hx hb hts i_X11 hown hK hP 0 rfl rfl 28 (by decide) (hts _ k_865) (fun _ h9 => h9) rfl dX11_tellRow_22 ?_
        refine lv_iload_n hx hb dX11_tellRow_25 rfl (lv_at hl 2 rfl) ?_
        refine lv_iload_n hx hb dX11_tellRow_26 rfl (lv_at hl 3 rfl) ?_
        refine lv_iadd hx hb dX11_tellRow_27 ?_
        obtain ⟨g18, h⟩ := fb_g h
        refine va_iald hx hb hK hP 1 0 rfl rfl g18 dX11_tellRow_28 ?_
        refine lv_aload_n hx hb dX11_tellRow_29 rfl (lv_at hl 0 rfl) ?_
        refine va_get (D := (dC, dI)) (ci := 11) (v := .ref o_row) (C := RX11) (T := TX11) (N := 38) hx hb hts i_X11 hown hK hP 0 rfl rfl 28 (by decide) (hts _ k_865) (fun _ h9 => h9) rfl dX11_tellRow_30 ?_
        refine lv_iload_n hx hb dX11_tellRow_33 rfl (lv_at hl 2 rfl) ?_
        obtain ⟨g19, h⟩ := fb_g h
        refine va_iald hx hb hK hP 1 0 rfl rfl g19 dX11_tellRow_34 ?_
        refine lv_icmp_ne (tgt := 44) hx hb dX11_tellRow_35 (by decide) (fun c20 => ?_) (fun c20 => ?_)
        · replace h := fb_f c20 h
          exact wB44 K7 hK7 o_told o_toldSymbols_v o_toldNumbers_v x2 x3 _ _ _ hP hD hS (lv_sub hl [0, 1, 2, 3] rfl) h
        · replace h := fb_t c20 h
          refine lv_iinc (v := (x3 + (1 : Int32))) (lv' := [(3, .int (x3 + (1 : Int32))), (0, .ref o), (1, .int x1), (2, .int x2)]) hx hb dX11_tellRow_38 hl (k := 3) rfl rfl (by decide) rfl (fun ls hl => ?_)
          refine lv_goto (tgt := 14) hx hb dX11_tellRow_41 (by decide) ?_
          exact ih o_told o_toldSymbols_v o_toldNumbers_v x2 (x3 + (1 : Int32)) _ _ _ hP hD hS (lv_sub hl [1, 2, 3, 0] rfl) h
  have wB7 : ∀ n : Nat, ∀ (o_told : Int32) (o_toldSymbols_v : Nat → Int32) (o_toldNumbers_v : Nat → Int32) (x2 : Int32) (H : Heap) (locs : List Loc) (ls : Array Slot), va_P (dC, dI) fb_cl [(o, .inr (11, [.int o_textRoom, .int o_byteRoom, .int o_chain, .ref o_text, .int o_textSize, .ref o_packed, .int o_packedSize, .int o_matches, .ref o_loaded, .int o_loadedSize, .ref o_out, .int o_outSize, .int o_bits, .int o_tokens, .ref o_lengths, .ref o_distances, .ref o_heads, .ref o_earlier, .ref o_often, .ref o_symbolLengths, .ref o_distanceLengths, .ref o_lengthLengths, .ref o_symbolCodes, .ref o_distanceCodes, .ref o_lengthCodes, .ref o_counts, .ref o_parents, .ref o_alone, .ref o_row, .int o_told, .ref o_toldSymbols, .ref o_toldNumbers, .int o_place, .int o_fail, .int o_found, .int o_symbolCount, .int o_distanceCount, .int o_lengthCount])), (o_row, .inl (o_row_c, o_row_n, .inl o_row_v)), (o_toldSymbols, .inl (o_toldSymbols_c, o_toldSymbols_n, .inl o_toldSymbols_v)), (o_toldNumbers, .inl (o_toldNumbers_c, o_toldNumbers_n, .inl o_toldNumbers_v))] H → va_D A [(o, .inr (11, [.int o_textRoom, .int o_byteRoom, .int o_chain, .ref o_text, .int o_textSize, .ref o_packed, .int o_packedSize, .int o_matches, .ref o_loaded, .int o_loadedSize, .ref o_out, .int o_outSize, .int o_bits, .int o_tokens, .ref o_lengths, .ref o_distances, .ref o_heads, .ref o_earlier, .ref o_often, .ref o_symbolLengths, .ref o_distanceLengths, .ref o_lengthLengths, .ref o_symbolCodes, .ref o_distanceCodes, .ref o_lengthCodes, .ref o_counts, .ref o_parents, .ref o_alone, .ref o_row, .int o_told, .ref o_toldSymbols, .ref o_toldNumbers, .int o_place, .int o_fail, .int o_found, .int o_symbolCount, .int o_distanceCount, .int o_lengthCount])), (o_row, .inl (o_row_c, o_row_n, .inl o_row_v)), (o_toldSymbols, .inl (o_toldSymbols_c, o_toldSymbols_n, .inl o_toldSymbols_v)), (o_toldNumbers, .inl (o_toldNumbers_c, o_toldNumbers_n, .inl o_toldNumbers_v))] → va_S A s.heap H locs → lv_has ls 6 [(0, .ref o), (1, .int x1), (2, .int x2)] → pX11_tellRow_b7 o_row_n o_toldSymbols_n o_toldNumbers_n o_row_v x1 n o_told o_toldSymbols_v o_toldNumbers_v x2 = some u → W p l e ({ frames := 1, cells := 0, slots := 0, locals := 22 }) s m args below meth c H locs 0 0 Q (F0 m 7 ls []) := by
    intro n
    induction n with
    | zero => intro o_told o_toldSymbols_v o_toldNumbers_v x2 H locs ls hP hD hS hl h; cases h
    | succ n ih =>
      intro o_told o_toldSymbols_v o_toldNumbers_v x2 H locs ls hP hD hS hl h
      rw [pX11_tellRow_b7] at h
      refine lv_iload_n hx hb dX11_tellRow_7 rfl (lv_at hl 2 rfl) ?_
      refine lv_iload_n hx hb dX11_tellRow_8 rfl (lv_at hl 1 rfl) ?_
      refine lv_icmp_ge (tgt := 186) hx hb dX11_tellRow_9 (by decide) (fun c21 => ?_) (fun c21 => ?_)
      · replace h := fb_t c21 h
        have hu := Option.some.inj h
        exact hret _ _ _ _ dX11_tellRow_186 (by rw [← hu]; exact hP) (by rw [← hu]; exact hD) hS
      · replace h := fb_f c21 h
        refine lv_iconst (v := (1 : Int32)) hx hb dX11_tellRow_12 (by decide) ?_
        refine lv_istore_n (lv' := [(3, .int (1 : Int32)), (0, .ref o), (1, .int x1), (2, .int x2)]) hx hb dX11_tellRow_13 rfl hl (by decide) rfl (fun ls hl => ?_)
        exact wB14 (pX11_tellRow_b7 o_row_n o_toldSymbols_n o_toldNumbers_n o_row_v x1 n) ih fb_F o_told o_toldSymbols_v o_toldNumbers_v x2 (1 : Int32) _ _ _ hP hD hS (lv_sub hl [1, 2, 3, 0] rfl) h
  unfold pX11_tellRow at h
  refine lv_aload_n hx hb dX11_tellRow_0 rfl (lv_at hl 0 rfl) ?_
  refine lv_iconst (v := (0 : Int32)) hx hb dX11_tellRow_1 (by decide) ?_
  refine va_put (D := (dC, dI)) (ci := 11) (v := .int (0 : Int32)) (ty := .int) (C := RX11) (T := TX11) (N := 38) hx hb hts i_X11 tyX11 tyX11_ok nmX11 hown hK hP hD hS 0 rfl rfl 29 (by decide) (hts _ k_866) (fun _ h9 => h9) rfl (by decide +kernel) rfl rfl (Nat.le_of_ble_eq_true rfl) dX11_tellRow_2 (fun H locs hP hD hS => ?_)
  replace hP : va_P (dC, dI) fb_cl [(o, .inr (11, [.int o_textRoom, .int o_byteRoom, .int o_chain, .ref o_text, .int o_textSize, .ref o_packed, .int o_packedSize, .int o_matches, .ref o_loaded, .int o_loadedSize, .ref o_out, .int o_outSize, .int o_bits, .int o_tokens, .ref o_lengths, .ref o_distances, .ref o_heads, .ref o_earlier, .ref o_often, .ref o_symbolLengths, .ref o_distanceLengths, .ref o_lengthLengths, .ref o_symbolCodes, .ref o_distanceCodes, .ref o_lengthCodes, .ref o_counts, .ref o_parents, .ref o_alone, .ref o_row, .int (0 : Int32), .ref o_toldSymbols, .ref o_toldNumbers, .int o_place, .int o_fail, .int o_found, .int o_symbolCount, .int o_distanceCount, .int o_lengthCount])), (o_row, .inl (o_row_c, o_row_n, .inl o_row_v)), (o_toldSymbols, .inl (o_toldSymbols_c, o_toldSymbols_n, .inl o_toldSymbols_v)), (o_toldNumbers, .inl (o_toldNumbers_c, o_toldNumbers_n, .inl o_toldNumbers_v))] H := hP
  replace hD : va_D A [(o, .inr (11, [.int o_textRoom, .int o_byteRoom, .int o_chain, .ref o_text, .int o_textSize, .ref o_packed, .int o_packedSize, .int o_matches, .ref o_loaded, .int o_loadedSize, .ref o_out, .int o_outSize, .int o_bits, .int o_tokens, .ref o_lengths, .ref o_distances, .ref o_heads, .ref o_earlier, .ref o_often, .ref o_symbolLengths, .ref o_distanceLengths, .ref o_lengthLengths, .ref o_symbolCodes, .ref o_distanceCodes, .ref o_lengthCodes, .ref o_counts, .ref o_parents, .ref o_alone, .ref o_row, .int (0 : Int32), .ref o_toldSymbols, .ref o_toldNumbers, .int o_place, .int o_fail, .int o_found, .int o_symbolCount, .int o_distanceCount, .int o_lengthCount])), (o_row, .inl (o_row_c, o_row_n, .inl o_row_v)), (o_toldSymbols, .inl (o_toldSymbols_c, o_toldSymbols_n, .inl o_toldSymbols_v)), (o_toldNumbers, .inl (o_toldNumbers_c, o_toldNumbers_n, .inl o_toldNumbers_v))] := hD
  refine lv_iconst (v := (0 : Int32)) hx hb dX11_tellRow_5 (by decide) ?_
  refine lv_istore_n (lv' := [(2, .int (0 : Int32)), (0, .ref o), (1, .int x1)]) hx hb dX11_tellRow_6 rfl hl (by decide) rfl (fun ls hl => ?_)
  exact wB7 fb_F (0 : Int32) o_toldSymbols_v o_toldNumbers_v (0 : Int32) _ _ _ hP hD hS (lv_sub hl [1, 2, 0] rfl) h
theorem dX11_numberBits_0 : decode cX11_numberBits 0 = .ok (.iload_n 0, 1) := by decide +kernel
theorem dX11_numberBits_1 : decode cX11_numberBits 1 = .ok (.bipush 16, 2) := by decide +kernel
theorem dX11_numberBits_3 : decode cX11_numberBits 3 = .ok (.if_icmp .ne 7, 3) := by decide +kernel
theorem dX11_numberBits_6 : decode cX11_numberBits 6 = .ok (.iconst 2, 1) := by decide +kernel
theorem dX11_numberBits_7 : decode cX11_numberBits 7 = .ok (.goto 25, 3) := by decide +kernel
theorem dX11_numberBits_10 : decode cX11_numberBits 10 = .ok (.iload_n 0, 1) := by decide +kernel
theorem dX11_numberBits_11 : decode cX11_numberBits 11 = .ok (.bipush 17, 2) := by decide +kernel
theorem dX11_numberBits_13 : decode cX11_numberBits 13 = .ok (.if_icmp .ne 7, 3) := by decide +kernel
theorem dX11_numberBits_16 : decode cX11_numberBits 16 = .ok (.iconst 3, 1) := by decide +kernel
theorem dX11_numberBits_17 : decode cX11_numberBits 17 = .ok (.goto 15, 3) := by decide +kernel
theorem dX11_numberBits_20 : decode cX11_numberBits 20 = .ok (.iload_n 0, 1) := by decide +kernel
theorem dX11_numberBits_21 : decode cX11_numberBits 21 = .ok (.bipush 18, 2) := by decide +kernel
theorem dX11_numberBits_23 : decode cX11_numberBits 23 = .ok (.if_icmp .ne 8, 3) := by decide +kernel
theorem dX11_numberBits_26 : decode cX11_numberBits 26 = .ok (.bipush 7, 2) := by decide +kernel
theorem dX11_numberBits_28 : decode cX11_numberBits 28 = .ok (.goto 4, 3) := by decide +kernel
theorem dX11_numberBits_31 : decode cX11_numberBits 31 = .ok (.iconst 0, 1) := by decide +kernel
theorem dX11_numberBits_32 : decode cX11_numberBits 32 = .ok (.ireturn, 1) := by decide +kernel
def pX11_numberBits (x0 : Int32)   : Option (Int32) :=
  if x0 = (16 : Int32) then
  (some ((2 : Int32)))
  else
  (if x0 = (17 : Int32) then
  (some ((3 : Int32)))
  else
  (if x0 = (18 : Int32) then
  (some ((7 : Int32)))
  else
  (some ((0 : Int32)))))
theorem hdX11_numberBits : yX11_numberBits.cls ≠ "java/lang/invoke/MethodHandle" ∧ yX11_numberBits.cls ≠ "java/lang/invoke/VarHandle" ∧ (parseMethodDescriptor yX11_numberBits.desc).map (fun d => d.parameters.length) = some 1 := by decide +kernel
set_option maxHeartbeats 8000000 in
set_option maxRecDepth 100000 in
theorem mX11_numberBits (l : Launch) (dC : Nat → ClassId) (dI : Nat → Nat → Nat)     (x0 : Int32) (sz : Nat) (u : Int32) (h : pX11_numberBits x0 = some u) : Met l yX11_numberBits (Cond.code yX11_numberBits cX11_numberBits 1 (some .int) :: fb_tb) ({ frames := 0, cells := 0, slots := 0, locals := 0 }) (fb_Pc (dC, dI) [.int x0] sz [] []) (fb_Qi (dC, dI) u [] (va_A [] sz)) 0 0 (va_A [] sz) := by
  refine fb_meti (ty := .int) (by decide) (Nat.le_of_ble_eq_true rfl) (fun p e s m args below meth c A Q ls H hx hb hml hown hts hP hK hN hZ hD hA hS hret hl => ?_)
  replace hl : lv_has ls 1 [(0, .int x0)] := hl
  unfold pX11_numberBits at h
  refine lv_iload_n hx hb dX11_numberBits_0 rfl (lv_at hl 0 rfl) ?_
  refine lv_bipush (v := (16 : Int32)) hx hb dX11_numberBits_1 (by decide) ?_
  refine lv_icmp_ne (tgt := 10) hx hb dX11_numberBits_3 (by decide) (fun c1 => ?_) (fun c1 => ?_)
  · replace h := fb_f c1 h
    refine lv_iload_n hx hb dX11_numberBits_10 rfl (lv_at hl 0 rfl) ?_
    refine lv_bipush (v := (17 : Int32)) hx hb dX11_numberBits_11 (by decide) ?_
    refine lv_icmp_ne (tgt := 20) hx hb dX11_numberBits_13 (by decide) (fun c2 => ?_) (fun c2 => ?_)
    · replace h := fb_f c2 h
      refine lv_iload_n hx hb dX11_numberBits_20 rfl (lv_at hl 0 rfl) ?_
      refine lv_bipush (v := (18 : Int32)) hx hb dX11_numberBits_21 (by decide) ?_
      refine lv_icmp_ne (tgt := 31) hx hb dX11_numberBits_23 (by decide) (fun c3 => ?_) (fun c3 => ?_)
      · replace h := fb_f c3 h
        refine lv_iconst (v := (0 : Int32)) hx hb dX11_numberBits_31 (by decide) ?_
        have hu := Option.some.inj h
        exact hret _ _ _ _ _ dX11_numberBits_32 rfl (by rw [← hu]) hP hD hS
      · replace h := fb_t c3 h
        refine lv_bipush (v := (7 : Int32)) hx hb dX11_numberBits_26 (by decide) ?_
        refine lv_goto (tgt := 32) hx hb dX11_numberBits_28 (by decide) ?_
        have hu := Option.some.inj h
        exact hret _ _ _ _ _ dX11_numberBits_32 rfl (by rw [← hu]) hP hD hS
    · replace h := fb_t c2 h
      refine lv_iconst (v := (3 : Int32)) hx hb dX11_numberBits_16 (by decide) ?_
      refine lv_goto (tgt := 32) hx hb dX11_numberBits_17 (by decide) ?_
      have hu := Option.some.inj h
      exact hret _ _ _ _ _ dX11_numberBits_32 rfl (by rw [← hu]) hP hD hS
  · replace h := fb_t c1 h
    refine lv_iconst (v := (2 : Int32)) hx hb dX11_numberBits_6 (by decide) ?_
    refine lv_goto (tgt := 32) hx hb dX11_numberBits_7 (by decide) ?_
    have hu := Option.some.inj h
    exact hret _ _ _ _ _ dX11_numberBits_32 rfl (by rw [← hu]) hP hD hS
