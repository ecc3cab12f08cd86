theorem dX11_fixedCodes_0 : decode cX11_fixedCodes 0 = .ok (.iconst 0, 1) := by decide +kernel
theorem dX11_fixedCodes_1 : decode cX11_fixedCodes 1 = .ok (.istore_n 1, 1) := by decide +kernel
theorem dX11_fixedCodes_2 : decode cX11_fixedCodes 2 = .ok (.iload_n 1, 1) := by decide +kernel
theorem dX11_fixedCodes_3 : decode cX11_fixedCodes 3 = .ok (.sipush 288, 3) := by decide +kernel
theorem dX11_fixedCodes_6 : decode cX11_fixedCodes 6 = .ok (.if_icmp .ge 70, 3) := by decide +kernel
theorem dX11_fixedCodes_9 : decode cX11_fixedCodes 9 = .ok (.aload_n 0, 1) := by decide +kernel
theorem dX11_fixedCodes_10 : decode cX11_fixedCodes 10 = .ok (.getfield 39, 3) := by decide +kernel
theorem dX11_fixedCodes_13 : decode cX11_fixedCodes 13 = .ok (.iload_n 1, 1) := by decide +kernel
theorem dX11_fixedCodes_14 : decode cX11_fixedCodes 14 = .ok (.iload_n 1, 1) := by decide +kernel
theorem dX11_fixedCodes_15 : decode cX11_fixedCodes 15 = .ok (.sipush 144, 3) := by decide +kernel
theorem dX11_fixedCodes_18 : decode cX11_fixedCodes 18 = .ok (.if_icmp .ge 8, 3) := by decide +kernel
theorem dX11_fixedCodes_21 : decode cX11_fixedCodes 21 = .ok (.bipush 8, 2) := by decide +kernel
theorem dX11_fixedCodes_23 : decode cX11_fixedCodes 23 = .ok (.goto 29, 3) := by decide +kernel
theorem dX11_fixedCodes_26 : decode cX11_fixedCodes 26 = .ok (.iload_n 1, 1) := by decide +kernel
theorem dX11_fixedCodes_27 : decode cX11_fixedCodes 27 = .ok (.sipush 256, 3) := by decide +kernel
theorem dX11_fixedCodes_30 : decode cX11_fixedCodes 30 = .ok (.if_icmp .ge 8, 3) := by decide +kernel
theorem dX11_fixedCodes_33 : decode cX11_fixedCodes 33 = .ok (.bipush 9, 2) := by decide +kernel
theorem dX11_fixedCodes_35 : decode cX11_fixedCodes 35 = .ok (.goto 17, 3) := by decide +kernel
theorem dX11_fixedCodes_38 : decode cX11_fixedCodes 38 = .ok (.iload_n 1, 1) := by decide +kernel
theorem dX11_fixedCodes_39 : decode cX11_fixedCodes 39 = .ok (.sipush 280, 3) := by decide +kernel
theorem dX11_fixedCodes_42 : decode cX11_fixedCodes 42 = .ok (.if_icmp .ge 8, 3) := by decide +kernel
theorem dX11_fixedCodes_45 : decode cX11_fixedCodes 45 = .ok (.bipush 7, 2) := by decide +kernel
theorem dX11_fixedCodes_47 : decode cX11_fixedCodes 47 = .ok (.goto 5, 3) := by decide +kernel
theorem dX11_fixedCodes_50 : decode cX11_fixedCodes 50 = .ok (.bipush 8, 2) := by decide +kernel
theorem dX11_fixedCodes_52 : decode cX11_fixedCodes 52 = .ok (.iastore, 1) := by decide +kernel
theorem dX11_fixedCodes_53 : decode cX11_fixedCodes 53 = .ok (.aload_n 0, 1) := by decide +kernel
theorem dX11_fixedCodes_54 : decode cX11_fixedCodes 54 = .ok (.getfield 42, 3) := by decide +kernel
theorem dX11_fixedCodes_57 : decode cX11_fixedCodes 57 = .ok (.iload_n 1, 1) := by decide +kernel
theorem dX11_fixedCodes_58 : decode cX11_fixedCodes 58 = .ok (.iload_n 1, 1) := by decide +kernel
theorem dX11_fixedCodes_59 : decode cX11_fixedCodes 59 = .ok (.bipush 32, 2) := by decide +kernel
theorem dX11_fixedCodes_61 : decode cX11_fixedCodes 61 = .ok (.if_icmp .ge 7, 3) := by decide +kernel
theorem dX11_fixedCodes_64 : decode cX11_fixedCodes 64 = .ok (.iconst 5, 1) := by decide +kernel
theorem dX11_fixedCodes_65 : decode cX11_fixedCodes 65 = .ok (.goto 4, 3) := by decide +kernel
theorem dX11_fixedCodes_68 : decode cX11_fixedCodes 68 = .ok (.iconst 0, 1) := by decide +kernel
theorem dX11_fixedCodes_69 : decode cX11_fixedCodes 69 = .ok (.iastore, 1) := by decide +kernel
theorem dX11_fixedCodes_70 : decode cX11_fixedCodes 70 = .ok (.iinc 1 1, 3) := by decide +kernel
theorem dX11_fixedCodes_73 : decode cX11_fixedCodes 73 = .ok (.goto (-71), 3) := by decide +kernel
theorem dX11_fixedCodes_76 : decode cX11_fixedCodes 76 = .ok (.return_, 1) := by decide +kernel
def pX11_fixedCodes_b69 (o_symbolLengths_n : Nat) (o_distanceLengths_n : Nat)  (o_symbolLengths_v : Nat → Int32) (o_distanceLengths_v : Nat → Int32) (x1 : Int32) (t0 : Int32) (t1 : Int32) : Option ((Nat → Int32) × (Nat → Int32)) :=
  if t1 < 0 ∨ o_distanceLengths_n ≤ (t1).toNatClampNeg then none else
  K2 o_symbolLengths_v (upd o_distanceLengths_v (t1).toNatClampNeg t0) (x1 + (1 : Int32))
def pX11_fixedCodes_b52 (o_symbolLengths_n : Nat) (o_distanceLengths_n : Nat)  (o_symbolLengths_v : Nat → Int32) (o_distanceLengths_v : Nat → Int32) (x1 : Int32) (t0 : Int32) (t1 : Int32) : Option ((Nat → Int32) × (Nat → Int32)) :=
  if t1 < 0 ∨ o_symbolLengths_n ≤ (t1).toNatClampNeg then none else
  if (32 : Int32) ≤ x1 then
  (pX11_fixedCodes_b69 o_symbolLengths_n o_distanceLengths_n (upd o_symbolLengths_v (t1).toNatClampNeg t0) o_distanceLengths_v x1 (0 : Int32) x1)
  else
  (pX11_fixedCodes_b69 o_symbolLengths_n o_distanceLengths_n (upd o_symbolLengths_v (t1).toNatClampNeg t0) o_distanceLengths_v x1 (5 : Int32) x1)
def pX11_fixedCodes_b2 (o_symbolLengths_n : Nat) (o_distanceLengths_n : Nat)  : Nat → (Nat → Int32) → (Nat → Int32) → Int32 → Option ((Nat → Int32) × (Nat → Int32))
  | 0 => fun _ _ _ => none
  | n + 1 => fun o_symbolLengths_v o_distanceLengths_v x1 =>
  if (288 : Int32) ≤ x1 then
  (some (o_symbolLengths_v, o_distanceLengths_v))
  else
  (if (144 : Int32) ≤ x1 then
  (if (256 : Int32) ≤ x1 then
  (if (280 : Int32) ≤ x1 then
  (pX11_fixedCodes_b52 o_symbolLengths_n o_distanceLengths_n o_symbolLengths_v o_distanceLengths_v x1 (8 : Int32) x1)
  else
  (pX11_fixedCodes_b52 o_symbolLengths_n o_distanceLengths_n o_symbolLengths_v o_distanceLengths_v x1 (7 : Int32) x1))
  else
  (pX11_fixedCodes_b52 o_symbolLengths_n o_distanceLengths_n o_symbolLengths_v o_distanceLengths_v x1 (9 : Int32) x1))
  else
  (pX11_fixedCodes_b52 o_symbolLengths_n o_distanceLengths_n o_symbolLengths_v o_distanceLengths_v x1 (8 : Int32) x1))
def pX11_fixedCodes (o_symbolLengths_n : Nat) (o_distanceLengths_n : Nat)  (o_symbolLengths_v : Nat → Int32) (o_distanceLengths_v : Nat → Int32) : Option ((Nat → Int32) × (Nat → Int32)) :=
  pX11_fixedCodes_b2 o_symbolLengths_n o_distanceLengths_n fb_F o_symbolLengths_v o_distanceLengths_v (0 : Int32)
theorem hdX11_fixedCodes : yX11_fixedCodes.cls = RX11 ∧ yX11_fixedCodes.cls ≠ "java/lang/invoke/MethodHandle" ∧ yX11_fixedCodes.cls ≠ "java/lang/invoke/VarHandle" ∧ (parseMethodDescriptor yX11_fixedCodes.desc).map (fun d => d.parameters.length) = some 0 := by decide +kernel
set_option maxHeartbeats 8000000 in
set_option maxRecDepth 100000 in
theorem mX11_fixedCodes (l : Launch) (dC : Nat → ClassId) (dI : Nat → Nat → Nat) (o : Nat) (o_symbolLengths : Nat) (o_distanceLengths : Nat) (o_text : Nat) (o_packed : Nat) (o_loaded : Nat) (o_out : Nat) (o_lengths : Nat) (o_distances : Nat) (o_heads : Nat) (o_earlier : Nat) (o_often : Nat) (o_lengthLengths : Nat) (o_symbolCodes : Nat) (o_distanceCodes : Nat) (o_lengthCodes : Nat) (o_counts : Nat) (o_parents : Nat) (o_alone : Nat) (o_row : Nat) (o_toldSymbols : Nat) (o_toldNumbers : Nat) (o_symbolLengths_c : ClassId) (o_distanceLengths_c : ClassId) (o_symbolLengths_n : Nat) (o_distanceLengths_n : Nat) (o_textRoom : Int32) (o_byteRoom : Int32) (o_chain : Int32) (o_textSize : Int32) (o_packedSize : Int32) (o_matches : Int32) (o_loadedSize : Int32) (o_outSize : Int32) (o_bits : Int32) (o_tokens : Int32) (o_told : Int32) (o_place : Int32) (o_fail : Int32) (o_found : Int32) (o_symbolCount : Int32) (o_distanceCount : Int32) (o_lengthCount : Int32) (o_symbolLengths_v : Nat → Int32) (o_distanceLengths_v : Nat → Int32)  (sz : Nat) (u : (Nat → Int32) × (Nat → Int32)) (h : pX11_fixedCodes o_symbolLengths_n o_distanceLengths_n o_symbolLengths_v o_distanceLengths_v = some u) : Met l yX11_fixedCodes (Cond.code yX11_fixedCodes cX11_fixedCodes 2 none :: fb_tb) ({ frames := 0, cells := 0, slots := 0, locals := 0 }) (fb_Pc (dC, dI) [.ref o] sz [(o_symbolLengths_c, .int), (o_distanceLengths_c, .int)] [(o, .inr (11, [.int o_textRoom, .int o_byteRoom, .int o_chain, .ref o_text, .int o_textSize, .ref o_packed, .int o_packedSize, .int o_matches, .ref o_loaded, .int o_loadedSize, .ref o_out, .int o_outSize, .int o_bits, .int o_tokens, .ref o_lengths, .ref o_distances, .ref o_heads, .ref o_earlier, .ref o_often, .ref o_symbolLengths, .ref o_distanceLengths, .ref o_lengthLengths, .ref o_symbolCodes, .ref o_distanceCodes, .ref o_lengthCodes, .ref o_counts, .ref o_parents, .ref o_alone, .ref o_row, .int o_told, .ref o_toldSymbols, .ref o_toldNumbers, .int o_place, .int o_fail, .int o_found, .int o_symbolCount, .int o_distanceCount, .int o_lengthCount])), (o_symbolLengths, .inl (o_symbolLengths_c, o_symbolLengths_n, .inl o_symbolLengths_v)), (o_distanceLengths, .inl (o_distanceLengths_c, o_distanceLengths_n, .inl o_distanceLengths_v))]) (fb_Qv (dC, dI) [(o, .inr (11, [.int o_textRoom, .int o_byteRoom, .int o_chain, .ref o_text, .int o_textSize, .ref o_packed, .int o_packedSize, .int o_matches, .ref o_loaded, .int o_loadedSize, .ref o_out, .int o_outSize, .int o_bits, .int o_tokens, .ref o_lengths, .ref o_distances, .ref o_heads, .ref o_earlier, .ref o_often, .ref o_symbolLengths, .ref o_distanceLengths, .ref o_lengthLengths, .ref o_symbolCodes, .ref o_distanceCodes, .ref o_lengthCodes, .ref o_counts, .ref o_parents, .ref o_alone, .ref o_row, .int o_told, .ref o_toldSymbols, .ref o_toldNumbers, .int o_place, .int o_fail, .int o_found, .int o_symbolCount, .int o_distanceCount, .int o_lengthCount])), (o_symbolLengths, .inl (o_symbolLengths_c, o_symbolLengths_n, .inl u.1)), (o_distanceLengths, .inl (o_distanceLengths_c, o_distanceLengths_n, .inl u.2))] (va_A [(o, .inr (11, [.int o_textRoom, .int o_byteRoom, .int o_chain, .ref o_text, .int o_textSize, .ref o_packed, .int o_packedSize, .int o_matches, .ref o_loaded, .int o_loadedSize, .ref o_out, .int o_outSize, .int o_bits, .int o_tokens, .ref o_lengths, .ref o_distances, .ref o_heads, .ref o_earlier, .ref o_often, .ref o_symbolLengths, .ref o_distanceLengths, .ref o_lengthLengths, .ref o_symbolCodes, .ref o_distanceCodes, .ref o_lengthCodes, .ref o_counts, .ref o_parents, .ref o_alone, .ref o_row, .int o_told, .ref o_toldSymbols, .ref o_toldNumbers, .int o_place, .int o_fail, .int o_found, .int o_symbolCount, .int o_distanceCount, .int o_lengthCount])), (o_symbolLengths, .inl (o_symbolLengths_c, o_symbolLengths_n, .inl o_symbolLengths_v)), (o_distanceLengths, .inl (o_distanceLengths_c, o_distanceLengths_n, .inl o_distanceLengths_v))] sz)) 0 0 (va_A [(o, .inr (11, [.int o_textRoom, .int o_byteRoom, .int o_chain, .ref o_text, .int o_textSize, .ref o_packed, .int o_packedSize, .int o_matches, .ref o_loaded, .int o_loadedSize, .ref o_out, .int o_outSize, .int o_bits, .int o_tokens, .ref o_lengths, .ref o_distances, .ref o_heads, .ref o_earlier, .ref o_often, .ref o_symbolLengths, .ref o_distanceLengths, .ref o_lengthLengths, .ref o_symbolCodes, .ref o_distanceCodes, .ref o_lengthCodes, .ref o_counts, .ref o_parents, .ref o_alone, .ref o_row, .int o_told, .ref o_toldSymbols, .ref o_toldNumbers, .int o_place, .int o_fail, .int o_found, .int o_symbolCount, .int o_distanceCount, .int o_lengthCount])), (o_symbolLengths, .inl (o_symbolLengths_c, o_symbolLengths_n, .inl o_symbolLengths_v)), (o_distanceLengths, .inl (o_distanceLengths_c, o_distanceLengths_n, .inl o_distanceLengths_v))] sz) := by
  refine fb_metv (by decide) (Nat.le_of_ble_eq_true rfl) (fun p e s m args below meth c A Q ls hx hb hml hown hts hP hK hN hZ hD hA hS hret hl => ?_)
  replace hl : lv_has ls 2 [(0, .ref o)] := hl
  have wB69 : ∀ (o_symbolLengths_v : Nat → Int32) (o_distanceLengths_v : Nat → Int32) (x1 : Int32) (t0 : Int32) (t1 : Int32) (H : Heap) (locs : List Loc) (ls : Array Slot), va_P (dC, dI) fb_cl [(o, .inr (11, [.int o_textRoom, .int o_byteRoom, .int o_chain, .ref o_text, .int o_textSize, .ref o_packed, .int o_packedSize, .int o_matches, .ref o_loaded, .int o_loadedSize, .ref o_out, .int o_outSize, .int o_bits, .int o_tokens, .ref o_lengths, .ref o_distances, .ref o_heads, .ref o_earlier, .ref o_often, .ref o_symbolLengths, .ref o_distanceLengths, .ref o_lengthLengths, .ref o_symbolCodes, .ref o_distanceCodes, .ref o_lengthCodes, .ref o_counts, .ref o_parents, .ref o_alone, .ref o_row, .int o_told, .ref o_toldSymbols, .ref o_toldNumbers, .int o_place, .int o_fail, .int o_found, .int o_symbolCount, .int o_distanceCount, .int o_lengthCount])), (o_symbolLengths, .inl (o_symbolLengths_c, o_symbolLengths_n, .inl o_symbolLengths_v)), (o_distanceLengths, .inl (o_distanceLengths_c, o_distanceLengths_n, .inl o_distanceLengths_v))] H → va_D A [(o, .inr (11, [.int o_textRoom, .int o_byteRoom, .int o_chain, .ref o_text, .int o_textSize, .ref o_packed, .int o_packedSize, .int o_matches, .ref o_loaded, .int o_loadedSize, .ref o_out, .int o_outSize, .int o_bits, .int o_tokens, .ref o_lengths, .ref o_distances, .ref o_heads, .ref o_earlier, .ref o_often, .ref o_symbolLengths, .ref o_distanceLengths, .ref o_lengthLengths, .ref o_symbolCodes, .ref o_distanceCodes, .ref o_lengthCodes, .ref o_counts, .ref o_parents, .ref o_alone, .ref o_row, .int o_told, .ref o_toldSymbols, .ref o_toldNumbers, .int o_place, .int o_fail, .int o_found, .int o_symbolCount, .int o_distanceCount, .int o_lengthCount])), (o_symbolLengths, .inl (o_symbolLengths_c, o_symbolLengths_n, .inl o_symbolLengths_v)), (o_distanceLengths, .inl (o_distanceLengths_c, o_distanceLengths_n, .inl o_distanceLengths_v))] → va_S A s.heap H locs → lv_has ls 2 [(0, .ref o), (1, .int x1)] → pX11_fixedCodes_b69 o_symbolLengths_n o_distanceLengths_n o_symbolLengths_v o_distanceLengths_v x1 t0 t1 = some u → W p l e ({ frames := 0, cells := 0, slots := 0, locals := 0 }) s m args below meth c H locs 0 0 Q (F0 m 69 ls [.int t0, .int t1, .ref o_distanceLengths]) := by
    intro  o_symbolLengths_v o_distanceLengths_v x1 t0 t1 H locs ls hP hD hS hl h
    unfold pX11_fixedCodes_b69 at h
    obtain ⟨g1, h⟩ := fb_g h
    refine va_iast hx hb hK hP hD hS 2 1 rfl rfl g1 dX11_fixedCodes_69 (fun H locs hP hD hS => ?_)
    replace hP : va_P (dC, dI) fb_cl [(o, .inr (11, [.int o_textRoom, .int o_byteRoom, .int o_chain, .ref o_text, .int o_textSize, .ref o_packed, .int o_packedSize, .int o_matches, .ref o_loaded, .int o_loadedSize, .ref o_out, .int o_outSize, .int o_bits, .int o_tokens, .ref o_lengths, .ref o_distances, .ref o_heads, .ref o_earlier, .ref o_often, .ref o_symbolLengths, .ref o_distanceLengths, .ref o_lengthLengths, .ref o_symbolCodes, .ref o_distanceCodes, .ref o_lengthCodes, .ref o_counts, .ref o_parents, .ref o_alone, .ref o_row, .int o_told, .ref o_toldSymbols, .ref o_toldNumbers, .int o_place, .int o_fail, .int o_found, .int o_symbolCount, .int o_distanceCount, .int o_lengthCount])), (o_symbolLengths, .inl (o_symbolLengths_c, o_symbolLengths_n, .inl o_symbolLengths_v)), (o_distanceLengths, .inl (o_distanceLengths_c, o_distanceLengths_n, .inl (upd o_distanceLengths_v (t1).toNatClampNeg t0)))] H := hP
    replace hD : va_D A [(o, .inr (11, [.int o_textRoom, .int o_byteRoom, .int o_chain, .ref o_text, .int o_textSize, .ref o_packed, .int o_packedSize, .int o_matches, .ref o_loaded, .int o_loadedSize, .ref o_out, .int o_outSize, .int o_bits, .int o_tokens, .ref o_lengths, .ref o_distances, .ref o_heads, .ref o_earlier, .ref o_often, .ref o_symbolLengths, .ref o_distanceLengths, .ref o_lengthLengths, .ref o_symbolCodes, .ref o_distanceCodes, .ref o_lengthCodes, .ref o_counts, .ref o_parents, .ref o_alone, .ref o_row, .int o_told, .ref o_toldSymbols, .ref o_toldNumbers, .int o_place, .int o_fail, .int o_found, .int o_symbolCount, .int o_distanceCount, .int o_lengthCount])), (o_symbolLengths, .inl (o_symbolLengths_c, o_symbolLengths_n, .inl o_symbolLengths_v)), (o_distanceLengths, .inl (o_distanceLengths_c, o_distanceLengths_n, .inl (upd o_distanceLengths_v (t1).toNatClampNeg t0)))] := hD
    refine lv_iinc (v := (x1 + (1 : Int32))) (lv' := [(1, .int (x1 + (1 : Int32))), (0, .ref o)]) hx hb dX11_fixedCodes_70 hl (k := 1) rfl rfl (by decide) rfl (fun ls hl => ?_)
    refine lv_goto (tgt := 2) hx hb dX11_fixedCodes_73 (by decide) ?_
    exact hK2 o_symbolLengths_v (upd o_distanceLengths_v (t1).toNatClampNeg t0) (x1 + (1 : Int32)) _ _ _ hP hD hS (lv_sub hl [1, 0] rfl) h
  have wB52 : ∀ (o_symbolLengths_v : Nat → Int32) (o_distanceLengths_v : Nat → Int32) (x1 : Int32) (t0 : Int32) (t1 : Int32) (H : Heap) (locs : List Loc) (ls : Array Slot), va_P (dC, dI) fb_cl [(o, .inr (11, [.int o_textRoom, .int o_byteRoom, .int o_chain, .ref o_text, .int o_textSize, .ref o_packed, .int o_packedSize, .int o_matches, .ref o_loaded, .int o_loadedSize, .ref o_out, .int o_outSize, .int o_bits, .int o_tokens, .ref o_lengths, .ref o_distances, .ref o_heads, .ref o_earlier, .ref o_often, .ref o_symbolLengths, .ref o_distanceLengths, .ref o_lengthLengths, .ref o_symbolCodes, .ref o_distanceCodes, .ref o_lengthCodes, .ref o_counts, .ref o_parents, .ref o_alone, .ref o_row, .int o_told, .ref o_toldSymbols, .ref o_toldNumbers, .int o_place, .int o_fail, .int o_found, .int o_symbolCount, .int o_distanceCount, .int o_lengthCount])), (o_symbolLengths, .inl (o_symbolLengths_c, o_symbolLengths_n, .inl o_symbolLengths_v)), (o_distanceLengths, .inl (o_distanceLengths_c, o_distanceLengths_n, .inl o_distanceLengths_v))] H → va_D A [(o, .inr (11, [.int o_textRoom, .int o_byteRoom, .int o_chain, .ref o_text, .int o_textSize, .ref o_packed, .int o_packedSize, .int o_matches, .ref o_loaded, .int o_loadedSize, .ref o_out, .int o_outSize, .int o_bits, .int o_tokens, .ref o_lengths, .ref o_distances, .ref o_heads, .ref o_earlier, .ref o_often, .ref o_symbolLengths, .ref o_distanceLengths, .ref o_lengthLengths, .ref o_symbolCodes, .ref o_distanceCodes, .ref o_lengthCodes, .ref o_counts, .ref o_parents, .ref o_alone, .ref o_row, .int o_told, .ref o_toldSymbols, .ref o_toldNumbers, .int o_place, .int o_fail, .int o_found, .int o_symbolCount, .int o_distanceCount, .int o_lengthCount])), (o_symbolLengths, .inl (o_symbolLengths_c, o_symbolLengths_n, .inl o_symbolLengths_v)), (o_distanceLengths, .inl (o_distanceLengths_c, o_distanceLengths_n, .inl o_distanceLengths_v))] → va_S A s.heap H locs → lv_has ls 2 [(0, .ref o), (1, .int x1)] → pX11_fixedCodes_b52 o_symbolLengths_n o_distanceLengths_n o_symbolLengths_v o_distanceLengths_v x1 t0 t1 = some u → W p l e ({ frames := 0, cells := 0, slots := 0, locals := 0 }) s m args below meth c H locs 0 0 Q (F0 m 52 ls [.int t0, .int t1, .ref o_symbolLengths]) := by
    intro  o_symbolLengths_v o_distanceLengths_v x1 t0 t1 H locs ls hP hD hS hl h
    unfold pX11_fixedCodes_b52 at h
    obtain ⟨g2, h⟩ := fb_g h
    refine va_iast hx hb hK hP hD hS 1 0 rfl rfl g2 dX11_fixedCodes_52 (fun H locs hP hD hS => ?_)
    replace hP : va_P (dC, dI) fb_cl [(o, .inr (11, [.int o_textRoom, .int o_byteRoom, .int o_chain, .ref o_text, .int o_textSize, .ref o_packed, .int o_packedSize, .int o_matches, .ref o_loaded, .int o_loadedSize, .ref o_out, .int o_outSize, .int o_bits, .int o_tokens, .ref o_lengths, .ref o_distances, .ref o_heads, .ref o_earlier, .ref o_often, .ref o_symbolLengths, .ref o_distanceLengths, .ref o_lengthLengths, .ref o_symbolCodes, .ref o_distanceCodes, .ref o_lengthCodes, .ref o_counts, .ref o_parents, .ref o_alone, .ref o_row, .int o_told, .ref o_toldSymbols, .ref o_toldNumbers, .int o_place, .int o_fail, .int o_found, .int o_symbolCount, .int o_distanceCount, .int o_lengthCount])), (o_symbolLengths, .inl (o_symbolLengths_c, o_symbolLengths_n, .inl (upd o_symbolLengths_v (t1).toNatClampNeg t0))), (o_distanceLengths, .inl (o_distanceLengths_c, o_distanceLengths_n, .inl o_distanceLengths_v))] H := hP
    replace hD : va_D A [(o, .inr (11, [.int o_textRoom, .int o_byteRoom, .int o_chain, .ref o_text, .int o_textSize, .ref o_packed, .int o_packedSize, .int o_matches, .ref o_loaded, .int o_loadedSize, .ref o_out, .int o_outSize, .int o_bits, .int o_tokens, .ref o_lengths, .ref o_distances, .ref o_heads, .ref o_earlier, .ref o_often, .ref o_symbolLengths, .ref o_distanceLengths, .ref o_lengthLengths, .ref o_symbolCodes, .ref o_distanceCodes, .ref o_lengthCodes, .ref o_counts, .ref o_parents, .ref o_alone, .ref o_row, .int o_told, .ref o_toldSymbols, .ref o_toldNumbers, .int o_place, .int o_fail, .int o_found, .int o_symbolCount, .int o_distanceCount, .int o_lengthCount])), (o_symbolLengths, .inl (o_symbolLengths_c, o_symbolLengths_n, .inl (upd o_symbolLengths_v (t1).toNatClampNeg t0))), (o_distanceLengths, .inl (o_distanceLengths_c, o_distanceLengths_n, .inl o_distanceLengths_v))] := hD
    refine lv_aload_n hx hb dX11_fixedCodes_53 rfl (lv_at hl 0 rfl) ?_
    refine va_get (D := (dC, dI)) (ci := 11) (v := .ref o_distanceLengths) (C := RX11) (T := TX11) (N := 38) hx hb hts i_X11 hown hK hP 0 rfl rfl 20 (by decide) (hts _ k_862) (fun _ h9 => h9) rfl dX11_fixedCodes_54 ?_
    refine lv_iload_n hx hb dX11_fixedCodes_57 rfl (lv_at hl 1 rfl) ?_
    refine lv_iload_n hx hb dX11_fixedCodes_58 rfl (lv_at hl 1 rfl) ?_
    refine lv_bipush (v := (32 : Int32)) hx hb dX11_fixedCodes_59 (by decide) ?_
    refine lv_icmp_ge (tgt := 68) hx hb dX11_fixedCodes_61 (by decide) (fun c3 => ?_) (fun c3 => ?_)
    · replace h := fb_t c3 h
      refine lv_iconst (v := (0 : Int32)) hx hb dX11_fixedCodes_68 (by decide) ?_
      exact wB69 (upd o_symbolLengths_v (t1).toNatClampNeg t0) o_distanceLengths_v x1 (0 : Int32) x1 _ _ _ hP hD hS (lv_sub hl [0, 1] rfl) h
    · replace h := fb_f c3 h
      refine lv_iconst (v := (5 : Int32)) hx hb dX11_fixedCodes_64 (by decide) ?_
      refine lv_goto (tgt := 69) hx hb dX11_fixedCodes_65 (by decide) ?_
      exact wB69 (upd o_symbolLengths_v (t1).toNatClampNeg t0) o_distanceLengths_v x1 (5 : Int32) x1 _ _ _ hP hD hS (lv_sub hl [0, 1] rfl) h
  have wB2 : ∀ n : Nat, ∀ (o_symbolLengths_v : Nat → Int32) (o_distanceLengths_v : Nat → Int32) (x1 : Int32) (H : Heap) (locs : List Loc) (ls : Array Slot), va_P (dC, dI) fb_cl [(o, .inr (11, [.int o_textRoom, .int o_byteRoom, .int o_chain, .ref o_text, .int o_textSize, .ref o_packed, .int o_packedSize, .int o_matches, .ref o_loaded, .int o_loadedSize, .ref o_out, .int o_outSize, .int o_bits, .int o_tokens, .ref o_lengths, .ref o_distances, .ref o_heads, .ref o_earlier, .ref o_often, .ref o_symbolLengths, .ref o_distanceLengths, .ref o_lengthLengths, .ref o_symbolCodes, .ref o_distanceCodes, .ref o_lengthCodes, .ref o_counts, .ref o_parents, .ref o_alone, .ref o_row, .int o_told, .ref o_toldSymbols, .ref o_toldNumbers, .int o_place, .int o_fail, .int o_found, .int o_symbolCount, .int o_distanceCount, .int o_lengthCount])), (o_symbolLengths, .inl (o_symbolLengths_c, o_symbolLengths_n, .inl o_symbolLengths_v)), (o_distanceLengths, .inl (o_distanceLengths_c, o_distanceLengths_n, .inl o_distanceLengths_v))] H → va_D A [(o, .inr (11, [.int o_textRoom, .int o_byteRoom, .int o_chain, .ref o_text, .int o_textSize, .ref o_packed, .int o_packedSize, .int o_matches, .ref o_loaded, .int o_loadedSize, .ref o_out, .int o_outSize, .int o_bits, .int o_tokens, .ref o_lengths, .ref o_distances, .ref o_heads, .ref o_earlier, .ref o_often, .ref o_symbolLengths, .ref o_distanceLengths, .ref o_lengthLengths, .ref o_symbolCodes, .ref o_distanceCodes, .ref o_lengthCodes, .ref o_counts, .ref o_parents, .ref o_alone, .ref o_row, .int o_told, .ref o_toldSymbols, .ref o_toldNumbers, .int o_place, .int o_fail, .int o_found, .int o_symbolCount, .int o_distanceCount, .int o_lengthCount])), (o_symbolLengths, .inl (o_symbolLengths_c, o_symbolLengths_n, .inl o_symbolLengths_v)), (o_distanceLengths, .inl (o_distanceLengths_c, o_distanceLengths_n, .inl o_distanceLengths_v))] → va_S A s.heap H locs → lv_has ls 2 [(0, .ref o), (1, .int x1)] → pX11_fixedCodes_b2 o_symbolLengths_n o_distanceLengths_n n o_symbolLengths_v o_distanceLengths_v x1 = some u → W p l e ({ frames := 0, cells := 0, slots := 0, locals := 0 }) s m args below meth c H locs 0 0 Q (F0 m 2 ls []) := by
    intro n
    induction n with
    | zero => intro o_symbolLengths_v o_distanceLengths_v x1 H locs ls hP hD hS hl h; cases h
    | succ n ih =>
      intro o_symbolLengths_v o_distanceLengths_v x1 H locs ls hP hD hS hl h
      rw [pX11_fixedCodes_b2] at h
      refine lv_iload_n hx hb dX11_fixedCodes_2 rfl (lv_at hl 1 rfl) ?_
      refine lv_sipush (v := (288 : Int32)) hx hb dX11_fixedCodes_3 (by decide) ?_
      refine lv_icmp_ge (tgt := 76) hx hb dX11_fixedCodes_6 (by decide) (fun c4 => ?_) (fun c4 => ?_)
      · replace h := fb_t c4 h
        have hu := Option.some.inj h
        exact hret _ _ _ _ dX11_fixedCodes_76 (by rw [← hu]; exact hP) (by rw [← hu]; exact hD) hS
      · replace h := fb_f c4 h
        refine lv_aload_n hx hb dX11_fixedCodes_9 rfl (lv_at hl 0 rfl) ?_
        refine va_get (D := (dC, dI)) (ci := 11) (v := .ref o_symbolLengths) (C := RX11) (T := TX11) (N := 38) hx hb hts i_X11 hown hK hP 0 rfl rfl 19 (by decide) (hts _ k_861) (fun _ h9 => h9) rfl dX11_fixedCodes_10 ?_
        refine lv_iload_n hx hb dX11_fixedCodes_13 rfl (lv_at hl 1 rfl) ?_
        refine lv_iload_n hx hb dX11_fixedCodes_14 rfl (lv_at hl 1 rfl) ?_
        refine lv_sipush (v := (144 : Int32)) hx hb dX11_fixedCodes_15 (by decide) ?_
        refine lv_icmp_ge (tgt := 26) hx hb dX11_fixedCodes_18 (by decide) (fun c5 => ?_) (fun c5 => ?_)
        · replace h := fb_t c5 h
          refine lv_iload_n hx hb dX11_fixedCodes_26 rfl (lv_at hl 1 rfl) ?_
          refine lv_sipush (v := (256 : Int32)) hx hb dX11_fixedCodes_27 (by decide) ?_
          refine lv_icmp_ge (tgt := 38) hx hb dX11_fixedCodes_30 (by decide) (fun c6 => ?_) (fun c6 => ?_)
          · replace h := fb_t c6 h
            refine lv_iload_n hx hb dX11_fixedCodes_38 rfl (lv_at hl 1 rfl) ?_
            refine lv_sipush (v := (280 : Int32)) hx hb dX11_fixedCodes_39 (by decide) ?_
            refine lv_icmp_ge (tgt := 50) hx hb dX11_fixedCodes_42 (by decide) (fun c7 => ?_) (fun c7 => ?_)
            · replace h := fb_t c7 h
              refine lv_bipush (v := (8 : Int32)) hx hb dX11_fixedCodes_50 (by decide) ?_
              exact wB52 o_symbolLengths_v o_distanceLengths_v x1 (8 : Int32) x1 _ _ _ hP hD hS (lv_sub hl [0, 1] rfl) h
            · replace h := fb_f c7 h
              refine lv_bipush (v := (7 : Int32)) hx hb dX11_fixedCodes_45 (by decide) ?_
              refine lv_goto (tgt := 52) hx hb dX11_fixedCodes_47 (by decide) ?_
              exact wB52 o_symbolLengths_v o_distanceLengths_v x1 (7 : Int32) x1 _ _ _ hP hD hS (lv_sub hl [0, 1] rfl) h
          · replace h := fb_f c6 h
            refine lv_bipush (v := (9 : Int32)) hx hb dX11_fixedCodes_33 (by decide) ?_
            refine lv_goto (tgt := 52) hx hb dX11_fixedCodes_35 (by decide) ?_
            exact wB52 o_symbolLengths_v o_distanceLengths_v x1 (9 : Int32) x1 _ _ _ hP hD hS (lv_sub hl [0, 1] rfl) h
        · replace h := fb_f c5 h
          refine lv_bipush (v := (8 : Int32)) hx hb dX11_fixedCodes_21 (by decide) ?_
          refine lv_goto (tgt := 52) hx hb dX11_fixedCodes_23 (by decide) ?_
          exact wB52 o_symbolLengths_v o_distanceLengths_v x1 (8 : Int32) x1 _ _ _ hP hD hS (lv_sub hl [0, 1] rfl) h
  unfold pX11_fixedCodes at h
  refine lv_iconst (v := (0 : Int32)) hx hb dX11_fixedCodes_0 (by decide) ?_
  refine lv_istore_n (lv' := [(1, .int (0 : Int32)), (0, .ref o)]) hx hb dX11_fixedCodes_1 rfl hl (by decide) rfl (fun ls hl => ?_)
  exact wB2 fb_F o_symbolLengths_v o_distanceLengths_v (0 : Int32) _ _ _ hP hD hS (lv_sub hl [1, 0] rfl) h
