theorem dX11_findLengths_0 : decode cX11_findLengths 0 = .ok (.iconst 0, 1) := by decide +kernel
theorem dX11_findLengths_1 : decode cX11_findLengths 1 = .ok (.istore 4, 2) := by decide +kernel
theorem dX11_findLengths_3 : decode cX11_findLengths 3 = .ok (.iload 4, 2) := by decide +kernel
theorem dX11_findLengths_5 : decode cX11_findLengths 5 = .ok (.iload_n 1, 1) := by decide +kernel
theorem dX11_findLengths_6 : decode cX11_findLengths 6 = .ok (.if_icmp .ge 23, 3) := by decide +kernel
theorem dX11_findLengths_9 : decode cX11_findLengths 9 = .ok (.aload_n 0, 1) := by decide +kernel
theorem dX11_findLengths_10 : decode cX11_findLengths 10 = .ok (.getfield 57, 3) := by decide +kernel
theorem dX11_findLengths_13 : decode cX11_findLengths 13 = .ok (.iload 4, 2) := by decide +kernel
theorem dX11_findLengths_15 : decode cX11_findLengths 15 = .ok (.aload_n 0, 1) := by decide +kernel
theorem dX11_findLengths_16 : decode cX11_findLengths 16 = .ok (.getfield 36, 3) := by decide +kernel
theorem dX11_findLengths_19 : decode cX11_findLengths 19 = .ok (.iload 4, 2) := by decide +kernel
theorem dX11_findLengths_21 : decode cX11_findLengths 21 = .ok (.iaload, 1) := by decide +kernel
theorem dX11_findLengths_22 : decode cX11_findLengths 22 = .ok (.iastore, 1) := by decide +kernel
theorem dX11_findLengths_23 : decode cX11_findLengths 23 = .ok (.iinc 4 1, 3) := by decide +kernel
theorem dX11_findLengths_26 : decode cX11_findLengths 26 = .ok (.goto (-23), 3) := by decide +kernel
theorem dX11_findLengths_29 : decode cX11_findLengths 29 = .ok (.aload_n 0, 1) := by decide +kernel
theorem dX11_findLengths_30 : decode cX11_findLengths 30 = .ok (.iload_n 1, 1) := by decide +kernel
theorem dX11_findLengths_31 : decode cX11_findLengths 31 = .ok (.aload_n 3, 1) := by decide +kernel
theorem dX11_findLengths_32 : decode cX11_findLengths 32 = .ok (.invokevirtual 146, 3) := by decide +kernel
theorem dX11_findLengths_35 : decode cX11_findLengths 35 = .ok (.iload_n 2, 1) := by decide +kernel
theorem dX11_findLengths_36 : decode cX11_findLengths 36 = .ok (.if_icmp .le 39, 3) := by decide +kernel
theorem dX11_findLengths_39 : decode cX11_findLengths 39 = .ok (.iconst 0, 1) := by decide +kernel
theorem dX11_findLengths_40 : decode cX11_findLengths 40 = .ok (.istore 4, 2) := by decide +kernel
theorem dX11_findLengths_42 : decode cX11_findLengths 42 = .ok (.iload 4, 2) := by decide +kernel
theorem dX11_findLengths_44 : decode cX11_findLengths 44 = .ok (.iload_n 1, 1) := by decide +kernel
theorem dX11_findLengths_45 : decode cX11_findLengths 45 = .ok (.if_icmp .ge 27, 3) := by decide +kernel
theorem dX11_findLengths_48 : decode cX11_findLengths 48 = .ok (.aload_n 0, 1) := by decide +kernel
theorem dX11_findLengths_49 : decode cX11_findLengths 49 = .ok (.getfield 57, 3) := by decide +kernel
theorem dX11_findLengths_52 : decode cX11_findLengths 52 = .ok (.iload 4, 2) := by decide +kernel
theorem dX11_findLengths_54 : decode cX11_findLengths 54 = .ok (.aload_n 0, 1) := by decide +kernel
theorem dX11_findLengths_55 : decode cX11_findLengths 55 = .ok (.getfield 57, 3) := by decide +kernel
theorem dX11_findLengths_58 : decode cX11_findLengths 58 = .ok (.iload 4, 2) := by decide +kernel
theorem dX11_findLengths_60 : decode cX11_findLengths 60 = .ok (.iaload, 1) := by decide +kernel
theorem dX11_findLengths_61 : decode cX11_findLengths 61 = .ok (.iconst 1, 1) := by decide +kernel
theorem dX11_findLengths_62 : decode cX11_findLengths 62 = .ok (.iadd, 1) := by decide +kernel
theorem dX11_findLengths_63 : decode cX11_findLengths 63 = .ok (.iconst 2, 1) := by decide +kernel
theorem dX11_findLengths_64 : decode cX11_findLengths 64 = .ok (.idiv, 1) := by decide +kernel
theorem dX11_findLengths_65 : decode cX11_findLengths 65 = .ok (.iastore, 1) := by decide +kernel
theorem dX11_findLengths_66 : decode cX11_findLengths 66 = .ok (.iinc 4 1, 3) := by decide +kernel
theorem dX11_findLengths_69 : decode cX11_findLengths 69 = .ok (.goto (-27), 3) := by decide +kernel
theorem dX11_findLengths_72 : decode cX11_findLengths 72 = .ok (.goto (-43), 3) := by decide +kernel
theorem dX11_findLengths_75 : decode cX11_findLengths 75 = .ok (.return_, 1) := by decide +kernel
def pX11_findLengths_b42 (o_counts_n : Nat) (x1 : Int32) (K29 : (Nat → Int32) → (Nat → Int32) → (Nat → Int32) → (Nat → Int32) → Option ((Nat → Int32) × (Nat → Int32) × (Nat → Int32) × (Nat → Int32))) : Nat → (Nat → Int32) → (Nat → Int32) → (Nat → Int32) → (Nat → Int32) → Int32 → Option ((Nat → Int32) × (Nat → Int32) × (Nat → Int32) × (Nat → Int32))
  | 0 => fun _ _ _ _ _ => none
  | n + 1 => fun o_counts_v o_alone_v o_parents_v a3_v x4 =>
  if x1 ≤ x4 then
  (K29 o_counts_v o_alone_v o_parents_v a3_v)
  else
  (if x4 < 0 ∨ o_counts_n ≤ (x4).toNatClampNeg then none else
  if x4 < 0 ∨ o_counts_n ≤ (x4).toNatClampNeg then none else
  (pX11_findLengths_b42 o_counts_n x1 K29 n) (upd o_counts_v (x4).toNatClampNeg (((o_counts_v (x4).toNatClampNeg) + (1 : Int32)) / (2 : Int32))) o_alone_v o_parents_v a3_v (x4 + (1 : Int32)))
def pX11_findLengths_b29 (o_counts_n : Nat) (o_alone_n : Nat) (o_parents_n : Nat) (a3_n : Nat) (x1 : Int32) (x2 : Int32)  : Nat → (Nat → Int32) → (Nat → Int32) → (Nat → Int32) → (Nat → Int32) → Option ((Nat → Int32) × (Nat → Int32) × (Nat → Int32) × (Nat → Int32))
  | 0 => fun _ _ _ _ => none
  | n + 1 => fun o_counts_v o_alone_v o_parents_v a3_v =>
  (pX11_tree o_counts_n o_alone_n o_parents_n a3_n x1 o_counts_v o_alone_v o_parents_v a3_v).bind (fun u4 =>
  if u4.1 ≤ x2 then
  (some (u4.2.1, u4.2.2.1, u4.2.2.2.1, u4.2.2.2.2))
  else
  (pX11_findLengths_b42 o_counts_n x1 (pX11_findLengths_b29 o_counts_n o_alone_n o_parents_n a3_n x1 x2 n) fb_F u4.2.1 u4.2.2.1 u4.2.2.2.1 u4.2.2.2.2 (0 : Int32)))
def pX11_findLengths_b3 (o_often_n : Nat) (o_counts_n : Nat) (o_alone_n : Nat) (o_parents_n : Nat) (a3_n : Nat) (o_often_v : Nat → Int32) (x1 : Int32) (x2 : Int32)  : Nat → (Nat → Int32) → (Nat → Int32) → (Nat → Int32) → (Nat → Int32) → Int32 → Option ((Nat → Int32) × (Nat → Int32) × (Nat → Int32) × (Nat → Int32))
  | 0 => fun _ _ _ _ _ => none
  | n + 1 => fun o_counts_v o_alone_v o_parents_v a3_v x4 =>
  if x1 ≤ x4 then
  (pX11_findLengths_b29 o_counts_n o_alone_n o_parents_n a3_n x1 x2 fb_F o_counts_v o_alone_v o_parents_v a3_v)
  else
  (if x4 < 0 ∨ o_often_n ≤ (x4).toNatClampNeg then none else
  if x4 < 0 ∨ o_counts_n ≤ (x4).toNatClampNeg then none else
  (pX11_findLengths_b3 o_often_n o_counts_n o_alone_n o_parents_n a3_n o_often_v x1 x2 n) (upd o_counts_v (x4).toNatClampNeg (o_often_v (x4).toNatClampNeg)) o_alone_v o_parents_v a3_v (x4 + (1 : Int32)))
def pX11_findLengths (o_often_n : Nat) (o_counts_n : Nat) (o_alone_n : Nat) (o_parents_n : Nat) (a3_n : Nat) (o_often_v : Nat → Int32) (x1 : Int32) (x2 : Int32)  (o_counts_v : Nat → Int32) (o_alone_v : Nat → Int32) (o_parents_v : Nat → Int32) (a3_v : Nat → Int32) : Option ((Nat → Int32) × (Nat → Int32) × (Nat → Int32) × (Nat → Int32)) :=
  pX11_findLengths_b3 o_often_n o_counts_n o_alone_n o_parents_n a3_n o_often_v x1 x2 fb_F o_counts_v o_alone_v o_parents_v a3_v (0 : Int32)
theorem hdX11_findLengths : yX11_findLengths.cls = RX11 ∧ yX11_findLengths.cls ≠ "java/lang/invoke/MethodHandle" ∧ yX11_findLengths.cls ≠ "java/lang/invoke/VarHandle" ∧ (parseMethodDescriptor yX11_findLengths.desc).map (fun d => d.parameters.length) = some 3 := by decide +kernel
set_option maxHeartbeats 8000000 in
set_option maxRecDepth 100000 in
theorem mX11_findLengths (l : Launch) (dC : Nat → ClassId) (dI : Nat → Nat → Nat) (o : Nat) (a3 : Nat) (o_often : Nat) (o_counts : Nat) (o_alone : Nat) (o_parents : Nat) (o_text : Nat) (o_packed : Nat) (o_loaded : Nat) (o_out : Nat) (o_lengths : Nat) (o_distances : Nat) (o_heads : Nat) (o_earlier : Nat) (o_symbolLengths : Nat) (o_distanceLengths : Nat) (o_lengthLengths : Nat) (o_symbolCodes : Nat) (o_distanceCodes : Nat) (o_lengthCodes : Nat) (o_row : Nat) (o_toldSymbols : Nat) (o_toldNumbers : Nat) (o_often_c : ClassId) (o_counts_c : ClassId) (o_alone_c : ClassId) (o_parents_c : ClassId) (a3_c : ClassId) (o_often_n : Nat) (o_counts_n : Nat) (o_alone_n : Nat) (o_parents_n : Nat) (a3_n : Nat) (o_textRoom : Int32) (o_byteRoom : Int32) (o_chain : Int32) (o_textSize : Int32) (o_packedSize : Int32) (o_matches : Int32) (o_loadedSize : Int32) (o_outSize : Int32) (o_bits : Int32) (o_tokens : Int32) (o_told : Int32) (o_place : Int32) (o_fail : Int32) (o_found : Int32) (o_symbolCount : Int32) (o_distanceCount : Int32) (o_lengthCount : Int32) (o_often_v : Nat → Int32) (o_counts_v : Nat → Int32) (o_alone_v : Nat → Int32) (o_parents_v : Nat → Int32) (a3_v : Nat → Int32) (x1 : Int32) (x2 : Int32) (sz : Nat) (u : (Nat → Int32) × (Nat → Int32) × (Nat → Int32) × (Nat → Int32)) (h : pX11_findLengths o_often_n o_counts_n o_alone_n o_parents_n a3_n o_often_v x1 x2 o_counts_v o_alone_v o_parents_v a3_v = some u) : Met l yX11_findLengths (Cond.code yX11_findLengths cX11_findLengths 5 none :: fb_tb) ({ frames := 2, cells := 0, slots := 0, locals := 51 }) (fb_Pc (dC, dI) [.ref o, .int x1, .int x2, .ref a3] sz [(o_often_c, .int), (o_counts_c, .int), (o_alone_c, .boolean), (o_parents_c, .int), (a3_c, .int)] [(o, .inr (11, [.int o_textRoom, .int o_byteRoom, .int o_chain, .ref o_text, .int o_textSize, .ref o_packed, .int o_packedSize, .int o_matches, .ref o_loaded, .int o_loadedSize, .ref o_out, .int o_outSize, .int o_bits, .int o_tokens, .ref o_lengths, .ref o_distances, .ref o_heads, .ref o_earlier, .ref o_often, .ref o_symbolLengths, .ref o_distanceLengths, .ref o_lengthLengths, .ref o_symbolCodes, .ref o_distanceCodes, .ref o_lengthCodes, .ref o_counts, .ref o_parents, .ref o_alone, .ref o_row, .int o_told, .ref o_toldSymbols, .ref o_toldNumbers, .int o_place, .int o_fail, .int o_found, .int o_symbolCount, .int o_distanceCount, .int o_lengthCount])), (o_often, .inl (o_often_c, o_often_n, .inl o_often_v)), (o_counts, .inl (o_counts_c, o_counts_n, .inl o_counts_v)), (o_alone, .inl (o_alone_c, o_alone_n, .inl o_alone_v)), (o_parents, .inl (o_parents_c, o_parents_n, .inl o_parents_v)), (a3, .inl (a3_c, a3_n, .inl a3_v))]) (fb_Qv (dC, dI) [(o, .inr (11, [.int o_textRoom, .int o_byteRoom, .int o_chain, .ref o_text, .int o_textSize, .ref o_packed, .int o_packedSize, .int o_matches, .ref o_loaded, .int o_loadedSize, .ref o_out, .int o_outSize, .int o_bits, .int o_tokens, .ref o_lengths, .ref o_distances, .ref o_heads, .ref o_earlier, .ref o_often, .ref o_symbolLengths, .ref o_distanceLengths, .ref o_lengthLengths, .ref o_symbolCodes, .ref o_distanceCodes, .ref o_lengthCodes, .ref o_counts, .ref o_parents, .ref o_alone, .ref o_row, .int o_told, .ref o_toldSymbols, .ref o_toldNumbers, .int o_place, .int o_fail, .int o_found, .int o_symbolCount, .int o_distanceCount, .int o_lengthCount])), (o_often, .inl (o_often_c, o_often_n, .inl o_often_v)), (o_counts, .inl (o_counts_c, o_counts_n, .inl u.1)), (o_alone, .inl (o_alone_c, o_alone_n, .inl u.2.1)), (o_parents, .inl (o_parents_c, o_parents_n, .inl u.2.2.1)), (a3, .inl (a3_c, a3_n, .inl u.2.2.2))] (va_A [(o, .inr (11, [.int o_textRoom, .int o_byteRoom, .int o_chain, .ref o_text, .int o_textSize, .ref o_packed, .int o_packedSize, .int o_matches, .ref o_loaded, .int o_loadedSize, .ref o_out, .int o_outSize, .int o_bits, .int o_tokens, .ref o_lengths, .ref o_distances, .ref o_heads, .ref o_earlier, .ref o_often, .ref o_symbolLengths, .ref o_distanceLengths, .ref o_lengthLengths, .ref o_symbolCodes, .ref o_distanceCodes, .ref o_lengthCodes, .ref o_counts, .ref o_parents, .ref o_alone, .ref o_row, .int o_told, .ref o_toldSymbols, .ref o_toldNumbers, .int o_place, .int o_fail, .int o_found, .int o_symbolCount, .int o_distanceCount, .int o_lengthCount])), (o_often, .inl (o_often_c, o_often_n, .inl o_often_v)), (o_counts, .inl (o_counts_c, o_counts_n, .inl o_counts_v)), (o_alone, .inl (o_alone_c, o_alone_n, .inl o_alone_v)), (o_parents, .inl (o_parents_c, o_parents_n, .inl o_parents_v)), (a3, .inl (a3_c, a3_n, .inl a3_v))] sz)) 0 0 (va_A [(o, .inr (11, [.int o_textRoom, .int o_byteRoom, .int o_chain, .ref o_text, .int o_textSize, .ref o_packed, .int o_packedSize, .int o_matches, .ref o_loaded, .int o_loadedSize, .ref o_out, .int o_outSize, .int o_bits, .int o_tokens, .ref o_lengths, .ref o_distances, .ref o_heads, .ref o_earlier, .ref o_often, .ref o_symbolLengths, .ref o_distanceLengths, .ref o_lengthLengths, .ref o_symbolCodes, .ref o_distanceCodes, .ref o_lengthCodes, .ref o_counts, .ref o_parents, .ref o_alone, .ref o_row, .int o_told, .ref o_toldSymbols, .ref o_toldNumbers, .int o_place, .int o_fail, .int o_found, .int o_symbolCount, .int o_distanceCount, .int o_lengthCount])), (o_often, .inl (o_often_c, o_often_n, .inl o_often_v)), (o_counts, .inl (o_counts_c, o_counts_n, .inl o_counts_v)), (o_alone, .inl (o_alone_c, o_alone_n, .inl o_alone_v)), (o_parents, .inl (o_parents_c, o_parents_n, .inl o_parents_v)), (a3, .inl (a3_c, a3_n, .inl a3_v))] sz) := by
  refine fb_metv (by decide) (Nat.le_of_ble_eq_true rfl) (fun p e s m args below meth c A Q ls H hx hb hml hown hts hP hK hN hZ hD hA hS hret hl => ?_)
  replace hl : lv_has ls 5 [(0, .ref o), (1, .int x1), (2, .int x2), (3, .ref a3)] := hl
  have wB42 : ∀ (K29 : (Nat → Int32) → (Nat → Int32) → (Nat → Int32) → (Nat → Int32) → Option ((Nat → Int32) × (Nat → Int32) × (Nat → Int32) × (Nat → Int32))), (∀ (o_counts_v : Nat → Int32) (o_alone_v : Nat → Int32) (o_parents_v : Nat → Int32) (a3_v : Nat → Int32) (H : Heap) (locs : List Loc) (ls : Array Slot), va_P (dC, dI) fb_cl [(o, .inr (11, [.int o_textRoom, .int o_byteRoom, .int o_chain, .ref o_text, .int o_textSize, .ref o_packed, .int o_packedSize, .int o_matches, .ref o_loaded, .int o_loadedSize, .ref o_out, .int o_outSize, .int o_bits, .int o_tokens, .ref o_lengths, .ref o_distances, .ref o_heads, .ref o_earlier, .ref o_often, .ref o_symbolLengths, .ref o_distanceLengths, .ref o_lengthLengths, .ref o_symbolCodes, .ref o_distanceCodes, .ref o_lengthCodes, .ref o_counts, .ref o_parents, .ref o_alone, .ref o_row, .int o_told, .ref o_toldSymbols, .ref o_toldNumbers, .int o_place, .int o_fail, .int o_found, .int o_symbolCount, .int o_distanceCount, .int o_lengthCount])), (o_often, .inl (o_often_c, o_often_n, .inl o_often_v)), (o_counts, .inl (o_counts_c, o_counts_n, .inl o_counts_v)), (o_alone, .inl (o_alone_c, o_alone_n, .inl o_alone_v)), (o_parents, .inl (o_parents_c, o_parents_n, .inl o_parents_v)), (a3, .inl (a3_c, a3_n, .inl a3_v))] H → va_D A [(o, .inr (11, [.int o_textRoom, .int o_byteRoom, .int o_chain, .ref o_text, .int o_textSize, .ref o_packed, .int o_packedSize, .int o_matches, .ref o_loaded, .int o_loadedSize, .ref o_out, .int o_outSize, .int o_bits, .int o_tokens, .ref o_lengths, .ref o_distances, .ref o_heads, .ref o_earlier, .ref o_often, .ref o_symbolLengths, .ref o_distanceLengths, .ref o_lengthLengths, .ref o_symbolCodes, .ref o_distanceCodes, .ref o_lengthCodes, .ref o_counts, .ref o_parents, .ref o_alone, .ref o_row, .int o_told, .ref o_toldSymbols, .ref o_toldNumbers, .int o_place, .int o_fail, .int o_found, .int o_symbolCount, .int o_distanceCount, .int o_lengthCount])), (o_often, .inl (o_often_c, o_often_n, .inl o_often_v)), (o_counts, .inl (o_counts_c, o_counts_n, .inl o_counts_v)), (o_alone, .inl (o_alone_c, o_alone_n, .inl o_alone_v)), (o_parents, .inl (o_parents_c, o_parents_n, .inl o_parents_v)), (a3, .inl (a3_c, a3_n, .inl a3_v))] → va_S A s.heap H locs → lv_has ls 5 [(0, .ref o), (1, .int x1), (2, .int x2), (3, .ref a3)] → K29 o_counts_v o_alone_v o_parents_v a3_v = some u → W p l e ({ frames := 2, cells := 0, slots := 0, locals := 51 }) s m args below meth c H locs 0 0 Q (F0 m 29 ls [])) → ∀ n : Nat, ∀ (o_counts_v : Nat → Int32) (o_alone_v : Nat → Int32) (o_parents_v : Nat → Int32) (a3_v : Nat → Int32) (x4 : Int32) (H : Heap) (locs : List Loc) (ls : Array Slot), va_P (dC, dI) fb_cl [(o, .inr (11, [.int o_textRoom, .int o_byteRoom, .int o_chain, .ref o_text, .int o_textSize, .ref o_packed, .int o_packedSize, .int o_matches, .ref o_loaded, .int o_loadedSize, .ref o_out, .int o_outSize, .int o_bits, .int o_tokens, .ref o_lengths, .ref o_distances, .ref o_heads, .ref o_earlier, .ref o_often, .ref o_symbolLengths, .ref o_distanceLengths, .ref o_lengthLengths, .ref o_symbolCodes, .ref o_distanceCodes, .ref o_lengthCodes, .ref o_counts, .ref o_parents, .ref o_alone, .ref o_row, .int o_told, .ref o_toldSymbols, .ref o_toldNumbers, .int o_place, .int o_fail, .int o_found, .int o_symbolCount, .int o_distanceCount, .int o_lengthCount])), (o_often, .inl (o_often_c, o_often_n, .inl o_often_v)), (o_counts, .inl (o_counts_c, o_counts_n, .inl o_counts_v)), (o_alone, .inl (o_alone_c, o_alone_n, .inl o_alone_v)), (o_parents, .inl (o_parents_c, o_parents_n, .inl o_parents_v)), (a3, .inl (a3_c, a3_n, .inl a3_v))] H → va_D A [(o, .inr (11, [.int o_textRoom, .int o_byteRoom, .int o_chain, .ref o_text, .int o_textSize, .ref o_packed, .int o_packedSize, .int o_matches, .ref o_loaded, .int o_loadedSize, .ref o_out, .int o_outSize, .int o_bits, .int o_tokens, .ref o_lengths, .ref o_distances, .ref o_heads, .ref o_earlier, .ref o_often, .ref o_symbolLengths, .ref o_distanceLengths, .ref o_lengthLengths, .ref o_symbolCodes, .ref o_distanceCodes, .ref o_lengthCodes, .ref o_counts, .ref o_parents, .ref o_alone, .ref o_row, .int o_told, .ref o_toldSymbols, .ref o_toldNumbers, .int o_place, .int o_fail, .int o_found, .int o_symbolCount, .int o_distanceCount, .int o_lengthCount])), (o_often, .inl (o_often_c, o_often_n, .inl o_often_v)), (o_counts, .inl (o_counts_c, o_counts_n, .inl o_counts_v)), (o_alone, .inl (o_alone_c, o_alone_n, .inl o_alone_v)), (o_parents, .inl (o_parents_c, o_parents_n, .inl o_parents_v)), (a3, .inl (a3_c, a3_n, .inl a3_v))] → va_S A s.heap H locs → lv_has ls 5 [(0, .ref o), (1, .int x1), (2, .int x2), (3, .ref a3), (4, .int x4)] → pX11_findLengths_b42 o_counts_n x1 K29 n o_counts_v o_alone_v o_parents_v a3_v x4 = some u → W p l e ({ frames := 2, cells := 0, slots := 0, locals := 51 }) s m args below meth c H locs 0 0 Q (F0 m 42 ls []) := by
    intro K29 hK29 n
    induction n with
    | zero => intro o_counts_v o_alone_v o_parents_v a3_v x4 H locs ls hP hD hS hl h; cases h
    | succ n ih =>
      intro o_counts_v o_alone_v o_parents_v a3_v x4 H locs ls hP hD hS hl h
      rw [pX11_findLengths_b42] at h
      refine lv_iload hx hb dX11_findLengths_42 (lv_at hl 4 rfl) ?_
      refine lv_iload_n hx hb dX11_findLengths_44 rfl (lv_at hl 1 rfl) ?_
      refine lv_icmp_ge (tgt := 72) hx hb dX11_findLengths_45 (by decide) (fun c1 => ?_) (fun c1 => ?_)
      · replace h := fb_t c1 h
        refine lv_goto (tgt := 29) hx hb dX11_findLengths_72 (by decide) ?_
        exact hK29 o_counts_v o_alone_v o_parents_v a3_v _ _ _ hP hD hS (lv_sub hl [0, 1, 2, 3] rfl) h
      · replace h := fb_f c1 h
        refine lv_aload_n hx hb dX11_findLengths_48 rfl (lv_at hl 0 rfl) ?_
        refine va_get (D := (dC, dI)) (ci := 11) (v := .ref o_counts) (C := RX11) (T := TX11) (N := 38) hx hb hts i_X11 hown hK hP 0 rfl rfl 25 (by decide) (hts _ k_867) (fun _ h9 => h9) rfl dX11_findLengths_49 ?_
        refine lv_iload hx hb dX11_findLengths_52 (lv_at hl 4 rfl) ?_
        refine lv_aload_n hx hb dX11_findLengths_54 rfl (lv_at hl 0 rfl) ?_
        refine va_get (D := (dC, dI)) (ci := 11) (v := .ref o_counts) (C := RX11) (T := TX11) (N := 38) hx hb hts i_X11 hown hK hP 0 rfl rfl 25 (by decide) (hts _ k_867) (fun _ h9 => h9) rfl dX11_findLengths_55 ?_
        refine lv_iload hx hb dX11_findLengths_58 (lv_at hl 4 rfl) ?_
        obtain ⟨g2, h⟩ := fb_g h
        refine va_iald hx hb hK hP 2 1 rfl rfl g2 dX11_findLengths_60 ?_
        refine lv_iconst (v := (1 : Int32)) hx hb dX11_findLengths_61 (by decide) ?_
        refine lv_iadd hx hb dX11_findLengths_62 ?_
        refine lv_iconst (v := (2 : Int32)) hx hb dX11_findLengths_63 (by decide) ?_
        refine lv_idiv hx hb dX11_findLengths_64 (by decide) ?_
        obtain ⟨g3, h⟩ := fb_g h
        refine va_iast hx hb hK hP hD hS 2 1 rfl rfl g3 dX11_findLengths_65 (fun H locs hP hD hS => ?_)
        replace hP : va_P (dC, dI) fb_cl [(o, .inr (11, [.int o_textRoom, .int o_byteRoom, .int o_chain, .ref o_text, .int o_textSize, .ref o_packed, .int o_packedSize, .int o_matches, .ref o_loaded, .int o_loadedSize, .ref o_out, .int o_outSize, .int o_bits, .int o_tokens, .ref o_lengths, .ref o_distances, .ref o_heads, .ref o_earlier, .ref o_often, .ref o_symbolLengths, .ref o_distanceLengths, .ref o_lengthLengths, .ref o_symbolCodes, .ref o_distanceCodes, .ref o_lengthCodes, .ref o_counts, .ref o_parents, .ref o_alone, .ref o_row, .int o_told, .ref o_toldSymbols, .ref o_toldNumbers, .int o_place, .int o_fail, .int o_found, .int o_symbolCount, .int o_distanceCount, .int o_lengthCount])), (o_often, .inl (o_often_c, o_often_n, .inl o_often_v)), (o_counts, .inl (o_counts_c, o_counts_n, .inl (upd o_counts_v (x4).toNatClampNeg (((o_counts_v (x4).toNatClampNeg) + (1 : Int32)) / (2 : Int32))))), (o_alone, .inl (o_alone_c, o_alone_n, .inl o_alone_v)), (o_parents, .inl (o_parents_c, o_parents_n, .inl o_parents_v)), (a3, .inl (a3_c, a3_n, .inl a3_v))] H := hP
        replace hD : va_D A [(o, .inr (11, [.int o_textRoom, .int o_byteRoom, .int o_chain, .ref o_text, .int o_textSize, .ref o_packed, .int o_packedSize, .int o_matches, .ref o_loaded, .int o_loadedSize, .ref o_out, .int o_outSize, .int o_bits, .int o_tokens, .ref o_lengths, .ref o_distances, .ref o_heads, .ref o_earlier, .ref o_often, .ref o_symbolLengths, .ref o_distanceLengths, .ref o_lengthLengths, .ref o_symbolCodes, .ref o_distanceCodes, .ref o_lengthCodes, .ref o_counts, .ref o_parents, .ref o_alone, .ref o_row, .int o_told, .ref o_toldSymbols, .ref o_toldNumbers, .int o_place, .int o_fail, .int o_found, .int o_symbolCount, .int o_distanceCount, .int o_lengthCount])), (o_often, .inl (o_often_c, o_often_n, .inl o_often_v)), (o_counts, .inl (o_counts_c, o_counts_n, .inl (upd o_counts_v (x4).toNatClampNeg (((o_counts_v (x4).toNatClampNeg) + (1 : Int32)) / (2 : Int32))))), (o_alone, .inl (o_alone_c, o_alone_n, .inl o_alone_v)), (o_parents, .inl (o_parents_c, o_parents_n, .inl o_parents_v)), (a3, .inl (a3_c, a3_n, .inl a3_v))] := hD
        refine lv_iinc (v := (x4 + (1 : Int32))) (lv' := [(4, .int (x4 + (1 : Int32))), (0, .ref o), (1, .int x1), (2, .int x2), (3, .ref a3)]) hx hb dX11_findLengths_66 hl (k := 4) rfl rfl (by decide) rfl (fun ls hl => ?_)
        refine lv_goto (tgt := 42) hx hb dX11_findLengths_69 (by decide) ?_
        exact ih (upd o_counts_v (x4).toNatClampNeg (((o_counts_v (x4).toNatClampNeg) + (1 : Int32)) / (2 : Int32))) o_alone_v o_parents_v a3_v (x4 + (1 : Int32)) _ _ _ hP hD hS (lv_sub hl [1, 2, 3, 4, 0] rfl) h
  have wB29 : ∀ n : Nat, ∀ (o_counts_v : Nat → Int32) (o_alone_v : Nat → Int32) (o_parents_v : Nat → Int32) (a3_v : Nat → Int32) (H : Heap) (locs : List Loc) (ls : Array Slot), va_P (dC, dI) fb_cl [(o, .inr (11, [.int o_textRoom, .int o_byteRoom, .int o_chain, .ref o_text, .int o_textSize, .ref o_packed, .int o_packedSize, .int o_matches, .ref o_loaded, .int o_loadedSize, .ref o_out, .int o_outSize, .int o_bits, .int o_tokens, .ref o_lengths, .ref o_distances, .ref o_heads, .ref o_earlier, .ref o_often, .ref o_symbolLengths, .ref o_distanceLengths, .ref o_lengthLengths, .ref o_symbolCodes, .ref o_distanceCodes, .ref o_lengthCodes, .ref o_counts, .ref o_parents, .ref o_alone, .ref o_row, .int o_told, .ref o_toldSymbols, .ref o_toldNumbers, .int o_place, .int o_fail, .int o_found, .int o_symbolCount, .int o_distanceCount, .int o_lengthCount])), (o_often, .inl (o_often_c, o_often_n, .inl o_often_v)), (o_counts, .inl (o_counts_c, o_counts_n, .inl o_counts_v)), (o_alone, .inl (o_alone_c, o_alone_n, .inl o_alone_v)), (o_parents, .inl (o_parents_c, o_parents_n, .inl o_parents_v)), (a3, .inl (a3_c, a3_n, .inl a3_v))] H → va_D A [(o, .inr (11, [.int o_textRoom, .int o_byteRoom, .int o_chain, .ref o_text, .int o_textSize, .ref o_packed, .int o_packedSize, .int o_matches, .ref o_loaded, .int o_loadedSize, .ref o_out, .int o_outSize, .int o_bits, .int o_tokens, .ref o_lengths, .ref o_distances, .ref o_heads, .ref o_earlier, .ref o_often, .ref o_symbolLengths, .ref o_distanceLengths, .ref o_lengthLengths, .ref o_symbolCodes, .ref o_distanceCodes, .ref o_lengthCodes, .ref o_counts, .ref o_parents, .ref o_alone, .ref o_row, .int o_told, .ref o_toldSymbols, .ref o_toldNumbers, .int o_place, .int o_fail, .int o_found, .int o_symbolCount, .int o_distanceCount, .int o_lengthCount])), (o_often, .inl (o_often_c, o_often_n, .inl o_often_v)), (o_counts, .inl (o_counts_c, o_counts_n, .inl o_counts_v)), (o_alone, .inl (o_alone_c, o_alone_n, .inl o_alone_v)), (o_parents, .inl (o_parents_c, o_parents_n, .inl o_parents_v)), (a3, .inl (a3_c, a3_n, .inl a3_v))] → va_S A s.heap H locs → lv_has ls 5 [(0, .ref o), (1, .int x1), (2, .int x2), (3, .ref a3)] → pX11_findLengths_b29 o_counts_n o_alone_n o_parents_n a3_n x1 x2 n o_counts_v o_alone_v o_parents_v a3_v = some u → W p l e ({ frames := 2, cells := 0, slots := 0, locals := 51 }) s m args below meth c H locs 0 0 Q (F0 m 29 ls []) := by
    intro n
    induction n with
    | zero => intro o_counts_v o_alone_v o_parents_v a3_v H locs ls hP hD hS hl h; cases h
    | succ n ih =>
      intro o_counts_v o_alone_v o_parents_v a3_v H locs ls hP hD hS hl h
      rw [pX11_findLengths_b29] at h
      refine lv_aload_n hx hb dX11_findLengths_29 rfl (lv_at hl 0 rfl) ?_
      refine lv_iload_n hx hb dX11_findLengths_30 rfl (lv_at hl 1 rfl) ?_
      refine lv_aload_n hx hb dX11_findLengths_31 rfl (lv_at hl 3 rfl) ?_
      obtain ⟨u4, e4, h⟩ := fb_b h
      refine fb_ci (wc := [(o, .inr (11, [.int o_textRoom, .int o_byteRoom, .int o_chain, .ref o_text, .int o_textSize, .ref o_packed, .int o_packedSize, .int o_matches, .ref o_loaded, .int o_loadedSize, .ref o_out, .int o_outSize, .int o_bits, .int o_tokens, .ref o_lengths, .ref o_distances, .ref o_heads, .ref o_earlier, .ref o_often, .ref o_symbolLengths, .ref o_distanceLengths, .ref o_lengthLengths, .ref o_symbolCodes, .ref o_distanceCodes, .ref o_lengthCodes, .ref o_counts, .ref o_parents, .ref o_alone, .ref o_row, .int o_told, .ref o_toldSymbols, .ref o_toldNumbers, .int o_place, .int o_fail, .int o_found, .int o_symbolCount, .int o_distanceCount, .int o_lengthCount])), (o_counts, .inl (o_counts_c, o_counts_n, .inl o_counts_v)), (o_alone, .inl (o_alone_c, o_alone_n, .inl o_alone_v)), (o_parents, .inl (o_parents_c, o_parents_n, .inl o_parents_v)), (a3, .inl (a3_c, a3_n, .inl a3_v))]) (wr := [(o_often, .inl (o_often_c, o_often_n, .inl o_often_v))]) (w1 := [(o, .inr (11, [.int o_textRoom, .int o_byteRoom, .int o_chain, .ref o_text, .int o_textSize, .ref o_packed, .int o_packedSize, .int o_matches, .ref o_loaded, .int o_loadedSize, .ref o_out, .int o_outSize, .int o_bits, .int o_tokens, .ref o_lengths, .ref o_distances, .ref o_heads, .ref o_earlier, .ref o_often, .ref o_symbolLengths, .ref o_distanceLengths, .ref o_lengthLengths, .ref o_symbolCodes, .ref o_distanceCodes, .ref o_lengthCodes, .ref o_counts, .ref o_parents, .ref o_alone, .ref o_row, .int o_told, .ref o_toldSymbols, .ref o_toldNumbers, .int o_place, .int o_fail, .int o_found, .int o_symbolCount, .int o_distanceCount, .int o_lengthCount])), (o_counts, .inl (o_counts_c, o_counts_n, .inl u4.2.1)), (o_alone, .inl (o_alone_c, o_alone_n, .inl u4.2.2.1)), (o_parents, .inl (o_parents_c, o_parents_n, .inl u4.2.2.2.1)), (a3, .inl (a3_c, a3_n, .inl u4.2.2.2.2))]) (ws' := [(o, .inr (11, [.int o_textRoom, .int o_byteRoom, .int o_chain, .ref o_text, .int o_textSize, .ref o_packed, .int o_packedSize, .int o_matches, .ref o_loaded, .int o_loadedSize, .ref o_out, .int o_outSize, .int o_bits, .int o_tokens, .ref o_lengths, .ref o_distances, .ref o_heads, .ref o_earlier, .ref o_often, .ref o_symbolLengths, .ref o_distanceLengths, .ref o_lengthLengths, .ref o_symbolCodes, .ref o_distanceCodes, .ref o_lengthCodes, .ref o_counts, .ref o_parents, .ref o_alone, .ref o_row, .int o_told, .ref o_toldSymbols, .ref o_toldNumbers, .int o_place, .int o_fail, .int o_found, .int o_symbolCount, .int o_distanceCount, .int o_lengthCount])), (o_often, .inl (o_often_c, o_often_n, .inl o_often_v)), (o_counts, .inl (o_counts_c, o_counts_n, .inl u4.2.1)), (o_alone, .inl (o_alone_c, o_alone_n, .inl u4.2.2.1)), (o_parents, .inl (o_parents_c, o_parents_n, .inl u4.2.2.2.1)), (a3, .inl (a3_c, a3_n, .inl u4.2.2.2.2))]) (va_runV (As := [.int x1, .ref a3]) (rest := []) ⟨hx, hb, hml, hown, hts⟩ (mX11_tree l dC dI o a3 o_counts o_alone o_parents o_text o_packed o_loaded o_out o_lengths o_distances o_heads o_earlier o_often o_symbolLengths o_distanceLengths o_lengthLengths o_symbolCodes o_distanceCodes o_lengthCodes o_row o_toldSymbols o_toldNumbers o_counts_c o_alone_c o_parents_c a3_c o_counts_n o_alone_n o_parents_n a3_n o_textRoom o_byteRoom o_chain o_textSize o_packedSize o_matches o_loadedSize o_outSize o_bits o_tokens o_told o_place o_fail o_found o_symbolCount o_distanceCount o_lengthCount o_counts_v o_alone_v o_parents_v a3_v x1 H.size u4 e4) (cwV 2 hts (fb_GV k_1048 k_1050 k_42 k_75 k_1051) rfl rfl rfl hdX11_tree ⟨Nat.le_of_ble_eq_true rfl, Nat.le_of_ble_eq_true rfl⟩) (fb_pV hP hD hS hA hK hN hZ [0, 2, 3, 4, 5] rfl rfl [1, 2, 3, 4] rfl (q0 := 0) (ci := 11) rfl rfl) rfl rfl hl.1 rfl (lv_room (Nat.le_of_ble_eq_true rfl)) dX11_findLengths_32 ⟨Nat.le_of_ble_eq_true rfl, Nat.le_of_ble_eq_true rfl⟩) hP hD hS hA [0, 2, 3, 4, 5] [1] rfl rfl rfl (by decide) [1, 0, 2, 3, 4, 5] rfl rfl (fun H locs hP hD hS => ?_)
      refine lv_iload_n hx hb dX11_findLengths_35 rfl (lv_at hl 2 rfl) ?_
      refine lv_icmp_le (tgt := 75) hx hb dX11_findLengths_36 (by decide) (fun c5 => ?_) (fun c5 => ?_)
      · replace h := fb_t c5 h
        have hu := Option.some.inj h
        exact hret _ _ _ _ dX11_findLengths_75 (by rw [← hu]; exact hP) (by rw [← hu]; exact hD) hS
      · replace h := fb_f c5 h
        refine lv_iconst (v := (0 : Int32)) hx hb dX11_findLengths_39 (by decide) ?_
        refine lv_istore (lv' := [(4, .int (0 : Int32)), (0, .ref o), (1, .int x1), (2, .int x2), (3, .ref a3)]) hx hb dX11_findLengths_40 hl (by decide) rfl (fun ls hl => ?_)
        exact wB42 (pX11_findLengths_b29 o_counts_n o_alone_n o_parents_n a3_n x1 x2 n) ih fb_F u4.2.1 u4.2.2.1 u4.2.2.2.1 u4.2.2.2.2 (0 : Int32) _ _ _ hP hD hS (lv_sub hl [1, 2, 3, 4, 0] rfl) h
  have wB3 : ∀ n : Nat, ∀ (o_counts_v : Nat → Int32) (o_alone_v : Nat → Int32) (o_parents_v : Nat → Int32) (a3_v : Nat → Int32) (x4 : Int32) (H : Heap) (locs : List Loc) (ls : Array Slot), va_P (dC, dI) fb_cl [(o, .inr (11, [.int o_textRoom, .int o_byteRoom, .int o_chain, .ref o_text, .int o_textSize, .ref o_packed, .int o_packedSize, .int o_matches, .ref o_loaded, .int o_loadedSize, .ref o_out, .int o_outSize, .int o_bits, .int o_tokens, .ref o_lengths, .ref o_distances, .ref o_heads, .ref o_earlier, .ref o_often, .ref o_symbolLengths, .ref o_distanceLengths, .ref o_lengthLengths, .ref o_symbolCodes, .ref o_distanceCodes, .ref o_lengthCodes, .ref o_counts, .ref o_parents, .ref o_alone, .ref o_row, .int o_told, .ref o_toldSymbols, .ref o_toldNumbers, .int o_place, .int o_fail, .int o_found, .int o_symbolCount, .int o_distanceCount, .int o_lengthCount])), (o_often, .inl (o_often_c, o_often_n, .inl o_often_v)), (o_counts, .inl (o_counts_c, o_counts_n, .inl o_counts_v)), (o_alone, .inl (o_alone_c, o_alone_n, .inl o_alone_v)), (o_parents, .inl (o_parents_c, o_parents_n, .inl o_parents_v)), (a3, .inl (a3_c, a3_n, .inl a3_v))] H → va_D A [(o, .inr (11, [.int o_textRoom, .int o_byteRoom, .int o_chain, .ref o_text, .int o_textSize, .ref o_packed, .int o_packedSize, .int o_matches, .ref o_loaded, .int o_loadedSize, .ref o_out, .int o_outSize, .int o_bits, .int o_tokens, .ref o_lengths, .ref o_distances, .ref o_heads, .ref o_earlier, .ref o_often, .ref o_symbolLengths, .ref o_distanceLengths, .ref o_lengthLengths, .ref o_symbolCodes, .ref o_distanceCodes, .ref o_lengthCodes, .ref o_counts, .ref o_parents, .ref o_alone, .ref o_row, .int o_told, .ref o_toldSymbols, .ref o_toldNumbers, .int o_place, .int o_fail, .int o_found, .int o_symbolCount, .int o_distanceCount, .int o_lengthCount])), (o_often, .inl (o_often_c, o_often_n, .inl o_often_v)), (o_counts, .inl (o_counts_c, o_counts_n, .inl o_counts_v)), (o_alone, .inl (o_alone_c, o_alone_n, .inl o_alone_v)), (o_parents, .inl (o_parents_c, o_parents_n, .inl o_parents_v)), (a3, .inl (a3_c, a3_n, .inl a3_v))] → va_S A s.heap H locs → lv_has ls 5 [(0, .ref o), (1, .int x1), (2, .int x2), (3, .ref a3), (4, .int x4)] → pX11_findLengths_b3 o_often_n o_counts_n o_alone_n o_parents_n a3_n o_often_v x1 x2 n o_counts_v o_alone_v o_parents_v a3_v x4 = some u → W p l e ({ frames := 2, cells := 0, slots := 0, locals := 51 }) s m args below meth c H locs 0 0 Q (F0 m 3 ls []) := by
    intro n
    induction n with
    | zero => intro o_counts_v o_alone_v o_parents_v a3_v x4 H locs ls hP hD hS hl h; cases h
    | succ n ih =>
      intro o_counts_v o_alone_v o_parents_v a3_v x4 H locs ls hP hD hS hl h
      rw [pX11_findLengths_b3] at h
      refine lv_iload hx hb dX11_findLengths_3 (lv_at hl 4 rfl) ?_
      refine lv_iload_n hx hb dX11_findLengths_5 rfl (lv_at hl 1 rfl) ?_
      refine lv_icmp_ge (tgt := 29) hx hb dX11_findLengths_6 (by decide) (fun c6 => ?_) (fun c6 => ?_)
      · replace h := fb_t c6 h
        exact wB29 fb_F o_counts_v o_alone_v o_parents_v a3_v _ _ _ hP hD hS (lv_sub hl [0, 1, 2, 3] rfl) h
      · replace h := fb_f c6 h
        refine lv_aload_n hx hb dX11_findLengths_9 rfl (lv_at hl 0 rfl) ?_
        refine va_get (D := (dC, dI)) (ci := 11) (v := .ref o_counts) (C := RX11) (T := TX11) (N := 38) hx hb hts i_X11 hown hK hP 0 rfl rfl 25 (by decide) (hts _ k_867) (fun _ h9 => h9) rfl dX11_findLengths_10 ?_
        refine lv_iload hx hb dX11_findLengths_13 (lv_at hl 4 rfl) ?_
        refine lv_aload_n hx hb dX11_findLengths_15 rfl (lv_at hl 0 rfl) ?_
        refine va_get (D := (dC, dI)) (ci := 11) (v := .ref o_often) (C := RX11) (T := TX11) (N := 38) hx hb hts i_X11 hown hK hP 0 rfl rfl 18 (by decide) (hts _ k_860) (fun _ h9 => h9) rfl dX11_findLengths_16 ?_
        refine lv_iload hx hb dX11_findLengths_19 (lv_at hl 4 rfl) ?_
        obtain ⟨g7, h⟩ := fb_g h
        refine va_iald hx hb hK hP 1 0 rfl rfl g7 dX11_findLengths_21 ?_
        obtain ⟨g8, h⟩ := fb_g h
        refine va_iast hx hb hK hP hD hS 2 1 rfl rfl g8 dX11_findLengths_22 (fun H locs hP hD hS => ?_)
        replace hP : va_P (dC, dI) fb_cl [(o, .inr (11, [.int o_textRoom, .int o_byteRoom, .int o_chain, .ref o_text, .int o_textSize, .ref o_packed, .int o_packedSize, .int o_matches, .ref o_loaded, .int o_loadedSize, .ref o_out, .int o_outSize, .int o_bits, .int o_tokens, .ref o_lengths, .ref o_distances, .ref o_heads, .ref o_earlier, .ref o_often, .ref o_symbolLengths, .ref o_distanceLengths, .ref o_lengthLengths, .ref o_symbolCodes, .ref o_distanceCodes, .ref o_lengthCodes, .ref o_counts, .ref o_parents, .ref o_alone, .ref o_row, .int o_told, .ref o_toldSymbols, .ref o_toldNumbers, .int o_place, .int o_fail, .int o_found, .int o_symbolCount, .int o_distanceCount, .int o_lengthCount])), (o_often, .inl (o_often_c, o_often_n, .inl o_often_v)), (o_counts, .inl (o_counts_c, o_counts_n, .inl (upd o_counts_v (x4).toNatClampNeg (o_often_v (x4).toNatClampNeg)))), (o_alone, .inl (o_alone_c, o_alone_n, .inl o_alone_v)), (o_parents, .inl (o_parents_c, o_parents_n, .inl o_parents_v)), (a3, .inl (a3_c, a3_n, .inl a3_v))] H := hP
        replace hD : va_D A [(o, .inr (11, [.int o_textRoom, .int o_byteRoom, .int o_chain, .ref o_text, .int o_textSize, .ref o_packed, .int o_packedSize, .int o_matches, .ref o_loaded, .int o_loadedSize, .ref o_out, .int o_outSize, .int o_bits, .int o_tokens, .ref o_lengths, .ref o_distances, .ref o_heads, .ref o_earlier, .ref o_often, .ref o_symbolLengths, .ref o_distanceLengths, .ref o_lengthLengths, .ref o_symbolCodes, .ref o_distanceCodes, .ref o_lengthCodes, .ref o_counts, .ref o_parents, .ref o_alone, .ref o_row, .int o_told, .ref o_toldSymbols, .ref o_toldNumbers, .int o_place, .int o_fail, .int o_found, .int o_symbolCount, .int o_distanceCount, .int o_lengthCount])), (o_often, .inl (o_often_c, o_often_n, .inl o_often_v)), (o_counts, .inl (o_counts_c, o_counts_n, .inl (upd o_counts_v (x4).toNatClampNeg (o_often_v (x4).toNatClampNeg)))), (o_alone, .inl (o_alone_c, o_alone_n, .inl o_alone_v)), (o_parents, .inl (o_parents_c, o_parents_n, .inl o_parents_v)), (a3, .inl (a3_c, a3_n, .inl a3_v))] := hD
        refine lv_iinc (v := (x4 + (1 : Int32))) (lv' := [(4, .int (x4 + (1 : Int32))), (0, .ref o), (1, .int x1), (2, .int x2), (3, .ref a3)]) hx hb dX11_findLengths_23 hl (k := 4) rfl rfl (by decide) rfl (fun ls hl => ?_)
        refine lv_goto (tgt := 3) hx hb dX11_findLengths_26 (by decide) ?_
        exact ih (upd o_counts_v (x4).toNatClampNeg (o_often_v (x4).toNatClampNeg)) o_alone_v o_parents_v a3_v (x4 + (1 : Int32)) _ _ _ hP hD hS (lv_sub hl [1, 2, 3, 4, 0] rfl) h
  unfold pX11_findLengths at h
  refine lv_iconst (v := (0 : Int32)) hx hb dX11_findLengths_0 (by decide) ?_
  refine lv_istore (lv' := [(4, .int (0 : Int32)), (0, .ref o), (1, .int x1), (2, .int x2), (3, .ref a3)]) hx hb dX11_findLengths_1 hl (by decide) rfl (fun ls hl => ?_)
  exact wB3 fb_F o_counts_v o_alone_v o_parents_v a3_v (0 : Int32) _ _ _ hP hD hS (lv_sub hl [1, 2, 3, 4, 0] rfl) h
theorem dX11_findCodes_0 : decode cX11_findCodes 0 = .ok (.iconst 0, 1) := by decide +kernel
theorem dX11_findCodes_1 : decode cX11_findCodes 1 = .ok (.istore 4, 2) := by decide +kernel
theorem dX11_findCodes_3 : decode cX11_findCodes 3 = .ok (.iconst 1, 1) := by decide +kernel
theorem dX11_findCodes_4 : decode cX11_findCodes 4 = .ok (.istore 5, 2) := by decide +kernel
theorem dX11_findCodes_6 : decode cX11_findCodes 6 = .ok (.iload 5, 2) := by decide +kernel
theorem dX11_findCodes_8 : decode cX11_findCodes 8 = .ok (.bipush 15, 2) := by decide +kernel
theorem dX11_findCodes_10 : decode cX11_findCodes 10 = .ok (.if_icmp .gt 48, 3) := by decide +kernel
theorem dX11_findCodes_13 : decode cX11_findCodes 13 = .ok (.iconst 0, 1) := by decide +kernel
theorem dX11_findCodes_14 : decode cX11_findCodes 14 = .ok (.istore 6, 2) := by decide +kernel
theorem dX11_findCodes_16 : decode cX11_findCodes 16 = .ok (.iload 6, 2) := by decide +kernel
theorem dX11_findCodes_18 : decode cX11_findCodes 18 = .ok (.iload_n 1, 1) := by decide +kernel
theorem dX11_findCodes_19 : decode cX11_findCodes 19 = .ok (.if_icmp .ge 27, 3) := by decide +kernel
theorem dX11_findCodes_22 : decode cX11_findCodes 22 = .ok (.aload_n 2, 1) := by decide +kernel
theorem dX11_findCodes_23 : decode cX11_findCodes 23 = .ok (.iload 6, 2) := by decide +kernel
theorem dX11_findCodes_25 : decode cX11_findCodes 25 = .ok (.iaload, 1) := by decide +kernel
theorem dX11_findCodes_26 : decode cX11_findCodes 26 = .ok (.iload 5, 2) := by decide +kernel
theorem dX11_findCodes_28 : decode cX11_findCodes 28 = .ok (.if_icmp .ne 12, 3) := by decide +kernel
theorem dX11_findCodes_31 : decode cX11_findCodes 31 = .ok (.aload_n 3, 1) := by decide +kernel
theorem dX11_findCodes_32 : decode cX11_findCodes 32 = .ok (.iload 6, 2) := by decide +kernel
theorem dX11_findCodes_34 : decode cX11_findCodes 34 = .ok (.iload 4, 2) := by decide +kernel
theorem dX11_findCodes_36 : decode cX11_findCodes 36 = .ok (.iastore, 1) := by decide +kernel
theorem dX11_findCodes_37 : decode cX11_findCodes 37 = .ok (.iinc 4 1, 3) := by decide +kernel
theorem dX11_findCodes_40 : decode cX11_findCodes 40 = .ok (.iinc 6 1, 3) := by decide +kernel
theorem dX11_findCodes_43 : decode cX11_findCodes 43 = .ok (.goto (-27), 3) := by decide +kernel
theorem dX11_findCodes_46 : decode cX11_findCodes 46 = .ok (.iload 4, 2) := by decide +kernel
theorem dX11_findCodes_48 : decode cX11_findCodes 48 = .ok (.iconst 2, 1) := by decide +kernel
theorem dX11_findCodes_49 : decode cX11_findCodes 49 = .ok (.imul, 1) := by decide +kernel
theorem dX11_findCodes_50 : decode cX11_findCodes 50 = .ok (.istore 4, 2) := by decide +kernel
theorem dX11_findCodes_52 : decode cX11_findCodes 52 = .ok (.iinc 5 1, 3) := by decide +kernel
theorem dX11_findCodes_55 : decode cX11_findCodes 55 = .ok (.goto (-49), 3) := by decide +kernel
theorem dX11_findCodes_58 : decode cX11_findCodes 58 = .ok (.return_, 1) := by decide +kernel
def pX11_findCodes_b40  (K16 : (Nat → Int32) → Int32 → Int32 → Int32 → Option ((Nat → Int32))) (a3_v : Nat → Int32) (x4 : Int32) (x5 : Int32) (x6 : Int32) : Option ((Nat → Int32)) :=
  K16 a3_v x4 x5 (x6 + (1 : Int32))
def pX11_findCodes_b16 (a2_n : Nat) (a3_n : Nat) (a2_v : Nat → Int32) (x1 : Int32) (K6 : (Nat → Int32) → Int32 → Int32 → Option ((Nat → Int32))) : Nat → (Nat → Int32) → Int32 → Int32 → Int32 → Option ((Nat → Int32))
  | 0 => fun _ _ _ _ => none
  | n + 1 => fun a3_v x4 x5 x6 =>
  if x1 ≤ x6 then
  (K6 a3_v (x4 * (2 : Int32)) (x5 + (1 : Int32)))
  else
  (if x6 < 0 ∨ a2_n ≤ (x6).toNatClampNeg then none else
  if (a2_v (x6).toNatClampNeg) = x5 then
  (if x6 < 0 ∨ a3_n ≤ (x6).toNatClampNeg then none else
  pX11_findCodes_b40 (pX11_findCodes_b16 a2_n a3_n a2_v x1 K6 n) (upd a3_v (x6).toNatClampNeg x4) (x4 + (1 : Int32)) x5 x6)
  else
  (pX11_findCodes_b40 (pX11_findCodes_b16 a2_n a3_n a2_v x1 K6 n) a3_v x4 x5 x6))
def pX11_findCodes_b6 (a2_n : Nat) (a3_n : Nat) (a2_v : Nat → Int32) (x1 : Int32)  : Nat → (Nat → Int32) → Int32 → Int32 → Option ((Nat → Int32))
  | 0 => fun _ _ _ => none
  | n + 1 => fun a3_v x4 x5 =>
  if (15 : Int32) < x5 then
  (some (a3_v))
  else
  (pX11_findCodes_b16 a2_n a3_n a2_v x1 (pX11_findCodes_b6 a2_n a3_n a2_v x1 n) fb_F a3_v x4 x5 (0 : Int32))
def pX11_findCodes (a2_n : Nat) (a3_n : Nat) (a2_v : Nat → Int32) (x1 : Int32)  (a3_v : Nat → Int32) : Option ((Nat → Int32)) :=
  pX11_findCodes_b6 a2_n a3_n a2_v x1 fb_F a3_v (0 : Int32) (1 : Int32)
theorem hdX11_findCodes : yX11_findCodes.cls = RX11 ∧ yX11_findCodes.cls ≠ "java/lang/invoke/MethodHandle" ∧ yX11_findCodes.cls ≠ "java/lang/invoke/VarHandle" ∧ (parseMethodDescriptor yX11_findCodes.desc).map (fun d => d.parameters.length) = some 3 := by decide +kernel
set_option maxHeartbeats 8000000 in
set_option maxRecDepth 100000 in
theorem mX11_findCodes (l : Launch) (dC : Nat → ClassId) (dI : Nat → Nat → Nat) (o : Nat) (a2 : Nat) (a3 : Nat) (a2_c : ClassId) (a3_c : ClassId) (a2_n : Nat) (a3_n : Nat) (a2_v : Nat → Int32) (a3_v : Nat → Int32) (x1 : Int32) (sz : Nat) (u : (Nat → Int32)) (h : pX11_findCodes a2_n a3_n a2_v x1 a3_v = some u) : Met l yX11_findCodes (Cond.code yX11_findCodes cX11_findCodes 7 none :: fb_tb) ({ frames := 0, cells := 0, slots := 0, locals := 0 }) (fb_Pc (dC, dI) [.ref o, .int x1, .ref a2, .ref a3] sz [(a2_c, .int), (a3_c, .int)] [(a2, .inl (a2_c, a2_n, .inl a2_v)), (a3, .inl (a3_c, a3_n, .inl a3_v))]) (fb_Qv (dC, dI) [(a2, .inl (a2_c, a2_n, .inl a2_v)), (a3, .inl (a3_c, a3_n, .inl u))] (va_A [(a2, .inl (a2_c, a2_n, .inl a2_v)), (a3, .inl (a3_c, a3_n, .inl a3_v))] sz)) 0 0 (va_A [(a2, .inl (a2_c, a2_n, .inl a2_v)), (a3, .inl (a3_c, a3_n, .inl a3_v))] sz) := by
  refine fb_metv (by decide) (Nat.le_of_ble_eq_true rfl) (fun p e s m args below meth c A Q ls H hx hb hml hown hts hP hK hN hZ hD hA hS hret hl => ?_)
  replace hl : lv_has ls 7 [(0, .ref o), (1, .int x1), (2, .ref a2), (3, .ref a3)] := hl
  have wB40 : ∀ (K16 : (Nat → Int32) → Int32 → Int32 → Int32 → Option ((Nat → Int32))), (∀ (a3_v : Nat → Int32) (x4 : Int32) (x5 : Int32) (x6 : Int32) (H : Heap) (locs : List Loc) (ls : Array Slot), va_P (dC, dI) fb_cl [(a2, .inl (a2_c, a2_n, .inl a2_v)), (a3, .inl (a3_c, a3_n, .inl a3_v))] H → va_D A [(a2, .inl (a2_c, a2_n, .inl a2_v)), (a3, .inl (a3_c, a3_n, .inl a3_v))] → va_S A s.heap H locs → lv_has ls 7 [(1, .int x1), (2, .ref a2), (3, .ref a3), (4, .int x4), (5, .int x5), (6, .int x6)] → K16 a3_v x4 x5 x6 = some u → W p l e ({ frames := 0, cells := 0, slots := 0, locals := 0 }) s m args below meth c H locs 0 0 Q (F0 m 16 ls [])) → ∀ (a3_v : Nat → Int32) (x4 : Int32) (x5 : Int32) (x6 : Int32) (H : Heap) (locs : List Loc) (ls : Array Slot), va_P (dC, dI) fb_cl [(a2, .inl (a2_c, a2_n, .inl a2_v)), (a3, .inl (a3_c, a3_n, .inl a3_v))] H → va_D A [(a2, .inl (a2_c, a2_n, .inl a2_v)), (a3, .inl (a3_c, a3_n, .inl a3_v))] → va_S A s.heap H locs → lv_has ls 7 [(1, .int x1), (2, .ref a2), (3, .ref a3), (4, .int x4), (5, .int x5), (6, .int x6)] → pX11_findCodes_b40 K16 a3_v x4 x5 x6 = some u → W p l e ({ frames := 0, cells := 0, slots := 0, locals := 0 }) s m args below meth c H locs 0 0 Q (F0 m 40 ls []) := by
    intro K16 hK16 a3_v x4 x5 x6 H locs ls hP hD hS hl h
    unfold pX11_findCodes_b40 at h
    refine lv_iinc (v := (x6 + (1 : Int32))) (lv' := [(6, .int (x6 + (1 : Int32))), (1, .int x1), (2, .ref a2), (3, .ref a3), (4, .int x4), (5, .int x5)]) hx hb dX11_findCodes_40 hl (k := 5) rfl rfl (by decide) rfl (fun ls hl => ?_)
    refine lv_goto (tgt := 16) hx hb dX11_findCodes_43 (by decide) ?_
    exact hK16 a3_v x4 x5 (x6 + (1 : Int32)) _ _ _ hP hD hS (lv_sub hl [1, 2, 3, 4, 5, 0] rfl) h
  have wB16 : ∀ (K6 : (Nat → Int32) → Int32 → Int32 → Option ((Nat → Int32))), (∀ (a3_v : Nat → Int32) (x4 : Int32) (x5 : Int32) (H : Heap) (locs : List Loc) (ls : Array Slot), va_P (dC, dI) fb_cl [(a2, .inl (a2_c, a2_n, .inl a2_v)), (a3, .inl (a3_c, a3_n, .inl a3_v))] H → va_D A [(a2, .inl (a2_c, a2_n, .inl a2_v)), (a3, .inl (a3_c, a3_n, .inl a3_v))] → va_S A s.heap H locs → lv_has ls 7 [(1, .int x1), (2, .ref a2), (3, .ref a3), (4, .int x4), (5, .int x5)] → K6 a3_v x4 x5 = some u → W p l e ({ frames := 0, cells := 0, slots := 0, locals := 0 }) s m args below meth c H locs 0 0 Q (F0 m 6 ls [])) → ∀ n : Nat, ∀ (a3_v : Nat → Int32) (x4 : Int32) (x5 : Int32) (x6 : Int32) (H : Heap) (locs : List Loc) (ls : Array Slot), va_P (dC, dI) fb_cl [(a2, .inl (a2_c, a2_n, .inl a2_v)), (a3, .inl (a3_c, a3_n, .inl a3_v))] H → va_D A [(a2, .inl (a2_c, a2_n, .inl a2_v)), (a3, .inl (a3_c, a3_n, .inl a3_v))] → va_S A s.heap H locs → lv_has ls 7 [(1, .int x1), (2, .ref a2), (3, .ref a3), (4, .int x4), (5, .int x5), (6, .int x6)] → pX11_findCodes_b16 a2_n a3_n a2_v x1 K6 n a3_v x4 x5 x6 = some u → W p l e ({ frames := 0, cells := 0, slots := 0, locals := 0 }) s m args below meth c H locs 0 0 Q (F0 m 16 ls []) := by
    intro K6 hK6 n
    induction n with
    | zero => intro a3_v x4 x5 x6 H locs ls hP hD hS hl h; cases h
    | succ n ih =>
      intro a3_v x4 x5 x6 H locs ls hP hD hS hl h
      rw [pX11_findCodes_b16] at h
      refine lv_iload hx hb dX11_findCodes_16 (lv_at hl 5 rfl) ?_
      refine lv_iload_n hx hb dX11_findCodes_18 rfl (lv_at hl 0 rfl) ?_
      refine lv_icmp_ge (tgt := 46) hx hb dX11_findCodes_19 (by decide) (fun c1 => ?_) (fun c1 => ?_)
      · replace h := fb_t c1 h
        refine lv_iload hx hb dX11_findCodes_46 (lv_at hl 3 rfl) ?_
        refine lv_iconst (v := (2 : Int32)) hx hb dX11_findCodes_48 (by decide) ?_
        refine lv_imul hx hb dX11_findCodes_49 ?_
        refine lv_istore (lv' := [(4, .int (x4 * (2 : Int32))), (1, .int x1), (2, .ref a2), (3, .ref a3), (5, .int x5), (6, .int x6)]) hx hb dX11_findCodes_50 hl (by decide) rfl (fun ls hl => ?_)
        refine lv_iinc (v := (x5 + (1 : Int32))) (lv' := [(5, .int (x5 + (1 : Int32))), (4, .int (x4 * (2 : Int32))), (1, .int x1), (2, .ref a2), (3, .ref a3), (6, .int x6)]) hx hb dX11_findCodes_52 hl (k := 4) rfl rfl (by decide) rfl (fun ls hl => ?_)
        refine lv_goto (tgt := 6) hx hb dX11_findCodes_55 (by decide) ?_
        exact hK6 a3_v (x4 * (2 : Int32)) (x5 + (1 : Int32)) _ _ _ hP hD hS (lv_sub hl [2, 3, 4, 1, 0] rfl) h
      · replace h := fb_f c1 h
        refine lv_aload_n hx hb dX11_findCodes_22 rfl (lv_at hl 1 rfl) ?_
        refine lv_iload hx hb dX11_findCodes_23 (lv_at hl 5 rfl) ?_
        obtain ⟨g2, h⟩ := fb_g h
        refine va_iald hx hb hK hP 0 0 rfl rfl g2 dX11_findCodes_25 ?_
        refine lv_iload hx hb dX11_findCodes_26 (lv_at hl 4 rfl) ?_
        refine lv_icmp_ne (tgt := 40) hx hb dX11_findCodes_28 (by decide) (fun c3 => ?_) (fun c3 => ?_)
        · replace h := fb_f c3 h
          exact wB40 (pX11_findCodes_b16 a2_n a3_n a2_v x1 K6 n) ih a3_v x4 x5 x6 _ _ _ hP hD hS (lv_sub hl [0, 1, 2, 3, 4, 5] rfl) h
        · replace h := fb_t c3 h
          refine lv_aload_n hx hb dX11_findCodes_31 rfl (lv_at hl 2 rfl) ?_
          refine lv_iload hx hb dX11_findCodes_32 (lv_at hl 5 rfl) ?_
          refine lv_iload hx hb dX11_findCodes_34 (lv_at hl 3 rfl) ?_
          obtain ⟨g4, h⟩ := fb_g h
          refine va_iast hx hb hK hP hD hS 1 1 rfl rfl g4 dX11_findCodes_36 (fun H locs hP hD hS => ?_)
          replace hP : va_P (dC, dI) fb_cl [(a2, .inl (a2_c, a2_n, .inl a2_v)), (a3, .inl (a3_c, a3_n, .inl (upd a3_v (x6).toNatClampNeg x4)))] H := hP
          replace hD : va_D A [(a2, .inl (a2_c, a2_n, .inl a2_v)), (a3, .inl (a3_c, a3_n, .inl (upd a3_v (x6).toNatClampNeg x4)))] := hD
          refine lv_iinc (v := (x4 + (1 : Int32))) (lv' := [(4, .int (x4 + (1 : Int32))), (1, .int x1), (2, .ref a2), (3, .ref a3), (5, .int x5), (6, .int x6)]) hx hb dX11_findCodes_37 hl (k := 3) rfl rfl (by decide) rfl (fun ls hl => ?_)
          exact wB40 (pX11_findCodes_b16 a2_n a3_n a2_v x1 K6 n) ih (upd a3_v (x6).toNatClampNeg x4) (x4 + (1 : Int32)) x5 x6 _ _ _ hP hD hS (lv_sub hl [1, 2, 3, 0, 4, 5] rfl) h
  have wB6 : ∀ n : Nat, ∀ (a3_v : Nat → Int32) (x4 : Int32) (x5 : Int32) (H : Heap) (locs : List Loc) (ls : Array Slot), va_P (dC, dI) fb_cl [(a2, .inl (a2_c, a2_n, .inl a2_v)), (a3, .inl (a3_c, a3_n, .inl a3_v))] H → va_D A [(a2, .inl (a2_c, a2_n, .inl a2_v)), (a3, .inl (a3_c, a3_n, .inl a3_v))] → va_S A s.heap H locs → lv_has ls 7 [(1, .int x1), (2, .ref a2), (3, .ref a3), (4, .int x4), (5, .int x5)] → pX11_findCodes_b6 a2_n a3_n a2_v x1 n a3_v x4 x5 = some u → W p l e ({ frames := 0, cells := 0, slots := 0, locals := 0 }) s m args below meth c H locs 0 0 Q (F0 m 6 ls []) := by
    intro n
    induction n with
    | zero => intro a3_v x4 x5 H locs ls hP hD hS hl h; cases h
    | succ n ih =>
      intro a3_v x4 x5 H locs ls hP hD hS hl h
      rw [pX11_findCodes_b6] at h
      refine lv_iload hx hb dX11_findCodes_6 (lv_at hl 4 rfl) ?_
      refine lv_bipush (v := (15 : Int32)) hx hb dX11_findCodes_8 (by decide) ?_
      refine lv_icmp_gt (tgt := 58) hx hb dX11_findCodes_10 (by decide) (fun c5 => ?_) (fun c5 => ?_)
      · replace h := fb_t c5 h
        have hu := Option.some.inj h
        exact hret _ _ _ _ dX11_findCodes_58 (by rw [← hu]; exact hP) (by rw [← hu]; exact hD) hS
      · replace h := fb_f c5 h
        refine lv_iconst (v := (0 : Int32)) hx hb dX11_findCodes_13 (by decide) ?_
        refine lv_istore (lv' := [(6, .int (0 : Int32)), (1, .int x1), (2, .ref a2), (3, .ref a3), (4, .int x4), (5, .int x5)]) hx hb dX11_findCodes_14 hl (by decide) rfl (fun ls hl => ?_)
        exact wB16 (pX11_findCodes_b6 a2_n a3_n a2_v x1 n) ih fb_F a3_v x4 x5 (0 : Int32) _ _ _ hP hD hS (lv_sub hl [1, 2, 3, 4, 5, 0] rfl) h
  unfold pX11_findCodes at h
  refine lv_iconst (v := (0 : Int32)) hx hb dX11_findCodes_0 (by decide) ?_
  refine lv_istore (lv' := [(4, .int (0 : Int32)), (0, .ref o), (1, .int x1), (2, .ref a2), (3, .ref a3)]) hx hb dX11_findCodes_1 hl (by decide) rfl (fun ls hl => ?_)
  refine lv_iconst (v := (1 : Int32)) hx hb dX11_findCodes_3 (by decide) ?_
  refine lv_istore (lv' := [(5, .int (1 : Int32)), (4, .int (0 : Int32)), (0, .ref o), (1, .int x1), (2, .ref a2), (3, .ref a3)]) hx hb dX11_findCodes_4 hl (by decide) rfl (fun ls hl => ?_)
  exact wB6 fb_F a3_v (0 : Int32) (1 : Int32) _ _ _ hP hD hS (lv_sub hl [3, 4, 5, 1, 0] rfl) h
theorem dX11_clearOften_0 : decode cX11_clearOften 0 = .ok (.iconst 0, 1) := by decide +kernel
theorem dX11_clearOften_1 : decode cX11_clearOften 1 = .ok (.istore_n 1, 1) := by decide +kernel
theorem dX11_clearOften_2 : decode cX11_clearOften 2 = .ok (.iload_n 1, 1) := by decide +kernel
theorem dX11_clearOften_3 : decode cX11_clearOften 3 = .ok (.sipush 288, 3) := by decide +kernel
theorem dX11_clearOften_6 : decode cX11_clearOften 6 = .ok (.if_icmp .ge 16, 3) := by decide +kernel
theorem dX11_clearOften_9 : decode cX11_clearOften 9 = .ok (.aload_n 0, 1) := by decide +kernel
theorem dX11_clearOften_10 : decode cX11_clearOften 10 = .ok (.getfield 36, 3) := by decide +kernel
theorem dX11_clearOften_13 : decode cX11_clearOften 13 = .ok (.iload_n 1, 1) := by decide +kernel
theorem dX11_clearOften_14 : decode cX11_clearOften 14 = .ok (.iconst 0, 1) := by decide +kernel
theorem dX11_clearOften_15 : decode cX11_clearOften 15 = .ok (.iastore, 1) := by decide +kernel
theorem dX11_clearOften_16 : decode cX11_clearOften 16 = .ok (.iinc 1 1, 3) := by decide +kernel
theorem dX11_clearOften_19 : decode cX11_clearOften 19 = .ok (.goto (-17), 3) := by decide +kernel
theorem dX11_clearOften_22 : decode cX11_clearOften 22 = .ok (.return_, 1) := by decide +kernel
def pX11_clearOften_b2 (o_often_n : Nat)  : Nat → (Nat → Int32) → Int32 → Option ((Nat → Int32))
  | 0 => fun _ _ => none
  | n + 1 => fun o_often_v x1 =>
  if (288 : Int32) ≤ x1 then
  (some (o_often_v))
  else
  (if x1 < 0 ∨ o_often_n ≤ (x1).toNatClampNeg then none else
  (pX11_clearOften_b2 o_often_n n) (upd o_often_v (x1).toNatClampNeg (0 : Int32)) (x1 + (1 : Int32)))
def pX11_clearOften (o_often_n : Nat)  (o_often_v : Nat → Int32) : Option ((Nat → Int32)) :=
  pX11_clearOften_b2 o_often_n fb_F o_often_v (0 : Int32)
theorem hdX11_clearOften : yX11_clearOften.cls = RX11 ∧ yX11_clearOften.cls ≠ "java/lang/invoke/MethodHandle" ∧ yX11_clearOften.cls ≠ "java/lang/invoke/VarHandle" ∧ (parseMethodDescriptor yX11_clearOften.desc).map (fun d => d.parameters.length) = some 0 := by decide +kernel
set_option maxHeartbeats 8000000 in
set_option maxRecDepth 100000 in
theorem mX11_clearOften (l : Launch) (dC : Nat → ClassId) (dI : Nat → Nat → Nat) (o : Nat) (o_often : Nat) (o_text : Nat) (o_packed : Nat) (o_loaded : Nat) (o_out : Nat) (o_lengths : Nat) (o_distances : Nat) (o_heads : Nat) (o_earlier : Nat) (o_symbolLengths : Nat) (o_distanceLengths : Nat) (o_lengthLengths : Nat) (o_symbolCodes : Nat) (o_distanceCodes : Nat) (o_lengthCodes : Nat) (o_counts : Nat) (o_parents : Nat) (o_alone : Nat) (o_row : Nat) (o_toldSymbols : Nat) (o_toldNumbers : Nat) (o_often_c : ClassId) (o_often_n : Nat) (o_textRoom : Int32) (o_byteRoom : Int32) (o_chain : Int32) (o_textSize : Int32) (o_packedSize : Int32) (o_matches : Int32) (o_loadedSize : Int32) (o_outSize : Int32) (o_bits : Int32) (o_tokens : Int32) (o_told : Int32) (o_place : Int32) (o_fail : Int32) (o_found : Int32) (o_symbolCount : Int32) (o_distanceCount : Int32) (o_lengthCount : Int32) (o_often_v : Nat → Int32)  (sz : Nat) (u : (Nat → Int32)) (h : pX11_clearOften o_often_n o_often_v = some u) : Met l yX11_clearOften (Cond.code yX11_clearOften cX11_clearOften 2 none :: fb_tb) ({ frames := 0, cells := 0, slots := 0, locals := 0 }) (fb_Pc (dC, dI) [.ref o] sz [(o_often_c, .int)] [(o, .inr (11, [.int o_textRoom, .int o_byteRoom, .int o_chain, .ref o_text, .int o_textSize, .ref o_packed, .int o_packedSize, .int o_matches, .ref o_loaded, .int o_loadedSize, .ref o_out, .int o_outSize, .int o_bits, .int o_tokens, .ref o_lengths, .ref o_distances, .ref o_heads, .ref o_earlier, .ref o_often, .ref o_symbolLengths, .ref o_distanceLengths, .ref o_lengthLengths, .ref o_symbolCodes, .ref o_distanceCodes, .ref o_lengthCodes, .ref o_counts, .ref o_parents, .ref o_alone, .ref o_row, .int o_told, .ref o_toldSymbols, .ref o_toldNumbers, .int o_place, .int o_fail, .int o_found, .int o_symbolCount, .int o_distanceCount, .int o_lengthCount])), (o_often, .inl (o_often_c, o_often_n, .inl o_often_v))]) (fb_Qv (dC, dI) [(o, .inr (11, [.int o_textRoom, .int o_byteRoom, .int o_chain, .ref o_text, .int o_textSize, .ref o_packed, .int o_packedSize, .int o_matches, .ref o_loaded, .int o_loadedSize, .ref o_out, .int o_outSize, .int o_bits, .int o_tokens, .ref o_lengths, .ref o_distances, .ref o_heads, .ref o_earlier, .ref o_often, .ref o_symbolLengths, .ref o_distanceLengths, .ref o_lengthLengths, .ref o_symbolCodes, .ref o_distanceCodes, .ref o_lengthCodes, .ref o_counts, .ref o_parents, .ref o_alone, .ref o_row, .int o_told, .ref o_toldSymbols, .ref o_toldNumbers, .int o_place, .int o_fail, .int o_found, .int o_symbolCount, .int o_distanceCount, .int o_lengthCount])), (o_often, .inl (o_often_c, o_often_n, .inl u))] (va_A [(o, .inr (11, [.int o_textRoom, .int o_byteRoom, .int o_chain, .ref o_text, .int o_textSize, .ref o_packed, .int o_packedSize, .int o_matches, .ref o_loaded, .int o_loadedSize, .ref o_out, .int o_outSize, .int o_bits, .int o_tokens, .ref o_lengths, .ref o_distances, .ref o_heads, .ref o_earlier, .ref o_often, .ref o_symbolLengths, .ref o_distanceLengths, .ref o_lengthLengths, .ref o_symbolCodes, .ref o_distanceCodes, .ref o_lengthCodes, .ref o_counts, .ref o_parents, .ref o_alone, .ref o_row, .int o_told, .ref o_toldSymbols, .ref o_toldNumbers, .int o_place, .int o_fail, .int o_found, .int o_symbolCount, .int o_distanceCount, .int o_lengthCount])), (o_often, .inl (o_often_c, o_often_n, .inl o_often_v))] sz)) 0 0 (va_A [(o, .inr (11, [.int o_textRoom, .int o_byteRoom, .int o_chain, .ref o_text, .int o_textSize, .ref o_packed, .int o_packedSize, .int o_matches, .ref o_loaded, .int o_loadedSize, .ref o_out, .int o_outSize, .int o_bits, .int o_tokens, .ref o_lengths, .ref o_distances, .ref o_heads, .ref o_earlier, .ref o_often, .ref o_symbolLengths, .ref o_distanceLengths, .ref o_lengthLengths, .ref o_symbolCodes, .ref o_distanceCodes, .ref o_lengthCodes, .ref o_counts, .ref o_parents, .ref o_alone, .ref o_row, .int o_told, .ref o_toldSymbols, .ref o_toldNumbers, .int o_place, .int o_fail, .int o_found, .int o_symbolCount, .int o_distanceCount, .int o_lengthCount])), (o_often, .inl (o_often_c, o_often_n, .inl o_often_v))] sz) := by
  refine fb_metv (by decide) (Nat.le_of_ble_eq_true rfl) (fun p e s m args below meth c A Q ls H hx hb hml hown hts hP hK hN hZ hD hA hS hret hl => ?_)
  replace hl : lv_has ls 2 [(0, .ref o)] := hl
  have wB2 : ∀ n : Nat, ∀ (o_often_v : Nat → Int32) (x1 : Int32) (H : Heap) (locs : List Loc) (ls : Array Slot), va_P (dC, dI) fb_cl [(o, .inr (11, [.int o_textRoom, .int o_byteRoom, .int o_chain, .ref o_text, .int o_textSize, .ref o_packed, .int o_packedSize, .int o_matches, .ref o_loaded, .int o_loadedSize, .ref o_out, .int o_outSize, .int o_bits, .int o_tokens, .ref o_lengths, .ref o_distances, .ref o_heads, .ref o_earlier, .ref o_often, .ref o_symbolLengths, .ref o_distanceLengths, .ref o_lengthLengths, .ref o_symbolCodes, .ref o_distanceCodes, .ref o_lengthCodes, .ref o_counts, .ref o_parents, .ref o_alone, .ref o_row, .int o_told, .ref o_toldSymbols, .ref o_toldNumbers, .int o_place, .int o_fail, .int o_found, .int o_symbolCount, .int o_distanceCount, .int o_lengthCount])), (o_often, .inl (o_often_c, o_often_n, .inl o_often_v))] H → va_D A [(o, .inr (11, [.int o_textRoom, .int o_byteRoom, .int o_chain, .ref o_text, .int o_textSize, .ref o_packed, .int o_packedSize, .int o_matches, .ref o_loaded, .int o_loadedSize, .ref o_out, .int o_outSize, .int o_bits, .int o_tokens, .ref o_lengths, .ref o_distances, .ref o_heads, .ref o_earlier, .ref o_often, .ref o_symbolLengths, .ref o_distanceLengths, .ref o_lengthLengths, .ref o_symbolCodes, .ref o_distanceCodes, .ref o_lengthCodes, .ref o_counts, .ref o_parents, .ref o_alone, .ref o_row, .int o_told, .ref o_toldSymbols, .ref o_toldNumbers, .int o_place, .int o_fail, .int o_found, .int o_symbolCount, .int o_distanceCount, .int o_lengthCount])), (o_often, .inl (o_often_c, o_often_n, .inl o_often_v))] → va_S A s.heap H locs → lv_has ls 2 [(0, .ref o), (1, .int x1)] → pX11_clearOften_b2 o_often_n n o_often_v x1 = some u → W p l e ({ frames := 0, cells := 0, slots := 0, locals := 0 }) s m args below meth c H locs 0 0 Q (F0 m 2 ls []) := by
    intro n
    induction n with
    | zero => intro o_often_v x1 H locs ls hP hD hS hl h; cases h
    | succ n ih =>
      intro o_often_v x1 H locs ls hP hD hS hl h
      rw [pX11_clearOften_b2] at h
      refine lv_iload_n hx hb dX11_clearOften_2 rfl (lv_at hl 1 rfl) ?_
      refine lv_sipush (v := (288 : Int32)) hx hb dX11_clearOften_3 (by decide) ?_
      refine lv_icmp_ge (tgt := 22) hx hb dX11_clearOften_6 (by decide) (fun c1 => ?_) (fun c1 => ?_)
      · replace h := fb_t c1 h
        have hu := Option.some.inj h
        exact hret _ _ _ _ dX11_clearOften_22 (by rw [← hu]; exact hP) (by rw [← hu]; exact hD) hS
      · replace h := fb_f c1 h
        refine lv_aload_n hx hb dX11_clearOften_9 rfl (lv_at hl 0 rfl) ?_
        refine va_get (D := (dC, dI)) (ci := 11) (v := .ref o_often) (C := RX11) (T := TX11) (N := 38) hx hb hts i_X11 hown hK hP 0 rfl rfl 18 (by decide) (hts _ k_860) (fun _ h9 => h9) rfl dX11_clearOften_10 ?_
        refine lv_iload_n hx hb dX11_clearOften_13 rfl (lv_at hl 1 rfl) ?_
        refine lv_iconst (v := (0 : Int32)) hx hb dX11_clearOften_14 (by decide) ?_
        obtain ⟨g2, h⟩ := fb_g h
        refine va_iast hx hb hK hP hD hS 1 0 rfl rfl g2 dX11_clearOften_15 (fun H locs hP hD hS => ?_)
        replace hP : va_P (dC, dI) fb_cl [(o, .inr (11, [.int o_textRoom, .int o_byteRoom, .int o_chain, .ref o_text, .int o_textSize, .ref o_packed, .int o_packedSize, .int o_matches, .ref o_loaded, .int o_loadedSize, .ref o_out, .int o_outSize, .int o_bits, .int o_tokens, .ref o_lengths, .ref o_distances, .ref o_heads, .ref o_earlier, .ref o_often, .ref o_symbolLengths, .ref o_distanceLengths, .ref o_lengthLengths, .ref o_symbolCodes, .ref o_distanceCodes, .ref o_lengthCodes, .ref o_counts, .ref o_parents, .ref o_alone, .ref o_row, .int o_told, .ref o_toldSymbols, .ref o_toldNumbers, .int o_place, .int o_fail, .int o_found, .int o_symbolCount, .int o_distanceCount, .int o_lengthCount])), (o_often, .inl (o_often_c, o_often_n, .inl (upd o_often_v (x1).toNatClampNeg (0 : Int32))))] H := hP
        replace hD : va_D A [(o, .inr (11, [.int o_textRoom, .int o_byteRoom, .int o_chain, .ref o_text, .int o_textSize, .ref o_packed, .int o_packedSize, .int o_matches, .ref o_loaded, .int o_loadedSize, .ref o_out, .int o_outSize, .int o_bits, .int o_tokens, .ref o_lengths, .ref o_distances, .ref o_heads, .ref o_earlier, .ref o_often, .ref o_symbolLengths, .ref o_distanceLengths, .ref o_lengthLengths, .ref o_symbolCodes, .ref o_distanceCodes, .ref o_lengthCodes, .ref o_counts, .ref o_parents, .ref o_alone, .ref o_row, .int o_told, .ref o_toldSymbols, .ref o_toldNumbers, .int o_place, .int o_fail, .int o_found, .int o_symbolCount, .int o_distanceCount, .int o_lengthCount])), (o_often, .inl (o_often_c, o_often_n, .inl (upd o_often_v (x1).toNatClampNeg (0 : Int32))))] := hD
        refine lv_iinc (v := (x1 + (1 : Int32))) (lv' := [(1, .int (x1 + (1 : Int32))), (0, .ref o)]) hx hb dX11_clearOften_16 hl (k := 1) rfl rfl (by decide) rfl (fun ls hl => ?_)
        refine lv_goto (tgt := 2) hx hb dX11_clearOften_19 (by decide) ?_
        exact ih (upd o_often_v (x1).toNatClampNeg (0 : Int32)) (x1 + (1 : Int32)) _ _ _ hP hD hS (lv_sub hl [1, 0] rfl) h
  unfold pX11_clearOften at h
  refine lv_iconst (v := (0 : Int32)) hx hb dX11_clearOften_0 (by decide) ?_
  refine lv_istore_n (lv' := [(1, .int (0 : Int32)), (0, .ref o)]) hx hb dX11_clearOften_1 rfl hl (by decide) rfl (fun ls hl => ?_)
  exact wB2 fb_F o_often_v (0 : Int32) _ _ _ hP hD hS (lv_sub hl [1, 0] rfl) h
theorem dX11_lastOf_0 : decode cX11_lastOf 0 = .ok (.iload_n 1, 1) := by decide +kernel
theorem dX11_lastOf_1 : decode cX11_lastOf 1 = .ok (.iconst 1, 1) := by decide +kernel
theorem dX11_lastOf_2 : decode cX11_lastOf 2 = .ok (.isub, 1) := by decide +kernel
theorem dX11_lastOf_3 : decode cX11_lastOf 3 = .ok (.istore_n 2, 1) := by decide +kernel
theorem dX11_lastOf_4 : decode cX11_lastOf 4 = .ok (.iload_n 2, 1) := by decide +kernel
theorem dX11_lastOf_5 : decode cX11_lastOf 5 = .ok (.ifCond .le 15, 3) := by decide +kernel
theorem dX11_lastOf_8 : decode cX11_lastOf 8 = .ok (.aload_n 0, 1) := by decide +kernel
theorem dX11_lastOf_9 : decode cX11_lastOf 9 = .ok (.iload_n 2, 1) := by decide +kernel
theorem dX11_lastOf_10 : decode cX11_lastOf 10 = .ok (.iaload, 1) := by decide +kernel
theorem dX11_lastOf_11 : decode cX11_lastOf 11 = .ok (.ifCond .ne 9, 3) := by decide +kernel
theorem dX11_lastOf_14 : decode cX11_lastOf 14 = .ok (.iinc 2 (-1), 3) := by decide +kernel
theorem dX11_lastOf_17 : decode cX11_lastOf 17 = .ok (.goto (-13), 3) := by decide +kernel
theorem dX11_lastOf_20 : decode cX11_lastOf 20 = .ok (.iload_n 2, 1) := by decide +kernel
theorem dX11_lastOf_21 : decode cX11_lastOf 21 = .ok (.ireturn, 1) := by decide +kernel
def pX11_lastOf_b20   (x2 : Int32) : Option (Int32) :=
  some (x2)
def pX11_lastOf_b4 (a0_n : Nat) (a0_v : Nat → Int32)  : Nat → Int32 → Option (Int32)
  | 0 => fun _ => none
  | n + 1 => fun x2 =>
  if x2 ≤ 0 then
  (pX11_lastOf_b20 x2)
  else
  (if x2 < 0 ∨ a0_n ≤ (x2).toNatClampNeg then none else
  if (a0_v (x2).toNatClampNeg) = 0 then
  ((pX11_lastOf_b4 a0_n a0_v n) (x2 + (-1 : Int32)))
  else
  (pX11_lastOf_b20 x2))
def pX11_lastOf (a0_n : Nat) (a0_v : Nat → Int32) (x1 : Int32)   : Option (Int32) :=
  pX11_lastOf_b4 a0_n a0_v fb_F (x1 - (1 : Int32))
theorem hdX11_lastOf : yX11_lastOf.cls ≠ "java/lang/invoke/MethodHandle" ∧ yX11_lastOf.cls ≠ "java/lang/invoke/VarHandle" ∧ (parseMethodDescriptor yX11_lastOf.desc).map (fun d => d.parameters.length) = some 2 := by decide +kernel
set_option maxHeartbeats 8000000 in
set_option maxRecDepth 100000 in
theorem mX11_lastOf (l : Launch) (dC : Nat → ClassId) (dI : Nat → Nat → Nat) (a0 : Nat) (a0_c : ClassId) (a0_n : Nat) (a0_v : Nat → Int32) (x1 : Int32) (sz : Nat) (u : Int32) (h : pX11_lastOf a0_n a0_v x1 = some u) : Met l yX11_lastOf (Cond.code yX11_lastOf cX11_lastOf 3 (some .int) :: fb_tb) ({ frames := 0, cells := 0, slots := 0, locals := 0 }) (fb_Pc (dC, dI) [.ref a0, .int x1] sz [(a0_c, .int)] [(a0, .inl (a0_c, a0_n, .inl a0_v))]) (fb_Qi (dC, dI) u [(a0, .inl (a0_c, a0_n, .inl a0_v))] (va_A [(a0, .inl (a0_c, a0_n, .inl a0_v))] sz)) 0 0 (va_A [(a0, .inl (a0_c, a0_n, .inl a0_v))] sz) := by
  refine fb_meti (ty := .int) (by decide) (Nat.le_of_ble_eq_true rfl) (fun p e s m args below meth c A Q ls H hx hb hml hown hts hP hK hN hZ hD hA hS hret hl => ?_)
  replace hl : lv_has ls 3 [(0, .ref a0), (1, .int x1)] := hl
  have wB20 : ∀ (x2 : Int32) (H : Heap) (locs : List Loc) (ls : Array Slot), va_P (dC, dI) fb_cl [(a0, .inl (a0_c, a0_n, .inl a0_v))] H → va_D A [(a0, .inl (a0_c, a0_n, .inl a0_v))] → va_S A s.heap H locs → lv_has ls 3 [(2, .int x2)] → pX11_lastOf_b20 x2 = some u → W p l e ({ frames := 0, cells := 0, slots := 0, locals := 0 }) s m args below meth c H locs 0 0 Q (F0 m 20 ls []) := by
    intro  x2 H locs ls hP hD hS hl h
    unfold pX11_lastOf_b20 at h
    refine lv_iload_n hx hb dX11_lastOf_20 rfl (lv_at hl 0 rfl) ?_
    have hu := Option.some.inj h
    exact hret _ _ _ _ _ dX11_lastOf_21 rfl (by rw [← hu]) hP hD hS
  have wB4 : ∀ n : Nat, ∀ (x2 : Int32) (H : Heap) (locs : List Loc) (ls : Array Slot), va_P (dC, dI) fb_cl [(a0, .inl (a0_c, a0_n, .inl a0_v))] H → va_D A [(a0, .inl (a0_c, a0_n, .inl a0_v))] → va_S A s.heap H locs → lv_has ls 3 [(0, .ref a0), (2, .int x2)] → pX11_lastOf_b4 a0_n a0_v n x2 = some u → W p l e ({ frames := 0, cells := 0, slots := 0, locals := 0 }) s m args below meth c H locs 0 0 Q (F0 m 4 ls []) := by
    intro n
    induction n with
    | zero => intro x2 H locs ls hP hD hS hl h; cases h
    | succ n ih =>
      intro x2 H locs ls hP hD hS hl h
      rw [pX11_lastOf_b4] at h
      refine lv_iload_n hx hb dX11_lastOf_4 rfl (lv_at hl 1 rfl) ?_
      refine lv_if_le (tgt := 20) hx hb dX11_lastOf_5 (by decide) (fun c1 => ?_) (fun c1 => ?_)
      · replace h := fb_t c1 h
        exact wB20 x2 _ _ _ hP hD hS (lv_sub hl [1] rfl) h
      · replace h := fb_f c1 h
        refine lv_aload_n hx hb dX11_lastOf_8 rfl (lv_at hl 0 rfl) ?_
        refine lv_iload_n hx hb dX11_lastOf_9 rfl (lv_at hl 1 rfl) ?_
        obtain ⟨g2, h⟩ := fb_g h
        refine va_iald hx hb hK hP 0 0 rfl rfl g2 dX11_lastOf_10 ?_
        refine lv_if_ne (tgt := 20) hx hb dX11_lastOf_11 (by decide) (fun c3 => ?_) (fun c3 => ?_)
        · replace h := fb_f c3 h
          exact wB20 x2 _ _ _ hP hD hS (lv_sub hl [1] rfl) h
        · replace h := fb_t c3 h
          refine lv_iinc (v := (x2 + (-1 : Int32))) (lv' := [(2, .int (x2 + (-1 : Int32))), (0, .ref a0)]) hx hb dX11_lastOf_14 hl (k := 1) rfl rfl (by decide) rfl (fun ls hl => ?_)
          refine lv_goto (tgt := 4) hx hb dX11_lastOf_17 (by decide) ?_
          exact ih (x2 + (-1 : Int32)) _ _ _ hP hD hS (lv_sub hl [1, 0] rfl) h
  unfold pX11_lastOf at h
  refine lv_iload_n hx hb dX11_lastOf_0 rfl (lv_at hl 1 rfl) ?_
  refine lv_iconst (v := (1 : Int32)) hx hb dX11_lastOf_1 (by decide) ?_
  refine lv_isub hx hb dX11_lastOf_2 ?_
  refine lv_istore_n (lv' := [(2, .int (x1 - (1 : Int32))), (0, .ref a0), (1, .int x1)]) hx hb dX11_lastOf_3 rfl hl (by decide) rfl (fun ls hl => ?_)
  exact wB4 fb_F (x1 - (1 : Int32)) _ _ _ hP hD hS (lv_sub hl [1, 0] rfl) h
theorem dX11_orderOf_0 : decode cX11_orderOf 0 = .ok (.iload_n 0, 1) := by decide +kernel
theorem dX11_orderOf_1 : decode cX11_orderOf 1 = .ok (.iconst 3, 1) := by decide +kernel
theorem dX11_orderOf_2 : decode cX11_orderOf 2 = .ok (.if_icmp .ge 10, 3) := by decide +kernel
theorem dX11_orderOf_5 : decode cX11_orderOf 5 = .ok (.bipush 16, 2) := by decide +kernel
theorem dX11_orderOf_7 : decode cX11_orderOf 7 = .ok (.iload_n 0, 1) := by decide +kernel
theorem dX11_orderOf_8 : decode cX11_orderOf 8 = .ok (.iadd, 1) := by decide +kernel
theorem dX11_orderOf_9 : decode cX11_orderOf 9 = .ok (.goto 33, 3) := by decide +kernel
theorem dX11_orderOf_12 : decode cX11_orderOf 12 = .ok (.iload_n 0, 1) := by decide +kernel
theorem dX11_orderOf_13 : decode cX11_orderOf 13 = .ok (.iconst 3, 1) := by decide +kernel
theorem dX11_orderOf_14 : decode cX11_orderOf 14 = .ok (.if_icmp .ne 7, 3) := by decide +kernel
theorem dX11_orderOf_17 : decode cX11_orderOf 17 = .ok (.iconst 0, 1) := by decide +kernel
theorem dX11_orderOf_18 : decode cX11_orderOf 18 = .ok (.goto 24, 3) := by decide +kernel
theorem dX11_orderOf_21 : decode cX11_orderOf 21 = .ok (.iload_n 0, 1) := by decide +kernel
theorem dX11_orderOf_22 : decode cX11_orderOf 22 = .ok (.iconst 2, 1) := by decide +kernel
theorem dX11_orderOf_23 : decode cX11_orderOf 23 = .ok (.irem, 1) := by decide +kernel
theorem dX11_orderOf_24 : decode cX11_orderOf 24 = .ok (.ifCond .ne 12, 3) := by decide +kernel
theorem dX11_orderOf_27 : decode cX11_orderOf 27 = .ok (.bipush 6, 2) := by decide +kernel
theorem dX11_orderOf_29 : decode cX11_orderOf 29 = .ok (.iload_n 0, 1) := by decide +kernel
theorem dX11_orderOf_30 : decode cX11_orderOf 30 = .ok (.iconst 2, 1) := by decide +kernel
theorem dX11_orderOf_31 : decode cX11_orderOf 31 = .ok (.idiv, 1) := by decide +kernel
theorem dX11_orderOf_32 : decode cX11_orderOf 32 = .ok (.iadd, 1) := by decide +kernel
theorem dX11_orderOf_33 : decode cX11_orderOf 33 = .ok (.goto 9, 3) := by decide +kernel
theorem dX11_orderOf_36 : decode cX11_orderOf 36 = .ok (.bipush 9, 2) := by decide +kernel
theorem dX11_orderOf_38 : decode cX11_orderOf 38 = .ok (.iload_n 0, 1) := by decide +kernel
theorem dX11_orderOf_39 : decode cX11_orderOf 39 = .ok (.iconst 2, 1) := by decide +kernel
theorem dX11_orderOf_40 : decode cX11_orderOf 40 = .ok (.idiv, 1) := by decide +kernel
theorem dX11_orderOf_41 : decode cX11_orderOf 41 = .ok (.isub, 1) := by decide +kernel
theorem dX11_orderOf_42 : decode cX11_orderOf 42 = .ok (.ireturn, 1) := by decide +kernel
def pX11_orderOf (x0 : Int32)   : Option (Int32) :=
  if (3 : Int32) ≤ x0 then
  (if x0 = (3 : Int32) then
  (some ((0 : Int32)))
  else
  (if (x0 - x0 / (2 : Int32) * (2 : Int32)) = 0 then
  (some (((6 : Int32) + (x0 / (2 : Int32)))))
  else
  (some (((9 : Int32) - (x0 / (2 : Int32)))))))
  else
  (some (((16 : Int32) + x0)))
theorem hdX11_orderOf : yX11_orderOf.cls ≠ "java/lang/invoke/MethodHandle" ∧ yX11_orderOf.cls ≠ "java/lang/invoke/VarHandle" ∧ (parseMethodDescriptor yX11_orderOf.desc).map (fun d => d.parameters.length) = some 1 := by decide +kernel
set_option maxHeartbeats 8000000 in
set_option maxRecDepth 100000 in
theorem mX11_orderOf (l : Launch) (dC : Nat → ClassId) (dI : Nat → Nat → Nat)     (x0 : Int32) (sz : Nat) (u : Int32) (h : pX11_orderOf x0 = some u) : Met l yX11_orderOf (Cond.code yX11_orderOf cX11_orderOf 1 (some .int) :: fb_tb) ({ frames := 0, cells := 0, slots := 0, locals := 0 }) (fb_Pc (dC, dI) [.int x0] sz [] []) (fb_Qi (dC, dI) u [] (va_A [] sz)) 0 0 (va_A [] sz) := by
  refine fb_meti (ty := .int) (by decide) (Nat.le_of_ble_eq_true rfl) (fun p e s m args below meth c A Q ls H hx hb hml hown hts hP hK hN hZ hD hA hS hret hl => ?_)
  replace hl : lv_has ls 1 [(0, .int x0)] := hl
  unfold pX11_orderOf at h
  refine lv_iload_n hx hb dX11_orderOf_0 rfl (lv_at hl 0 rfl) ?_
  refine lv_iconst (v := (3 : Int32)) hx hb dX11_orderOf_1 (by decide) ?_
  refine lv_icmp_ge (tgt := 12) hx hb dX11_orderOf_2 (by decide) (fun c1 => ?_) (fun c1 => ?_)
  · replace h := fb_t c1 h
    refine lv_iload_n hx hb dX11_orderOf_12 rfl (lv_at hl 0 rfl) ?_
    refine lv_iconst (v := (3 : Int32)) hx hb dX11_orderOf_13 (by decide) ?_
    refine lv_icmp_ne (tgt := 21) hx hb dX11_orderOf_14 (by decide) (fun c2 => ?_) (fun c2 => ?_)
    · replace h := fb_f c2 h
      refine lv_iload_n hx hb dX11_orderOf_21 rfl (lv_at hl 0 rfl) ?_
      refine lv_iconst (v := (2 : Int32)) hx hb dX11_orderOf_22 (by decide) ?_
      refine lv_irem hx hb dX11_orderOf_23 (by decide) ?_
      refine lv_if_ne (tgt := 36) hx hb dX11_orderOf_24 (by decide) (fun c3 => ?_) (fun c3 => ?_)
      · replace h := fb_f c3 h
        refine lv_bipush (v := (9 : Int32)) hx hb dX11_orderOf_36 (by decide) ?_
        refine lv_iload_n hx hb dX11_orderOf_38 rfl (lv_at hl 0 rfl) ?_
        refine lv_iconst (v := (2 : Int32)) hx hb dX11_orderOf_39 (by decide) ?_
        refine lv_idiv hx hb dX11_orderOf_40 (by decide) ?_
        refine lv_isub hx hb dX11_orderOf_41 ?_
        have hu := Option.some.inj h
        exact hret _ _ _ _ _ dX11_orderOf_42 rfl (by rw [← hu]) hP hD hS
      · replace h := fb_t c3 h
        refine lv_bipush (v := (6 : Int32)) hx hb dX11_orderOf_27 (by decide) ?_
        refine lv_iload_n hx hb dX11_orderOf_29 rfl (lv_at hl 0 rfl) ?_
        refine lv_iconst (v := (2 : Int32)) hx hb dX11_orderOf_30 (by decide) ?_
        refine lv_idiv hx hb dX11_orderOf_31 (by decide) ?_
        refine lv_iadd hx hb dX11_orderOf_32 ?_
        refine lv_goto (tgt := 42) hx hb dX11_orderOf_33 (by decide) ?_
        have hu := Option.some.inj h
        exact hret _ _ _ _ _ dX11_orderOf_42 rfl (by rw [← hu]) hP hD hS
    · replace h := fb_t c2 h
      refine lv_iconst (v := (0 : Int32)) hx hb dX11_orderOf_17 (by decide) ?_
      refine lv_goto (tgt := 42) hx hb dX11_orderOf_18 (by decide) ?_
      have hu := Option.some.inj h
      exact hret _ _ _ _ _ dX11_orderOf_42 rfl (by rw [← hu]) hP hD hS
  · replace h := fb_f c1 h
    refine lv_bipush (v := (16 : Int32)) hx hb dX11_orderOf_5 (by decide) ?_
    refine lv_iload_n hx hb dX11_orderOf_7 rfl (lv_at hl 0 rfl) ?_
    refine lv_iadd hx hb dX11_orderOf_8 ?_
    refine lv_goto (tgt := 42) hx hb dX11_orderOf_9 (by decide) ?_
    have hu := Option.some.inj h
    exact hret _ _ _ _ _ dX11_orderOf_42 rfl (by rw [← hu]) hP hD hS
theorem dX11_tellOne_0 : decode cX11_tellOne 0 = .ok (.aload_n 0, 1) := by decide +kernel
theorem dX11_tellOne_1 : decode cX11_tellOne 1 = .ok (.getfield 70, 3) := by decide +kernel
theorem dX11_tellOne_4 : decode cX11_tellOne 4 = .ok (.aload_n 0, 1) := by decide +kernel
theorem dX11_tellOne_5 : decode cX11_tellOne 5 = .ok (.getfield 150, 3) := by decide +kernel
theorem dX11_tellOne_8 : decode cX11_tellOne 8 = .ok (.iload_n 1, 1) := by decide +kernel
theorem dX11_tellOne_9 : decode cX11_tellOne 9 = .ok (.iastore, 1) := by decide +kernel
theorem dX11_tellOne_10 : decode cX11_tellOne 10 = .ok (.aload_n 0, 1) := by decide +kernel
theorem dX11_tellOne_11 : decode cX11_tellOne 11 = .ok (.getfield 73, 3) := by decide +kernel
theorem dX11_tellOne_14 : decode cX11_tellOne 14 = .ok (.aload_n 0, 1) := by decide +kernel
theorem dX11_tellOne_15 : decode cX11_tellOne 15 = .ok (.getfield 150, 3) := by decide +kernel
theorem dX11_tellOne_18 : decode cX11_tellOne 18 = .ok (.iload_n 2, 1) := by decide +kernel
theorem dX11_tellOne_19 : decode cX11_tellOne 19 = .ok (.iastore, 1) := by decide +kernel
theorem dX11_tellOne_20 : decode cX11_tellOne 20 = .ok (.aload_n 0, 1) := by decide +kernel
theorem dX11_tellOne_21 : decode cX11_tellOne 21 = .ok (.dup, 1) := by decide +kernel
theorem dX11_tellOne_22 : decode cX11_tellOne 22 = .ok (.getfield 150, 3) := by decide +kernel
theorem dX11_tellOne_25 : decode cX11_tellOne 25 = .ok (.iconst 1, 1) := by decide +kernel
theorem dX11_tellOne_26 : decode cX11_tellOne 26 = .ok (.iadd, 1) := by decide +kernel
theorem dX11_tellOne_27 : decode cX11_tellOne 27 = .ok (.putfield 150, 3) := by decide +kernel
theorem dX11_tellOne_30 : decode cX11_tellOne 30 = .ok (.return_, 1) := by decide +kernel
def pX11_tellOne (o_toldSymbols_n : Nat) (o_toldNumbers_n : Nat) (x1 : Int32) (x2 : Int32)  (o_told : Int32) (o_toldSymbols_v : Nat → Int32) (o_toldNumbers_v : Nat → Int32) : Option (Int32 × (Nat → Int32) × (Nat → Int32)) :=
  if o_told < 0 ∨ o_toldSymbols_n ≤ (o_told).toNatClampNeg then none else
  if o_told < 0 ∨ o_toldNumbers_n ≤ (o_told).toNatClampNeg then none else
  some ((o_told + (1 : Int32)), (upd o_toldSymbols_v (o_told).toNatClampNeg x1), (upd o_toldNumbers_v (o_told).toNatClampNeg x2))
theorem hdX11_tellOne : yX11_tellOne.cls = RX11 ∧ yX11_tellOne.cls ≠ "java/lang/invoke/MethodHandle" ∧ yX11_tellOne.cls ≠ "java/lang/invoke/VarHandle" ∧ (parseMethodDescriptor yX11_tellOne.desc).map (fun d => d.parameters.length) = some 2 := by decide +kernel
set_option maxHeartbeats 8000000 in
set_option maxRecDepth 100000 in
theorem mX11_tellOne (l : Launch) (dC : Nat → ClassId) (dI : Nat → Nat → Nat) (o : Nat) (o_toldSymbols : Nat) (o_toldNumbers : Nat) (o_text : Nat) (o_packed : Nat) (o_loaded : Nat) (o_out : Nat) (o_lengths : Nat) (o_distances : Nat) (o_heads : Nat) (o_earlier : Nat) (o_often : Nat) (o_symbolLengths : Nat) (o_distanceLengths : Nat) (o_lengthLengths : Nat) (o_symbolCodes : Nat) (o_distanceCodes : Nat) (o_lengthCodes : Nat) (o_counts : Nat) (o_parents : Nat) (o_alone : Nat) (o_row : Nat) (o_toldSymbols_c : ClassId) (o_toldNumbers_c : ClassId) (o_toldSymbols_n : Nat) (o_toldNumbers_n : Nat) (o_textRoom : Int32) (o_byteRoom : Int32) (o_chain : Int32) (o_textSize : Int32) (o_packedSize : Int32) (o_matches : Int32) (o_loadedSize : Int32) (o_outSize : Int32) (o_bits : Int32) (o_tokens : Int32) (o_told : Int32) (o_place : Int32) (o_fail : Int32) (o_found : Int32) (o_symbolCount : Int32) (o_distanceCount : Int32) (o_lengthCount : Int32) (o_toldSymbols_v : Nat → Int32) (o_toldNumbers_v : Nat → Int32) (x1 : Int32) (x2 : Int32) (sz : Nat) (u : Int32 × (Nat → Int32) × (Nat → Int32)) (h : pX11_tellOne o_toldSymbols_n o_toldNumbers_n x1 x2 o_told o_toldSymbols_v o_toldNumbers_v = some u) : Met l yX11_tellOne (Cond.code yX11_tellOne cX11_tellOne 3 none :: fb_tb) ({ frames := 0, cells := 0, slots := 0, locals := 0 }) (fb_Pc (dC, dI) [.ref o, .int x1, .int x2] sz [(o_toldSymbols_c, .int), (o_toldNumbers_c, .int)] [(o, .inr (11, [.int o_textRoom, .int o_byteRoom, .int o_chain, .ref o_text, .int o_textSize, .ref o_packed, .int o_packedSize, .int o_matches, .ref o_loaded, .int o_loadedSize, .ref o_out, .int o_outSize, .int o_bits, .int o_tokens, .ref o_lengths, .ref o_distances, .ref o_heads, .ref o_earlier, .ref o_often, .ref o_symbolLengths, .ref o_distanceLengths, .ref o_lengthLengths, .ref o_symbolCodes, .ref o_distanceCodes, .ref o_lengthCodes, .ref o_counts, .ref o_parents, .ref o_alone, .ref o_row, .int o_told, .ref o_toldSymbols, .ref o_toldNumbers, .int o_place, .int o_fail, .int o_found, .int o_symbolCount, .int o_distanceCount, .int o_lengthCount])), (o_toldSymbols, .inl (o_toldSymbols_c, o_toldSymbols_n, .inl o_toldSymbols_v)), (o_toldNumbers, .inl (o_toldNumbers_c, o_toldNumbers_n, .inl o_toldNumbers_v))]) (fb_Qv (dC, dI) [(o, .inr (11, [.int o_textRoom, .int o_byteRoom, .int o_chain, .ref o_text, .int o_textSize, .ref o_packed, .int o_packedSize, .int o_matches, .ref o_loaded, .int o_loadedSize, .ref o_out, .int o_outSize, .int o_bits, .int o_tokens, .ref o_lengths, .ref o_distances, .ref o_heads, .ref o_earlier, .ref o_often, .ref o_symbolLengths, .ref o_distanceLengths, .ref o_lengthLengths, .ref o_symbolCodes, .ref o_distanceCodes, .ref o_lengthCodes, .ref o_counts, .ref o_parents, .ref o_alone, .ref o_row, .int u.1, .ref o_toldSymbols, .ref o_toldNumbers, .int o_place, .int o_fail, .int o_found, .int o_symbolCount, .int o_distanceCount, .int o_lengthCount])), (o_toldSymbols, .inl (o_toldSymbols_c, o_toldSymbols_n, .inl u.2.1)), (o_toldNumbers, .inl (o_toldNumbers_c, o_toldNumbers_n, .inl u.2.2))] (va_A [(o, .inr (11, [.int o_textRoom, .int o_byteRoom, .int o_chain, .ref o_text, .int o_textSize, .ref o_packed, .int o_packedSize, .int o_matches, .ref o_loaded, .int o_loadedSize, .ref o_out, .int o_outSize, .int o_bits, .int o_tokens, .ref o_lengths, .ref o_distances, .ref o_heads, .ref o_earlier, .ref o_often, .ref o_symbolLengths, .ref o_distanceLengths, .ref o_lengthLengths, .ref o_symbolCodes, .ref o_distanceCodes, .ref o_lengthCodes, .ref o_counts, .ref o_parents, .ref o_alone, .ref o_row, .int o_told, .ref o_toldSymbols, .ref o_toldNumbers, .int o_place, .int o_fail, .int o_found, .int o_symbolCount, .int o_distanceCount, .int o_lengthCount])), (o_toldSymbols, .inl (o_toldSymbols_c, o_toldSymbols_n, .inl o_toldSymbols_v)), (o_toldNumbers, .inl (o_toldNumbers_c, o_toldNumbers_n, .inl o_toldNumbers_v))] sz)) 0 0 (va_A [(o, .inr (11, [.int o_textRoom, .int o_byteRoom, .int o_chain, .ref o_text, .int o_textSize, .ref o_packed, .int o_packedSize, .int o_matches, .ref o_loaded, .int o_loadedSize, .ref o_out, .int o_outSize, .int o_bits, .int o_tokens, .ref o_lengths, .ref o_distances, .ref o_heads, .ref o_earlier, .ref o_often, .ref o_symbolLengths, .ref o_distanceLengths, .ref o_lengthLengths, .ref o_symbolCodes, .ref o_distanceCodes, .ref o_lengthCodes, .ref o_counts, .ref o_parents, .ref o_alone, .ref o_row, .int o_told, .ref o_toldSymbols, .ref o_toldNumbers, .int o_place, .int o_fail, .int o_found, .int o_symbolCount, .int o_distanceCount, .int o_lengthCount])), (o_toldSymbols, .inl (o_toldSymbols_c, o_toldSymbols_n, .inl o_toldSymbols_v)), (o_toldNumbers, .inl (o_toldNumbers_c, o_toldNumbers_n, .inl o_toldNumbers_v))] sz) := by
  refine fb_metv (by decide) (Nat.le_of_ble_eq_true rfl) (fun p e s m args below meth c A Q ls H hx hb hml hown hts hP hK hN hZ hD hA hS hret hl => ?_)
  replace hl : lv_has ls 3 [(0, .ref o), (1, .int x1), (2, .int x2)] := hl
  unfold pX11_tellOne at h
  refine lv_aload_n hx hb dX11_tellOne_0 rfl (lv_at hl 0 rfl) ?_
  refine va_get (D := (dC, dI)) (ci := 11) (v := .ref o_toldSymbols) (C := RX11) (T := TX11) (N := 38) hx hb hts i_X11 hown hK hP 0 rfl rfl 30 (by decide) (hts _ k_872) (fun _ h9 => h9) rfl dX11_tellOne_1 ?_
  refine lv_aload_n hx hb dX11_tellOne_4 rfl (lv_at hl 0 rfl) ?_
  refine va_get (D := (dC, dI)) (ci := 11) (v := .int o_told) (C := RX11) (T := TX11) (N := 38) hx hb hts i_X11 hown hK hP 0 rfl rfl 29 (by decide) (hts _ k_871) (fun _ h9 => h9) rfl dX11_tellOne_5 ?_
  refine lv_iload_n hx hb dX11_tellOne_8 rfl (lv_at hl 1 rfl) ?_
  obtain ⟨g1, h⟩ := fb_g h
  refine va_iast hx hb hK hP hD hS 1 0 rfl rfl g1 dX11_tellOne_9 (fun H locs hP hD hS => ?_)
  replace hP : va_P (dC, dI) fb_cl [(o, .inr (11, [.int o_textRoom, .int o_byteRoom, .int o_chain, .ref o_text, .int o_textSize, .ref o_packed, .int o_packedSize, .int o_matches, .ref o_loaded, .int o_loadedSize, .ref o_out, .int o_outSize, .int o_bits, .int o_tokens, .ref o_lengths, .ref o_distances, .ref o_heads, .ref o_earlier, .ref o_often, .ref o_symbolLengths, .ref o_distanceLengths, .ref o_lengthLengths, .ref o_symbolCodes, .ref o_distanceCodes, .ref o_lengthCodes, .ref o_counts, .ref o_parents, .ref o_alone, .ref o_row, .int o_told, .ref o_toldSymbols, .ref o_toldNumbers, .int o_place, .int o_fail, .int o_found, .int o_symbolCount, .int o_distanceCount, .int o_lengthCount])), (o_toldSymbols, .inl (o_toldSymbols_c, o_toldSymbols_n, .inl (upd o_toldSymbols_v (o_told).toNatClampNeg x1))), (o_toldNumbers, .inl (o_toldNumbers_c, o_toldNumbers_n, .inl o_toldNumbers_v))] H := hP
  replace hD : va_D A [(o, .inr (11, [.int o_textRoom, .int o_byteRoom, .int o_chain, .ref o_text, .int o_textSize, .ref o_packed, .int o_packedSize, .int o_matches, .ref o_loaded, .int o_loadedSize, .ref o_out, .int o_outSize, .int o_bits, .int o_tokens, .ref o_lengths, .ref o_distances, .ref o_heads, .ref o_earlier, .ref o_often, .ref o_symbolLengths, .ref o_distanceLengths, .ref o_lengthLengths, .ref o_symbolCodes, .ref o_distanceCodes, .ref o_lengthCodes, .ref o_counts, .ref o_parents, .ref o_alone, .ref o_row, .int o_told, .ref o_toldSymbols, .ref o_toldNumbers, .int o_place, .int o_fail, .int o_found, .int o_symbolCount, .int o_distanceCount, .int o_lengthCount])), (o_toldSymbols, .inl (o_toldSymbols_c, o_toldSymbols_n, .inl (upd o_toldSymbols_v (o_told).toNatClampNeg x1))), (o_toldNumbers, .inl (o_toldNumbers_c, o_toldNumbers_n, .inl o_toldNumbers_v))] := hD
  refine lv_aload_n hx hb dX11_tellOne_10 rfl (lv_at hl 0 rfl) ?_
  refine va_get (D := (dC, dI)) (ci := 11) (v := .ref o_toldNumbers) (C := RX11) (T := TX11) (N := 38) hx hb hts i_X11 hown hK hP 0 rfl rfl 31 (by decide) (hts _ k_873) (fun _ h9 => h9) rfl dX11_tellOne_11 ?_
  refine lv_aload_n hx hb dX11_tellOne_14 rfl (lv_at hl 0 rfl) ?_
  refine va_get (D := (dC, dI)) (ci := 11) (v := .int o_told) (C := RX11) (T := TX11) (N := 38) hx hb hts i_X11 hown hK hP 0 rfl rfl 29 (by decide) (hts _ k_871) (fun _ h9 => h9) rfl dX11_tellOne_15 ?_
  refine lv_iload_n hx hb dX11_tellOne_18 rfl (lv_at hl 2 rfl) ?_
  obtain ⟨g2, h⟩ := fb_g h
  refine va_iast hx hb hK hP hD hS 2 1 rfl rfl g2 dX11_tellOne_19 (fun H locs hP hD hS => ?_)
  replace hP : va_P (dC, dI) fb_cl [(o, .inr (11, [.int o_textRoom, .int o_byteRoom, .int o_chain, .ref o_text, .int o_textSize, .ref o_packed, .int o_packedSize, .int o_matches, .ref o_loaded, .int o_loadedSize, .ref o_out, .int o_outSize, .int o_bits, .int o_tokens, .ref o_lengths, .ref o_distances, .ref o_heads, .ref o_earlier, .ref o_often, .ref o_symbolLengths, .ref o_distanceLengths, .ref o_lengthLengths, .ref o_symbolCodes, .ref o_distanceCodes, .ref o_lengthCodes, .ref o_counts, .ref o_parents, .ref o_alone, .ref o_row, .int o_told, .ref o_toldSymbols, .ref o_toldNumbers, .int o_place, .int o_fail, .int o_found, .int o_symbolCount, .int o_distanceCount, .int o_lengthCount])), (o_toldSymbols, .inl (o_toldSymbols_c, o_toldSymbols_n, .inl (upd o_toldSymbols_v (o_told).toNatClampNeg x1))), (o_toldNumbers, .inl (o_toldNumbers_c, o_toldNumbers_n, .inl (upd o_toldNumbers_v (o_told).toNatClampNeg x2)))] H := hP
  replace hD : va_D A [(o, .inr (11, [.int o_textRoom, .int o_byteRoom, .int o_chain, .ref o_text, .int o_textSize, .ref o_packed, .int o_packedSize, .int o_matches, .ref o_loaded, .int o_loadedSize, .ref o_out, .int o_outSize, .int o_bits, .int o_tokens, .ref o_lengths, .ref o_distances, .ref o_heads, .ref o_earlier, .ref o_often, .ref o_symbolLengths, .ref o_distanceLengths, .ref o_lengthLengths, .ref o_symbolCodes, .ref o_distanceCodes, .ref o_lengthCodes, .ref o_counts, .ref o_parents, .ref o_alone, .ref o_row, .int o_told, .ref o_toldSymbols, .ref o_toldNumbers, .int o_place, .int o_fail, .int o_found, .int o_symbolCount, .int o_distanceCount, .int o_lengthCount])), (o_toldSymbols, .inl (o_toldSymbols_c, o_toldSymbols_n, .inl (upd o_toldSymbols_v (o_told).toNatClampNeg x1))), (o_toldNumbers, .inl (o_toldNumbers_c, o_toldNumbers_n, .inl (upd o_toldNumbers_v (o_told).toNatClampNeg x2)))] := hD
  refine lv_aload_n hx hb dX11_tellOne_20 rfl (lv_at hl 0 rfl) ?_
  refine lv_dup hx hb dX11_tellOne_21 rfl ?_
  refine va_get (D := (dC, dI)) (ci := 11) (v := .int o_told) (C := RX11) (T := TX11) (N := 38) hx hb hts i_X11 hown hK hP 0 rfl rfl 29 (by decide) (hts _ k_871) (fun _ h9 => h9) rfl dX11_tellOne_22 ?_
  refine lv_iconst (v := (1 : Int32)) hx hb dX11_tellOne_25 (by decide) ?_
  refine lv_iadd hx hb dX11_tellOne_26 ?_
  refine va_put (D := (dC, dI)) (ci := 11) (v := .int (o_told + (1 : Int32))) (ty := .int) (C := RX11) (T := TX11) (N := 38) hx hb hts i_X11 tyX11 tyX11_ok nmX11 hown hK hP hD hS 0 rfl rfl 29 (by decide) (hts _ k_871) (fun _ h9 => h9) rfl (by decide +kernel) rfl rfl (Nat.le_of_ble_eq_true rfl) dX11_tellOne_27 (fun H locs hP hD hS => ?_)
  replace hP : va_P (dC, dI) fb_cl [(o, .inr (11, [.int o_textRoom, .int o_byteRoom, .int o_chain, .ref o_text, .int o_textSize, .ref o_packed, .int o_packedSize, .int o_matches, .ref o_loaded, .int o_loadedSize, .ref o_out, .int o_outSize, .int o_bits, .int o_tokens, .ref o_lengths, .ref o_distances, .ref o_heads, .ref o_earlier, .ref o_often, .ref o_symbolLengths, .ref o_distanceLengths, .ref o_lengthLengths, .ref o_symbolCodes, .ref o_distanceCodes, .ref o_lengthCodes, .ref o_counts, .ref o_parents, .ref o_alone, .ref o_row, .int (o_told + (1 : Int32)), .ref o_toldSymbols, .ref o_toldNumbers, .int o_place, .int o_fail, .int o_found, .int o_symbolCount, .int o_distanceCount, .int o_lengthCount])), (o_toldSymbols, .inl (o_toldSymbols_c, o_toldSymbols_n, .inl (upd o_toldSymbols_v (o_told).toNatClampNeg x1))), (o_toldNumbers, .inl (o_toldNumbers_c, o_toldNumbers_n, .inl (upd o_toldNumbers_v (o_told).toNatClampNeg x2)))] H := hP
  replace hD : va_D A [(o, .inr (11, [.int o_textRoom, .int o_byteRoom, .int o_chain, .ref o_text, .int o_textSize, .ref o_packed, .int o_packedSize, .int o_matches, .ref o_loaded, .int o_loadedSize, .ref o_out, .int o_outSize, .int o_bits, .int o_tokens, .ref o_lengths, .ref o_distances, .ref o_heads, .ref o_earlier, .ref o_often, .ref o_symbolLengths, .ref o_distanceLengths, .ref o_lengthLengths, .ref o_symbolCodes, .ref o_distanceCodes, .ref o_lengthCodes, .ref o_counts, .ref o_parents, .ref o_alone, .ref o_row, .int (o_told + (1 : Int32)), .ref o_toldSymbols, .ref o_toldNumbers, .int o_place, .int o_fail, .int o_found, .int o_symbolCount, .int o_distanceCount, .int o_lengthCount])), (o_toldSymbols, .inl (o_toldSymbols_c, o_toldSymbols_n, .inl (upd o_toldSymbols_v (o_told).toNatClampNeg x1))), (o_toldNumbers, .inl (o_toldNumbers_c, o_toldNumbers_n, .inl (upd o_toldNumbers_v (o_told).toNatClampNeg x2)))] := hD
  have hu := Option.some.inj h
  exact hret _ _ _ _ dX11_tellOne_30 (by rw [← hu]; exact hP) (by rw [← hu]; exact hD) hS
