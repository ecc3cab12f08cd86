theorem dX11_cannot_0 : decode cX11_cannot 0 = .ok (.aload_n 0, 1) := by decide +kernel
theorem dX11_cannot_1 : decode cX11_cannot 1 = .ok (.aload_n 0, 1) := by decide +kernel
theorem dX11_cannot_2 : decode cX11_cannot 2 = .ok (.getfield 231, 3) := by decide +kernel
theorem dX11_cannot_5 : decode cX11_cannot 5 = .ok (.ifCond .ne 11, 3) := by decide +kernel
theorem dX11_cannot_8 : decode cX11_cannot 8 = .ok (.iload_n 1, 1) := by decide +kernel
theorem dX11_cannot_9 : decode cX11_cannot 9 = .ok (.ifCond .eq 7, 3) := by decide +kernel
theorem dX11_cannot_12 : decode cX11_cannot 12 = .ok (.iload_n 2, 1) := by decide +kernel
theorem dX11_cannot_13 : decode cX11_cannot 13 = .ok (.goto 7, 3) := by decide +kernel
theorem dX11_cannot_16 : decode cX11_cannot 16 = .ok (.aload_n 0, 1) := by decide +kernel
theorem dX11_cannot_17 : decode cX11_cannot 17 = .ok (.getfield 231, 3) := by decide +kernel
theorem dX11_cannot_20 : decode cX11_cannot 20 = .ok (.putfield 231, 3) := by decide +kernel
theorem dX11_cannot_23 : decode cX11_cannot 23 = .ok (.return_, 1) := by decide +kernel
def pX11_cannot_b20   (t0 : Int32) : Option (Int32) :=
  some (t0)
def pX11_cannot_b16   (o_fail : Int32) : Option (Int32) :=
  pX11_cannot_b20 o_fail
def pX11_cannot (x1 : Int32) (x2 : Int32)  (o_fail : Int32) : Option (Int32) :=
  if o_fail = 0 then
  (if x1 = 0 then
  (pX11_cannot_b16 o_fail)
  else
  (pX11_cannot_b20 x2))
  else
  (pX11_cannot_b16 o_fail)
theorem hdX11_cannot : yX11_cannot.cls = RX11 ∧ yX11_cannot.cls ≠ "java/lang/invoke/MethodHandle" ∧ yX11_cannot.cls ≠ "java/lang/invoke/VarHandle" ∧ (parseMethodDescriptor yX11_cannot.desc).map (fun d => d.parameters.length) = some 2 := by decide +kernel
set_option maxHeartbeats 8000000 in
set_option maxRecDepth 100000 in
theorem mX11_cannot (l : Launch) (dC : Nat → ClassId) (dI : Nat → Nat → Nat) (o : Nat) (o_text : Nat) (o_packed : Nat) (o_loaded : Nat) (o_out : Nat) (o_lengths : Nat) (o_distances : Nat) (o_heads : Nat) (o_earlier : Nat) (o_often : Nat) (o_symbolLengths : Nat) (o_distanceLengths : Nat) (o_lengthLengths : Nat) (o_symbolCodes : Nat) (o_distanceCodes : Nat) (o_lengthCodes : Nat) (o_counts : Nat) (o_parents : Nat) (o_alone : Nat) (o_row : Nat) (o_toldSymbols : Nat) (o_toldNumbers : Nat)   (o_textRoom : Int32) (o_byteRoom : Int32) (o_chain : Int32) (o_textSize : Int32) (o_packedSize : Int32) (o_matches : Int32) (o_loadedSize : Int32) (o_outSize : Int32) (o_bits : Int32) (o_tokens : Int32) (o_told : Int32) (o_place : Int32) (o_fail : Int32) (o_found : Int32) (o_symbolCount : Int32) (o_distanceCount : Int32) (o_lengthCount : Int32) (x1 : Int32) (x2 : Int32) (sz : Nat) (u : Int32) (h : pX11_cannot x1 x2 o_fail = some u) : Met l yX11_cannot (Cond.code yX11_cannot cX11_cannot 3 none :: fb_tb) ({ frames := 0, cells := 0, slots := 0, locals := 0 }) (fb_Pc (dC, dI) [.ref o, .int x1, .int x2] sz [] [(o, .inr (11, [.int o_textRoom, .int o_byteRoom, .int o_chain, .ref o_text, .int o_textSize, .ref o_packed, .int o_packedSize, .int o_matches, .ref o_loaded, .int o_loadedSize, .ref o_out, .int o_outSize, .int o_bits, .int o_tokens, .ref o_lengths, .ref o_distances, .ref o_heads, .ref o_earlier, .ref o_often, .ref o_symbolLengths, .ref o_distanceLengths, .ref o_lengthLengths, .ref o_symbolCodes, .ref o_distanceCodes, .ref o_lengthCodes, .ref o_counts, .ref o_parents, .ref o_alone, .ref o_row, .int o_told, .ref o_toldSymbols, .ref o_toldNumbers, .int o_place, .int o_fail, .int o_found, .int o_symbolCount, .int o_distanceCount, .int o_lengthCount]))]) (fb_Qv (dC, dI) [(o, .inr (11, [.int o_textRoom, .int o_byteRoom, .int o_chain, .ref o_text, .int o_textSize, .ref o_packed, .int o_packedSize, .int o_matches, .ref o_loaded, .int o_loadedSize, .ref o_out, .int o_outSize, .int o_bits, .int o_tokens, .ref o_lengths, .ref o_distances, .ref o_heads, .ref o_earlier, .ref o_often, .ref o_symbolLengths, .ref o_distanceLengths, .ref o_lengthLengths, .ref o_symbolCodes, .ref o_distanceCodes, .ref o_lengthCodes, .ref o_counts, .ref o_parents, .ref o_alone, .ref o_row, .int o_told, .ref o_toldSymbols, .ref o_toldNumbers, .int o_place, .int u, .int o_found, .int o_symbolCount, .int o_distanceCount, .int o_lengthCount]))] (va_A [(o, .inr (11, [.int o_textRoom, .int o_byteRoom, .int o_chain, .ref o_text, .int o_textSize, .ref o_packed, .int o_packedSize, .int o_matches, .ref o_loaded, .int o_loadedSize, .ref o_out, .int o_outSize, .int o_bits, .int o_tokens, .ref o_lengths, .ref o_distances, .ref o_heads, .ref o_earlier, .ref o_often, .ref o_symbolLengths, .ref o_distanceLengths, .ref o_lengthLengths, .ref o_symbolCodes, .ref o_distanceCodes, .ref o_lengthCodes, .ref o_counts, .ref o_parents, .ref o_alone, .ref o_row, .int o_told, .ref o_toldSymbols, .ref o_toldNumbers, .int o_place, .int o_fail, .int o_found, .int o_symbolCount, .int o_distanceCount, .int o_lengthCount]))] sz)) 0 0 (va_A [(o, .inr (11, [.int o_textRoom, .int o_byteRoom, .int o_chain, .ref o_text, .int o_textSize, .ref o_packed, .int o_packedSize, .int o_matches, .ref o_loaded, .int o_loadedSize, .ref o_out, .int o_outSize, .int o_bits, .int o_tokens, .ref o_lengths, .ref o_distances, .ref o_heads, .ref o_earlier, .ref o_often, .ref o_symbolLengths, .ref o_distanceLengths, .ref o_lengthLengths, .ref o_symbolCodes, .ref o_distanceCodes, .ref o_lengthCodes, .ref o_counts, .ref o_parents, .ref o_alone, .ref o_row, .int o_told, .ref o_toldSymbols, .ref o_toldNumbers, .int o_place, .int o_fail, .int o_found, .int o_symbolCount, .int o_distanceCount, .int o_lengthCount]))] sz) := by
  refine fb_metv (by decide) (Nat.le_of_ble_eq_true rfl) (fun p e s m args below meth c A Q ls H hx hb hml hown hts hP hK hN hZ hD hA hS hret hl => ?_)
  replace hl : lv_has ls 3 [(0, .ref o), (1, .int x1), (2, .int x2)] := hl
  have wB20 : ∀ (o_fail : Int32) (t0 : Int32) (H : Heap) (locs : List Loc) (ls : Array Slot), va_P (dC, dI) fb_cl [(o, .inr (11, [.int o_textRoom, .int o_byteRoom, .int o_chain, .ref o_text, .int o_textSize, .ref o_packed, .int o_packedSize, .int o_matches, .ref o_loaded, .int o_loadedSize, .ref o_out, .int o_outSize, .int o_bits, .int o_tokens, .ref o_lengths, .ref o_distances, .ref o_heads, .ref o_earlier, .ref o_often, .ref o_symbolLengths, .ref o_distanceLengths, .ref o_lengthLengths, .ref o_symbolCodes, .ref o_distanceCodes, .ref o_lengthCodes, .ref o_counts, .ref o_parents, .ref o_alone, .ref o_row, .int o_told, .ref o_toldSymbols, .ref o_toldNumbers, .int o_place, .int o_fail, .int o_found, .int o_symbolCount, .int o_distanceCount, .int o_lengthCount]))] H → va_D A [(o, .inr (11, [.int o_textRoom, .int o_byteRoom, .int o_chain, .ref o_text, .int o_textSize, .ref o_packed, .int o_packedSize, .int o_matches, .ref o_loaded, .int o_loadedSize, .ref o_out, .int o_outSize, .int o_bits, .int o_tokens, .ref o_lengths, .ref o_distances, .ref o_heads, .ref o_earlier, .ref o_often, .ref o_symbolLengths, .ref o_distanceLengths, .ref o_lengthLengths, .ref o_symbolCodes, .ref o_distanceCodes, .ref o_lengthCodes, .ref o_counts, .ref o_parents, .ref o_alone, .ref o_row, .int o_told, .ref o_toldSymbols, .ref o_toldNumbers, .int o_place, .int o_fail, .int o_found, .int o_symbolCount, .int o_distanceCount, .int o_lengthCount]))] → va_S A s.heap H locs → lv_has ls 3 [] → pX11_cannot_b20 t0 = some u → W p l e ({ frames := 0, cells := 0, slots := 0, locals := 0 }) s m args below meth c H locs 0 0 Q (F0 m 20 ls [.int t0, .ref o]) := by
    intro  o_fail t0 H locs ls hP hD hS hl h
    unfold pX11_cannot_b20 at h
    refine va_put (D := (dC, dI)) (ci := 11) (v := .int t0) (ty := .int) (C := RX11) (T := TX11) (N := 38) hx hb hts i_X11 tyX11 tyX11_ok nmX11 hown hK hP hD hS 0 rfl rfl 33 (by decide) (hts _ k_870) (fun _ h9 => h9) rfl (by decide +kernel) rfl rfl (Nat.le_of_ble_eq_true rfl) dX11_cannot_20 (fun H locs hP hD hS => ?_)
    replace hP : va_P (dC, dI) fb_cl [(o, .inr (11, [.int o_textRoom, .int o_byteRoom, .int o_chain, .ref o_text, .int o_textSize, .ref o_packed, .int o_packedSize, .int o_matches, .ref o_loaded, .int o_loadedSize, .ref o_out, .int o_outSize, .int o_bits, .int o_tokens, .ref o_lengths, .ref o_distances, .ref o_heads, .ref o_earlier, .ref o_often, .ref o_symbolLengths, .ref o_distanceLengths, .ref o_lengthLengths, .ref o_symbolCodes, .ref o_distanceCodes, .ref o_lengthCodes, .ref o_counts, .ref o_parents, .ref o_alone, .ref o_row, .int o_told, .ref o_toldSymbols, .ref o_toldNumbers, .int o_place, .int t0, .int o_found, .int o_symbolCount, .int o_distanceCount, .int o_lengthCount]))] H := hP
    replace hD : va_D A [(o, .inr (11, [.int o_textRoom, .int o_byteRoom, .int o_chain, .ref o_text, .int o_textSize, .ref o_packed, .int o_packedSize, .int o_matches, .ref o_loaded, .int o_loadedSize, .ref o_out, .int o_outSize, .int o_bits, .int o_tokens, .ref o_lengths, .ref o_distances, .ref o_heads, .ref o_earlier, .ref o_often, .ref o_symbolLengths, .ref o_distanceLengths, .ref o_lengthLengths, .ref o_symbolCodes, .ref o_distanceCodes, .ref o_lengthCodes, .ref o_counts, .ref o_parents, .ref o_alone, .ref o_row, .int o_told, .ref o_toldSymbols, .ref o_toldNumbers, .int o_place, .int t0, .int o_found, .int o_symbolCount, .int o_distanceCount, .int o_lengthCount]))] := hD
    have hu := Option.some.inj h
    exact hret _ _ _ _ dX11_cannot_23 (by rw [← hu]; exact hP) (by rw [← hu]; exact hD) hS
  have wB16 : ∀ (o_fail : Int32) (H : Heap) (locs : List Loc) (ls : Array Slot), va_P (dC, dI) fb_cl [(o, .inr (11, [.int o_textRoom, .int o_byteRoom, .int o_chain, .ref o_text, .int o_textSize, .ref o_packed, .int o_packedSize, .int o_matches, .ref o_loaded, .int o_loadedSize, .ref o_out, .int o_outSize, .int o_bits, .int o_tokens, .ref o_lengths, .ref o_distances, .ref o_heads, .ref o_earlier, .ref o_often, .ref o_symbolLengths, .ref o_distanceLengths, .ref o_lengthLengths, .ref o_symbolCodes, .ref o_distanceCodes, .ref o_lengthCodes, .ref o_counts, .ref o_parents, .ref o_alone, .ref o_row, .int o_told, .ref o_toldSymbols, .ref o_toldNumbers, .int o_place, .int o_fail, .int o_found, .int o_symbolCount, .int o_distanceCount, .int o_lengthCount]))] H → va_D A [(o, .inr (11, [.int o_textRoom, .int o_byteRoom, .int o_chain, .ref o_text, .int o_textSize, .ref o_packed, .int o_packedSize, .int o_matches, .ref o_loaded, .int o_loadedSize, .ref o_out, .int o_outSize, .int o_bits, .int o_tokens, .ref o_lengths, .ref o_distances, .ref o_heads, .ref o_earlier, .ref o_often, .ref o_symbolLengths, .ref o_distanceLengths, .ref o_lengthLengths, .ref o_symbolCodes, .ref o_distanceCodes, .ref o_lengthCodes, .ref o_counts, .ref o_parents, .ref o_alone, .ref o_row, .int o_told, .ref o_toldSymbols, .ref o_toldNumbers, .int o_place, .int o_fail, .int o_found, .int o_symbolCount, .int o_distanceCount, .int o_lengthCount]))] → va_S A s.heap H locs → lv_has ls 3 [(0, .ref o)] → pX11_cannot_b16 o_fail = some u → W p l e ({ frames := 0, cells := 0, slots := 0, locals := 0 }) s m args below meth c H locs 0 0 Q (F0 m 16 ls [.ref o]) := by
    intro  o_fail H locs ls hP hD hS hl h
    unfold pX11_cannot_b16 at h
    refine lv_aload_n hx hb dX11_cannot_16 rfl (lv_at hl 0 rfl) ?_
    refine va_get (D := (dC, dI)) (ci := 11) (v := .int o_fail) (C := RX11) (T := TX11) (N := 38) hx hb hts i_X11 hown hK hP 0 rfl rfl 33 (by decide) (hts _ k_870) (fun _ h9 => h9) rfl dX11_cannot_17 ?_
    exact wB20 o_fail o_fail _ _ _ hP hD hS (lv_sub hl [] rfl) h
  unfold pX11_cannot at h
  refine lv_aload_n hx hb dX11_cannot_0 rfl (lv_at hl 0 rfl) ?_
  refine lv_aload_n hx hb dX11_cannot_1 rfl (lv_at hl 0 rfl) ?_
  refine va_get (D := (dC, dI)) (ci := 11) (v := .int o_fail) (C := RX11) (T := TX11) (N := 38) hx hb hts i_X11 hown hK hP 0 rfl rfl 33 (by decide) (hts _ k_870) (fun _ h9 => h9) rfl dX11_cannot_2 ?_
  refine lv_if_ne (tgt := 16) hx hb dX11_cannot_5 (by decide) (fun c1 => ?_) (fun c1 => ?_)
  · replace h := fb_f c1 h
    exact wB16 o_fail _ _ _ hP hD hS (lv_sub hl [0] rfl) h
  · replace h := fb_t c1 h
    refine lv_iload_n hx hb dX11_cannot_8 rfl (lv_at hl 1 rfl) ?_
    refine lv_if_eq (tgt := 16) hx hb dX11_cannot_9 (by decide) (fun c2 => ?_) (fun c2 => ?_)
    · replace h := fb_t c2 h
      exact wB16 o_fail _ _ _ hP hD hS (lv_sub hl [0] rfl) h
    · replace h := fb_f c2 h
      refine lv_iload_n hx hb dX11_cannot_12 rfl (lv_at hl 2 rfl) ?_
      refine lv_goto (tgt := 20) hx hb dX11_cannot_13 (by decide) ?_
      exact wB20 o_fail x2 _ _ _ hP hD hS (lv_sub hl [] rfl) h
theorem dX11_howMany_0 : decode cX11_howMany 0 = .ok (.iconst 0, 1) := by decide +kernel
theorem dX11_howMany_1 : decode cX11_howMany 1 = .ok (.istore_n 3, 1) := by decide +kernel
theorem dX11_howMany_2 : decode cX11_howMany 2 = .ok (.iconst 0, 1) := by decide +kernel
theorem dX11_howMany_3 : decode cX11_howMany 3 = .ok (.istore 4, 2) := by decide +kernel
theorem dX11_howMany_5 : decode cX11_howMany 5 = .ok (.iload 4, 2) := by decide +kernel
theorem dX11_howMany_7 : decode cX11_howMany 7 = .ok (.iload_n 0, 1) := by decide +kernel
theorem dX11_howMany_8 : decode cX11_howMany 8 = .ok (.if_icmp .ge 25, 3) := by decide +kernel
theorem dX11_howMany_11 : decode cX11_howMany 11 = .ok (.iload_n 3, 1) := by decide +kernel
theorem dX11_howMany_12 : decode cX11_howMany 12 = .ok (.aload_n 1, 1) := by decide +kernel
theorem dX11_howMany_13 : decode cX11_howMany 13 = .ok (.iload 4, 2) := by decide +kernel
theorem dX11_howMany_15 : decode cX11_howMany 15 = .ok (.iaload, 1) := by decide +kernel
theorem dX11_howMany_16 : decode cX11_howMany 16 = .ok (.iload_n 2, 1) := by decide +kernel
theorem dX11_howMany_17 : decode cX11_howMany 17 = .ok (.if_icmp .ne 7, 3) := by decide +kernel
theorem dX11_howMany_20 : decode cX11_howMany 20 = .ok (.iconst 1, 1) := by decide +kernel
theorem dX11_howMany_21 : decode cX11_howMany 21 = .ok (.goto 4, 3) := by decide +kernel
theorem dX11_howMany_24 : decode cX11_howMany 24 = .ok (.iconst 0, 1) := by decide +kernel
theorem dX11_howMany_25 : decode cX11_howMany 25 = .ok (.iadd, 1) := by decide +kernel
theorem dX11_howMany_26 : decode cX11_howMany 26 = .ok (.istore_n 3, 1) := by decide +kernel
theorem dX11_howMany_27 : decode cX11_howMany 27 = .ok (.iinc 4 1, 3) := by decide +kernel
theorem dX11_howMany_30 : decode cX11_howMany 30 = .ok (.goto (-25), 3) := by decide +kernel
theorem dX11_howMany_33 : decode cX11_howMany 33 = .ok (.iload_n 3, 1) := by decide +kernel
theorem dX11_howMany_34 : decode cX11_howMany 34 = .ok (.ireturn, 1) := by decide +kernel
def pX11_howMany_b5 (a1_n : Nat) (a1_v : Nat → Int32) (x0 : Int32) (x2 : Int32)  : Nat → Int32 → Int32 → Option (Int32)
  | 0 => fun _ _ => none
  | n + 1 => fun x3 x4 =>
  if x0 ≤ x4 then
  (some (x3))
  else
  (if x4 < 0 ∨ a1_n ≤ (x4).toNatClampNeg then none else
  if (a1_v (x4).toNatClampNeg) = x2 then
  ((pX11_howMany_b5 a1_n a1_v x0 x2 n) (x3 + (1 : Int32)) (x4 + (1 : Int32)))
  else
  ((pX11_howMany_b5 a1_n a1_v x0 x2 n) (x3 + (0 : Int32)) (x4 + (1 : Int32))))
def pX11_howMany (a1_n : Nat) (a1_v : Nat → Int32) (x0 : Int32) (x2 : Int32)   : Option (Int32) :=
  pX11_howMany_b5 a1_n a1_v x0 x2 fb_F (0 : Int32) (0 : Int32)
theorem hdX11_howMany : yX11_howMany.cls ≠ "java/lang/invoke/MethodHandle" ∧ yX11_howMany.cls ≠ "java/lang/invoke/VarHandle" ∧ (parseMethodDescriptor yX11_howMany.desc).map (fun d => d.parameters.length) = some 3 := by decide +kernel
set_option maxHeartbeats 8000000 in
set_option maxRecDepth 100000 in
theorem mX11_howMany (l : Launch) (dC : Nat → ClassId) (dI : Nat → Nat → Nat) (a1 : Nat) (a1_c : ClassId) (a1_n : Nat) (a1_v : Nat → Int32) (x0 : Int32) (x2 : Int32) (sz : Nat) (u : Int32) (h : pX11_howMany a1_n a1_v x0 x2 = some u) : Met l yX11_howMany (Cond.code yX11_howMany cX11_howMany 5 (some .int) :: fb_tb) ({ frames := 0, cells := 0, slots := 0, locals := 0 }) (fb_Pc (dC, dI) [.int x0, .ref a1, .int x2] sz [(a1_c, .int)] [(a1, .inl (a1_c, a1_n, .inl a1_v))]) (fb_Qi (dC, dI) u [(a1, .inl (a1_c, a1_n, .inl a1_v))] (va_A [(a1, .inl (a1_c, a1_n, .inl a1_v))] sz)) 0 0 (va_A [(a1, .inl (a1_c, a1_n, .inl a1_v))] sz) := by
  refine fb_meti (ty := .int) (by decide) (Nat.le_of_ble_eq_true rfl) (fun p e s m args below meth c A Q ls H hx hb hml hown hts hP hK hN hZ hD hA hS hret hl => ?_)
  replace hl : lv_has ls 5 [(0, .int x0), (1, .ref a1), (2, .int x2)] := hl
  have wB5 : ∀ n : Nat, ∀ (x3 : Int32) (x4 : Int32) (H : Heap) (locs : List Loc) (ls : Array Slot), va_P (dC, dI) fb_cl [(a1, .inl (a1_c, a1_n, .inl a1_v))] H → va_D A [(a1, .inl (a1_c, a1_n, .inl a1_v))] → va_S A s.heap H locs → lv_has ls 5 [(0, .int x0), (1, .ref a1), (2, .int x2), (3, .int x3), (4, .int x4)] → pX11_howMany_b5 a1_n a1_v x0 x2 n x3 x4 = some u → W p l e ({ frames := 0, cells := 0, slots := 0, locals := 0 }) s m args below meth c H locs 0 0 Q (F0 m 5 ls []) := by
    intro n
    induction n with
    | zero => intro x3 x4 H locs ls hP hD hS hl h; cases h
    | succ n ih =>
      intro x3 x4 H locs ls hP hD hS hl h
      rw [pX11_howMany_b5] at h
      refine lv_iload hx hb dX11_howMany_5 (lv_at hl 4 rfl) ?_
      refine lv_iload_n hx hb dX11_howMany_7 rfl (lv_at hl 0 rfl) ?_
      refine lv_icmp_ge (tgt := 33) hx hb dX11_howMany_8 (by decide) (fun c1 => ?_) (fun c1 => ?_)
      · replace h := fb_t c1 h
        refine lv_iload_n hx hb dX11_howMany_33 rfl (lv_at hl 3 rfl) ?_
        have hu := Option.some.inj h
        exact hret _ _ _ _ _ dX11_howMany_34 rfl (by rw [← hu]) hP hD hS
      · replace h := fb_f c1 h
        refine lv_iload_n hx hb dX11_howMany_11 rfl (lv_at hl 3 rfl) ?_
        refine lv_aload_n hx hb dX11_howMany_12 rfl (lv_at hl 1 rfl) ?_
        refine lv_iload hx hb dX11_howMany_13 (lv_at hl 4 rfl) ?_
        obtain ⟨g2, h⟩ := fb_g h
        refine va_iald hx hb hK hP 0 0 rfl rfl g2 dX11_howMany_15 ?_
        refine lv_iload_n hx hb dX11_howMany_16 rfl (lv_at hl 2 rfl) ?_
        refine lv_icmp_ne (tgt := 24) hx hb dX11_howMany_17 (by decide) (fun c3 => ?_) (fun c3 => ?_)
        · replace h := fb_f c3 h
          refine lv_iconst (v := (0 : Int32)) hx hb dX11_howMany_24 (by decide) ?_
          refine lv_iadd hx hb dX11_howMany_25 ?_
          refine lv_istore_n (lv' := [(3, .int (x3 + (0 : Int32))), (0, .int x0), (1, .ref a1), (2, .int x2), (4, .int x4)]) hx hb dX11_howMany_26 rfl hl (by decide) rfl (fun ls hl => ?_)
          refine lv_iinc (v := (x4 + (1 : Int32))) (lv' := [(4, .int (x4 + (1 : Int32))), (3, .int (x3 + (0 : Int32))), (0, .int x0), (1, .ref a1), (2, .int x2)]) hx hb dX11_howMany_27 hl (k := 4) rfl rfl (by decide) rfl (fun ls hl => ?_)
          refine lv_goto (tgt := 5) hx hb dX11_howMany_30 (by decide) ?_
          exact ih (x3 + (0 : Int32)) (x4 + (1 : Int32)) _ _ _ hP hD hS (lv_sub hl [2, 3, 4, 1, 0] rfl) h
        · replace h := fb_t c3 h
          refine lv_iconst (v := (1 : Int32)) hx hb dX11_howMany_20 (by decide) ?_
          refine lv_goto (tgt := 25) hx hb dX11_howMany_21 (by decide) ?_
          refine lv_iadd hx hb dX11_howMany_25 ?_
          refine lv_istore_n (lv' := [(3, .int (x3 + (1 : Int32))), (0, .int x0), (1, .ref a1), (2, .int x2), (4, .int x4)]) hx hb dX11_howMany_26 rfl hl (by decide) rfl (fun ls hl => ?_)
          refine lv_iinc (v := (x4 + (1 : Int32))) (lv' := [(4, .int (x4 + (1 : Int32))), (3, .int (x3 + (1 : Int32))), (0, .int x0), (1, .ref a1), (2, .int x2)]) hx hb dX11_howMany_27 hl (k := 4) rfl rfl (by decide) rfl (fun ls hl => ?_)
          refine lv_goto (tgt := 5) hx hb dX11_howMany_30 (by decide) ?_
          exact ih (x3 + (1 : Int32)) (x4 + (1 : Int32)) _ _ _ hP hD hS (lv_sub hl [2, 3, 4, 1, 0] rfl) h
  unfold pX11_howMany at h
  refine lv_iconst (v := (0 : Int32)) hx hb dX11_howMany_0 (by decide) ?_
  refine lv_istore_n (lv' := [(3, .int (0 : Int32)), (0, .int x0), (1, .ref a1), (2, .int x2)]) hx hb dX11_howMany_1 rfl hl (by decide) rfl (fun ls hl => ?_)
  refine lv_iconst (v := (0 : Int32)) hx hb dX11_howMany_2 (by decide) ?_
  refine lv_istore (lv' := [(4, .int (0 : Int32)), (3, .int (0 : Int32)), (0, .int x0), (1, .ref a1), (2, .int x2)]) hx hb dX11_howMany_3 hl (by decide) rfl (fun ls hl => ?_)
  exact wB5 fb_F (0 : Int32) (0 : Int32) _ _ _ hP hD hS (lv_sub hl [2, 3, 4, 1, 0] rfl) h
theorem dX11_isComplete_0 : decode cX11_isComplete 0 = .ok (.iconst 0, 1) := by decide +kernel
theorem dX11_isComplete_1 : decode cX11_isComplete 1 = .ok (.istore_n 2, 1) := by decide +kernel
theorem dX11_isComplete_2 : decode cX11_isComplete 2 = .ok (.iconst 0, 1) := by decide +kernel
theorem dX11_isComplete_3 : decode cX11_isComplete 3 = .ok (.istore_n 3, 1) := by decide +kernel
theorem dX11_isComplete_4 : decode cX11_isComplete 4 = .ok (.iload_n 3, 1) := by decide +kernel
theorem dX11_isComplete_5 : decode cX11_isComplete 5 = .ok (.iload_n 0, 1) := by decide +kernel
theorem dX11_isComplete_6 : decode cX11_isComplete 6 = .ok (.if_icmp .ge 30, 3) := by decide +kernel
theorem dX11_isComplete_9 : decode cX11_isComplete 9 = .ok (.iload_n 2, 1) := by decide +kernel
theorem dX11_isComplete_10 : decode cX11_isComplete 10 = .ok (.aload_n 1, 1) := by decide +kernel
theorem dX11_isComplete_11 : decode cX11_isComplete 11 = .ok (.iload_n 3, 1) := by decide +kernel
theorem dX11_isComplete_12 : decode cX11_isComplete 12 = .ok (.iaload, 1) := by decide +kernel
theorem dX11_isComplete_13 : decode cX11_isComplete 13 = .ok (.ifCond .le 14, 3) := by decide +kernel
theorem dX11_isComplete_16 : decode cX11_isComplete 16 = .ok (.iconst 1, 1) := by decide +kernel
theorem dX11_isComplete_17 : decode cX11_isComplete 17 = .ok (.bipush 15, 2) := by decide +kernel
theorem dX11_isComplete_19 : decode cX11_isComplete 19 = .ok (.aload_n 1, 1) := by decide +kernel
theorem dX11_isComplete_20 : decode cX11_isComplete 20 = .ok (.iload_n 3, 1) := by decide +kernel
theorem dX11_isComplete_21 : decode cX11_isComplete 21 = .ok (.iaload, 1) := by decide +kernel
theorem dX11_isComplete_22 : decode cX11_isComplete 22 = .ok (.isub, 1) := by decide +kernel
theorem dX11_isComplete_23 : decode cX11_isComplete 23 = .ok (.ishl, 1) := by decide +kernel
theorem dX11_isComplete_24 : decode cX11_isComplete 24 = .ok (.goto 4, 3) := by decide +kernel
theorem dX11_isComplete_27 : decode cX11_isComplete 27 = .ok (.iconst 0, 1) := by decide +kernel
theorem dX11_isComplete_28 : decode cX11_isComplete 28 = .ok (.iadd, 1) := by decide +kernel
theorem dX11_isComplete_29 : decode cX11_isComplete 29 = .ok (.istore_n 2, 1) := by decide +kernel
theorem dX11_isComplete_30 : decode cX11_isComplete 30 = .ok (.iinc 3 1, 3) := by decide +kernel
theorem dX11_isComplete_33 : decode cX11_isComplete 33 = .ok (.goto (-29), 3) := by decide +kernel
theorem dX11_isComplete_36 : decode cX11_isComplete 36 = .ok (.iload_n 2, 1) := by decide +kernel
theorem dX11_isComplete_37 : decode cX11_isComplete 37 = .ok (.ldc 119, 2) := by decide +kernel
theorem dX11_isComplete_39 : decode cX11_isComplete 39 = .ok (.if_icmp .ne 7, 3) := by decide +kernel
theorem dX11_isComplete_42 : decode cX11_isComplete 42 = .ok (.iconst 1, 1) := by decide +kernel
theorem dX11_isComplete_43 : decode cX11_isComplete 43 = .ok (.goto 4, 3) := by decide +kernel
theorem dX11_isComplete_46 : decode cX11_isComplete 46 = .ok (.iconst 0, 1) := by decide +kernel
theorem dX11_isComplete_47 : decode cX11_isComplete 47 = .ok (.ireturn, 1) := by decide +kernel
def pX11_isComplete_b4 (a1_n : Nat) (a1_v : Nat → Int32) (x0 : Int32)  : Nat → Int32 → Int32 → Option (Int32)
  | 0 => fun _ _ => none
  | n + 1 => fun x2 x3 =>
  if x0 ≤ x3 then
  (if x2 = (32768 : Int32) then
  (some ((1 : Int32)))
  else
  (some ((0 : Int32))))
  else
  (if x3 < 0 ∨ a1_n ≤ (x3).toNatClampNeg then none else
  if (a1_v (x3).toNatClampNeg) ≤ 0 then
  ((pX11_isComplete_b4 a1_n a1_v x0 n) (x2 + (0 : Int32)) (x3 + (1 : Int32)))
  else
  (if x3 < 0 ∨ a1_n ≤ (x3).toNatClampNeg then none else
  (pX11_isComplete_b4 a1_n a1_v x0 n) (x2 + ((1 : Int32) <<< (((15 : Int32) - (a1_v (x3).toNatClampNeg)) &&& 31))) (x3 + (1 : Int32))))
def pX11_isComplete (a1_n : Nat) (a1_v : Nat → Int32) (x0 : Int32)   : Option (Int32) :=
  pX11_isComplete_b4 a1_n a1_v x0 fb_F (0 : Int32) (0 : Int32)
theorem hdX11_isComplete : yX11_isComplete.cls ≠ "java/lang/invoke/MethodHandle" ∧ yX11_isComplete.cls ≠ "java/lang/invoke/VarHandle" ∧ (parseMethodDescriptor yX11_isComplete.desc).map (fun d => d.parameters.length) = some 2 := by decide +kernel
set_option maxHeartbeats 8000000 in
set_option maxRecDepth 100000 in
theorem mX11_isComplete (l : Launch) (dC : Nat → ClassId) (dI : Nat → Nat → Nat) (a1 : Nat) (a1_c : ClassId) (a1_n : Nat) (a1_v : Nat → Int32) (x0 : Int32) (sz : Nat) (u : Int32) (h : pX11_isComplete a1_n a1_v x0 = some u) : Met l yX11_isComplete (Cond.code yX11_isComplete cX11_isComplete 4 (some .boolean) :: fb_tb) ({ frames := 0, cells := 0, slots := 0, locals := 0 }) (fb_Pc (dC, dI) [.int x0, .ref a1] sz [(a1_c, .int)] [(a1, .inl (a1_c, a1_n, .inl a1_v))]) (fb_Qi (dC, dI) u [(a1, .inl (a1_c, a1_n, .inl a1_v))] (va_A [(a1, .inl (a1_c, a1_n, .inl a1_v))] sz)) 0 0 (va_A [(a1, .inl (a1_c, a1_n, .inl a1_v))] sz) := by
  refine fb_meti (ty := .boolean) (by decide) (Nat.le_of_ble_eq_true rfl) (fun p e s m args below meth c A Q ls H hx hb hml hown hts hP hK hN hZ hD hA hS hret hl => ?_)
  replace hl : lv_has ls 4 [(0, .int x0), (1, .ref a1)] := hl
  have wB4 : ∀ n : Nat, ∀ (x2 : Int32) (x3 : Int32) (H : Heap) (locs : List Loc) (ls : Array Slot), va_P (dC, dI) fb_cl [(a1, .inl (a1_c, a1_n, .inl a1_v))] H → va_D A [(a1, .inl (a1_c, a1_n, .inl a1_v))] → va_S A s.heap H locs → lv_has ls 4 [(0, .int x0), (1, .ref a1), (2, .int x2), (3, .int x3)] → pX11_isComplete_b4 a1_n a1_v x0 n x2 x3 = some u → W p l e ({ frames := 0, cells := 0, slots := 0, locals := 0 }) s m args below meth c H locs 0 0 Q (F0 m 4 ls []) := by
    intro n
    induction n with
    | zero => intro x2 x3 H locs ls hP hD hS hl h; cases h
    | succ n ih =>
      intro x2 x3 H locs ls hP hD hS hl h
      rw [pX11_isComplete_b4] at h
      refine lv_iload_n hx hb dX11_isComplete_4 rfl (lv_at hl 3 rfl) ?_
      refine lv_iload_n hx hb dX11_isComplete_5 rfl (lv_at hl 0 rfl) ?_
      refine lv_icmp_ge (tgt := 36) hx hb dX11_isComplete_6 (by decide) (fun c1 => ?_) (fun c1 => ?_)
      · replace h := fb_t c1 h
        refine lv_iload_n hx hb dX11_isComplete_36 rfl (lv_at hl 2 rfl) ?_
        refine lv_ldc (v := (32768 : Int32)) hx hb hown (hts _ k_1013) dX11_isComplete_37 ?_
        refine lv_icmp_ne (tgt := 46) hx hb dX11_isComplete_39 (by decide) (fun c2 => ?_) (fun c2 => ?_)
        · replace h := fb_f c2 h
          refine lv_iconst (v := (0 : Int32)) hx hb dX11_isComplete_46 (by decide) ?_
          have hu := Option.some.inj h
          exact hret _ _ _ _ _ dX11_isComplete_47 rfl (by rw [← hu]) hP hD hS
        · replace h := fb_t c2 h
          refine lv_iconst (v := (1 : Int32)) hx hb dX11_isComplete_42 (by decide) ?_
          refine lv_goto (tgt := 47) hx hb dX11_isComplete_43 (by decide) ?_
          have hu := Option.some.inj h
          exact hret _ _ _ _ _ dX11_isComplete_47 rfl (by rw [← hu]) hP hD hS
      · replace h := fb_f c1 h
        refine lv_iload_n hx hb dX11_isComplete_9 rfl (lv_at hl 2 rfl) ?_
        refine lv_aload_n hx hb dX11_isComplete_10 rfl (lv_at hl 1 rfl) ?_
        refine lv_iload_n hx hb dX11_isComplete_11 rfl (lv_at hl 3 rfl) ?_
        obtain ⟨g3, h⟩ := fb_g h
        refine va_iald hx hb hK hP 0 0 rfl rfl g3 dX11_isComplete_12 ?_
        refine lv_if_le (tgt := 27) hx hb dX11_isComplete_13 (by decide) (fun c4 => ?_) (fun c4 => ?_)
        · replace h := fb_t c4 h
          refine lv_iconst (v := (0 : Int32)) hx hb dX11_isComplete_27 (by decide) ?_
          refine lv_iadd hx hb dX11_isComplete_28 ?_
          refine lv_istore_n (lv' := [(2, .int (x2 + (0 : Int32))), (0, .int x0), (1, .ref a1), (3, .int x3)]) hx hb dX11_isComplete_29 rfl hl (by decide) rfl (fun ls hl => ?_)
          refine lv_iinc (v := (x3 + (1 : Int32))) (lv' := [(3, .int (x3 + (1 : Int32))), (2, .int (x2 + (0 : Int32))), (0, .int x0), (1, .ref a1)]) hx hb dX11_isComplete_30 hl (k := 3) rfl rfl (by decide) rfl (fun ls hl => ?_)
          refine lv_goto (tgt := 4) hx hb dX11_isComplete_33 (by decide) ?_
          exact ih (x2 + (0 : Int32)) (x3 + (1 : Int32)) _ _ _ hP hD hS (lv_sub hl [2, 3, 1, 0] rfl) h
        · replace h := fb_f c4 h
          refine lv_iconst (v := (1 : Int32)) hx hb dX11_isComplete_16 (by decide) ?_
          refine lv_bipush (v := (15 : Int32)) hx hb dX11_isComplete_17 (by decide) ?_
          refine lv_aload_n hx hb dX11_isComplete_19 rfl (lv_at hl 1 rfl) ?_
          refine lv_iload_n hx hb dX11_isComplete_20 rfl (lv_at hl 3 rfl) ?_
          obtain ⟨g5, h⟩ := fb_g h
          refine va_iald hx hb hK hP 0 0 rfl rfl g5 dX11_isComplete_21 ?_
          refine lv_isub hx hb dX11_isComplete_22 ?_
          refine lv_ishl hx hb dX11_isComplete_23 ?_
          refine lv_goto (tgt := 28) hx hb dX11_isComplete_24 (by decide) ?_
          refine lv_iadd hx hb dX11_isComplete_28 ?_
          refine lv_istore_n (lv' := [(2, .int (x2 + ((1 : Int32) <<< (((15 : Int32) - (a1_v (x3).toNatClampNeg)) &&& 31)))), (0, .int x0), (1, .ref a1), (3, .int x3)]) hx hb dX11_isComplete_29 rfl hl (by decide) rfl (fun ls hl => ?_)
          refine lv_iinc (v := (x3 + (1 : Int32))) (lv' := [(3, .int (x3 + (1 : Int32))), (2, .int (x2 + ((1 : Int32) <<< (((15 : Int32) - (a1_v (x3).toNatClampNeg)) &&& 31)))), (0, .int x0), (1, .ref a1)]) hx hb dX11_isComplete_30 hl (k := 3) rfl rfl (by decide) rfl (fun ls hl => ?_)
          refine lv_goto (tgt := 4) hx hb dX11_isComplete_33 (by decide) ?_
          exact ih (x2 + ((1 : Int32) <<< (((15 : Int32) - (a1_v (x3).toNatClampNeg)) &&& 31))) (x3 + (1 : Int32)) _ _ _ hP hD hS (lv_sub hl [2, 3, 1, 0] rfl) h
  unfold pX11_isComplete at h
  refine lv_iconst (v := (0 : Int32)) hx hb dX11_isComplete_0 (by decide) ?_
  refine lv_istore_n (lv' := [(2, .int (0 : Int32)), (0, .int x0), (1, .ref a1)]) hx hb dX11_isComplete_1 rfl hl (by decide) rfl (fun ls hl => ?_)
  refine lv_iconst (v := (0 : Int32)) hx hb dX11_isComplete_2 (by decide) ?_
  refine lv_istore_n (lv' := [(3, .int (0 : Int32)), (2, .int (0 : Int32)), (0, .int x0), (1, .ref a1)]) hx hb dX11_isComplete_3 rfl hl (by decide) rfl (fun ls hl => ?_)
  exact wB4 fb_F (0 : Int32) (0 : Int32) _ _ _ hP hD hS (lv_sub hl [2, 3, 1, 0] rfl) h
theorem dX11_isOne_0 : decode cX11_isOne 0 = .ok (.iload_n 0, 1) := by decide +kernel
theorem dX11_isOne_1 : decode cX11_isOne 1 = .ok (.aload_n 1, 1) := by decide +kernel
theorem dX11_isOne_2 : decode cX11_isOne 2 = .ok (.iconst 1, 1) := by decide +kernel
theorem dX11_isOne_3 : decode cX11_isOne 3 = .ok (.invokestatic 234, 3) := by decide +kernel
theorem dX11_isOne_6 : decode cX11_isOne 6 = .ok (.iconst 1, 1) := by decide +kernel
theorem dX11_isOne_7 : decode cX11_isOne 7 = .ok (.if_icmp .ne 19, 3) := by decide +kernel
theorem dX11_isOne_10 : decode cX11_isOne 10 = .ok (.iload_n 0, 1) := by decide +kernel
theorem dX11_isOne_11 : decode cX11_isOne 11 = .ok (.aload_n 1, 1) := by decide +kernel
theorem dX11_isOne_12 : decode cX11_isOne 12 = .ok (.iconst 0, 1) := by decide +kernel
theorem dX11_isOne_13 : decode cX11_isOne 13 = .ok (.invokestatic 234, 3) := by decide +kernel
theorem dX11_isOne_16 : decode cX11_isOne 16 = .ok (.iload_n 0, 1) := by decide +kernel
theorem dX11_isOne_17 : decode cX11_isOne 17 = .ok (.iconst 1, 1) := by decide +kernel
theorem dX11_isOne_18 : decode cX11_isOne 18 = .ok (.isub, 1) := by decide +kernel
theorem dX11_isOne_19 : decode cX11_isOne 19 = .ok (.if_icmp .ne 7, 3) := by decide +kernel
theorem dX11_isOne_22 : decode cX11_isOne 22 = .ok (.iconst 1, 1) := by decide +kernel
theorem dX11_isOne_23 : decode cX11_isOne 23 = .ok (.goto 4, 3) := by decide +kernel
theorem dX11_isOne_26 : decode cX11_isOne 26 = .ok (.iconst 0, 1) := by decide +kernel
theorem dX11_isOne_27 : decode cX11_isOne 27 = .ok (.ireturn, 1) := by decide +kernel
def pX11_isOne (a1_n : Nat) (a1_v : Nat → Int32) (x0 : Int32)   : Option (Int32) :=
  (pX11_howMany a1_n a1_v x0 (1 : Int32)).bind (fun u1 =>
  if u1 = (1 : Int32) then
  ((pX11_howMany a1_n a1_v x0 (0 : Int32)).bind (fun u3 =>
  if u3 = (x0 - (1 : Int32)) then
  (some ((1 : Int32)))
  else
  (some ((0 : Int32)))))
  else
  (some ((0 : Int32))))
theorem hdX11_isOne : yX11_isOne.cls ≠ "java/lang/invoke/MethodHandle" ∧ yX11_isOne.cls ≠ "java/lang/invoke/VarHandle" ∧ (parseMethodDescriptor yX11_isOne.desc).map (fun d => d.parameters.length) = some 2 := by decide +kernel
set_option maxHeartbeats 8000000 in
set_option maxRecDepth 100000 in
theorem mX11_isOne (l : Launch) (dC : Nat → ClassId) (dI : Nat → Nat → Nat) (a1 : Nat) (a1_c : ClassId) (a1_n : Nat) (a1_v : Nat → Int32) (x0 : Int32) (sz : Nat) (u : Int32) (h : pX11_isOne a1_n a1_v x0 = some u) : Met l yX11_isOne (Cond.code yX11_isOne cX11_isOne 2 (some .boolean) :: fb_tb) ({ frames := 1, cells := 0, slots := 0, locals := 24 }) (fb_Pc (dC, dI) [.int x0, .ref a1] sz [(a1_c, .int)] [(a1, .inl (a1_c, a1_n, .inl a1_v))]) (fb_Qi (dC, dI) u [(a1, .inl (a1_c, a1_n, .inl a1_v))] (va_A [(a1, .inl (a1_c, a1_n, .inl a1_v))] sz)) 0 0 (va_A [(a1, .inl (a1_c, a1_n, .inl a1_v))] sz) := by
  refine fb_meti (ty := .boolean) (by decide) (Nat.le_of_ble_eq_true rfl) (fun p e s m args below meth c A Q ls H hx hb hml hown hts hP hK hN hZ hD hA hS hret hl => ?_)
  replace hl : lv_has ls 2 [(0, .int x0), (1, .ref a1)] := hl
  unfold pX11_isOne at h
  refine lv_iload_n hx hb dX11_isOne_0 rfl (lv_at hl 0 rfl) ?_
  refine lv_aload_n hx hb dX11_isOne_1 rfl (lv_at hl 1 rfl) ?_
  refine lv_iconst (v := (1 : Int32)) hx hb dX11_isOne_2 (by decide) ?_
  obtain ⟨u1, e1, h⟩ := fb_b h
  refine fb_ci (wc := [(a1, .inl (a1_c, a1_n, .inl a1_v))]) (wr := []) (w1 := [(a1, .inl (a1_c, a1_n, .inl a1_v))]) (ws' := [(a1, .inl (a1_c, a1_n, .inl a1_v))]) (va_runS (As := [.int x0, .ref a1, .int (1 : Int32)]) (rest := []) ⟨hx, hb, hml, hown, hts⟩ (mX11_howMany l dC dI a1 a1_c a1_n a1_v x0 (1 : Int32) H.size u1 e1) (va_cwS 3 hts (fb_GSx k_1147 k_1148 k_74 k_1149) rfl rfl rfl hdX11_howMany ⟨Nat.le_of_ble_eq_true rfl, Nat.le_of_ble_eq_true rfl⟩) (fb_pS hP hD hS hA hK hN hZ [0] rfl rfl [0] rfl) rfl rfl hl.1 rfl (lv_room (Nat.le_of_ble_eq_true rfl)) dX11_isOne_3 ⟨Nat.le_of_ble_eq_true rfl, Nat.le_of_ble_eq_true rfl⟩) hP hD hS hA [0] [] rfl rfl rfl (by decide) [0] rfl rfl (fun H locs hP hD hS => ?_)
  refine lv_iconst (v := (1 : Int32)) hx hb dX11_isOne_6 (by decide) ?_
  refine lv_icmp_ne (tgt := 26) hx hb dX11_isOne_7 (by decide) (fun c2 => ?_) (fun c2 => ?_)
  · replace h := fb_f c2 h
    refine lv_iconst (v := (0 : Int32)) hx hb dX11_isOne_26 (by decide) ?_
    have hu := Option.some.inj h
    exact hret _ _ _ _ _ dX11_isOne_27 rfl (by rw [← hu]) hP hD hS
  · replace h := fb_t c2 h
    refine lv_iload_n hx hb dX11_isOne_10 rfl (lv_at hl 0 rfl) ?_
    refine lv_aload_n hx hb dX11_isOne_11 rfl (lv_at hl 1 rfl) ?_
    refine lv_iconst (v := (0 : Int32)) hx hb dX11_isOne_12 (by decide) ?_
    obtain ⟨u3, e3, h⟩ := fb_b h
    refine fb_ci (wc := [(a1, .inl (a1_c, a1_n, .inl a1_v))]) (wr := []) (w1 := [(a1, .inl (a1_c, a1_n, .inl a1_v))]) (ws' := [(a1, .inl (a1_c, a1_n, .inl a1_v))]) (va_runS (As := [.int x0, .ref a1, .int (0 : Int32)]) (rest := []) ⟨hx, hb, hml, hown, hts⟩ (mX11_howMany l dC dI a1 a1_c a1_n a1_v x0 (0 : Int32) H.size u3 e3) (va_cwS 3 hts (fb_GSx k_1147 k_1148 k_74 k_1149) rfl rfl rfl hdX11_howMany ⟨Nat.le_of_ble_eq_true rfl, Nat.le_of_ble_eq_true rfl⟩) (fb_pS hP hD hS hA hK hN hZ [0] rfl rfl [0] rfl) rfl rfl hl.1 rfl (lv_room (Nat.le_of_ble_eq_true rfl)) dX11_isOne_13 ⟨Nat.le_of_ble_eq_true rfl, Nat.le_of_ble_eq_true rfl⟩) hP hD hS hA [0] [] rfl rfl rfl (by decide) [0] rfl rfl (fun H locs hP hD hS => ?_)
    refine lv_iload_n hx hb dX11_isOne_16 rfl (lv_at hl 0 rfl) ?_
    refine lv_iconst (v := (1 : Int32)) hx hb dX11_isOne_17 (by decide) ?_
    refine lv_isub hx hb dX11_isOne_18 ?_
    refine lv_icmp_ne (tgt := 26) hx hb dX11_isOne_19 (by decide) (fun c4 => ?_) (fun c4 => ?_)
    · replace h := fb_f c4 h
      refine lv_iconst (v := (0 : Int32)) hx hb dX11_isOne_26 (by decide) ?_
      have hu := Option.some.inj h
      exact hret _ _ _ _ _ dX11_isOne_27 rfl (by rw [← hu]) hP hD hS
    · replace h := fb_t c4 h
      refine lv_iconst (v := (1 : Int32)) hx hb dX11_isOne_22 (by decide) ?_
      refine lv_goto (tgt := 27) hx hb dX11_isOne_23 (by decide) ?_
      have hu := Option.some.inj h
      exact hret _ _ _ _ _ dX11_isOne_27 rfl (by rw [← hu]) hP hD hS
theorem dX11_symbol_0 : decode cX11_symbol 0 = .ok (.iconst 0, 1) := by decide +kernel
theorem dX11_symbol_1 : decode cX11_symbol 1 = .ok (.istore 4, 2) := by decide +kernel
theorem dX11_symbol_3 : decode cX11_symbol 3 = .ok (.iconst 0, 1) := by decide +kernel
theorem dX11_symbol_4 : decode cX11_symbol 4 = .ok (.istore 5, 2) := by decide +kernel
theorem dX11_symbol_6 : decode cX11_symbol 6 = .ok (.iload 5, 2) := by decide +kernel
theorem dX11_symbol_8 : decode cX11_symbol 8 = .ok (.iload_n 1, 1) := by decide +kernel
theorem dX11_symbol_9 : decode cX11_symbol 9 = .ok (.if_icmp .ge 29, 3) := by decide +kernel
theorem dX11_symbol_12 : decode cX11_symbol 12 = .ok (.aload_n 2, 1) := by decide +kernel
theorem dX11_symbol_13 : decode cX11_symbol 13 = .ok (.iload 5, 2) := by decide +kernel
theorem dX11_symbol_15 : decode cX11_symbol 15 = .ok (.iaload, 1) := by decide +kernel
theorem dX11_symbol_16 : decode cX11_symbol 16 = .ok (.iload 4, 2) := by decide +kernel
theorem dX11_symbol_18 : decode cX11_symbol 18 = .ok (.if_icmp .le 10, 3) := by decide +kernel
theorem dX11_symbol_21 : decode cX11_symbol 21 = .ok (.aload_n 2, 1) := by decide +kernel
theorem dX11_symbol_22 : decode cX11_symbol 22 = .ok (.iload 5, 2) := by decide +kernel
theorem dX11_symbol_24 : decode cX11_symbol 24 = .ok (.iaload, 1) := by decide +kernel
theorem dX11_symbol_25 : decode cX11_symbol 25 = .ok (.goto 5, 3) := by decide +kernel
theorem dX11_symbol_28 : decode cX11_symbol 28 = .ok (.iload 4, 2) := by decide +kernel
theorem dX11_symbol_30 : decode cX11_symbol 30 = .ok (.istore 4, 2) := by decide +kernel
theorem dX11_symbol_32 : decode cX11_symbol 32 = .ok (.iinc 5 1, 3) := by decide +kernel
theorem dX11_symbol_35 : decode cX11_symbol 35 = .ok (.goto (-29), 3) := by decide +kernel
theorem dX11_symbol_38 : decode cX11_symbol 38 = .ok (.iconst 0, 1) := by decide +kernel
theorem dX11_symbol_39 : decode cX11_symbol 39 = .ok (.istore 5, 2) := by decide +kernel
theorem dX11_symbol_41 : decode cX11_symbol 41 = .ok (.iconst 1, 1) := by decide +kernel
theorem dX11_symbol_42 : decode cX11_symbol 42 = .ok (.istore 6, 2) := by decide +kernel
theorem dX11_symbol_44 : decode cX11_symbol 44 = .ok (.iload 6, 2) := by decide +kernel
theorem dX11_symbol_46 : decode cX11_symbol 46 = .ok (.iload 4, 2) := by decide +kernel
theorem dX11_symbol_48 : decode cX11_symbol 48 = .ok (.if_icmp .gt 71, 3) := by decide +kernel
theorem dX11_symbol_51 : decode cX11_symbol 51 = .ok (.aload_n 0, 1) := by decide +kernel
theorem dX11_symbol_52 : decode cX11_symbol 52 = .ok (.getfield 231, 3) := by decide +kernel
theorem dX11_symbol_55 : decode cX11_symbol 55 = .ok (.ifCond .ne 64, 3) := by decide +kernel
theorem dX11_symbol_58 : decode cX11_symbol 58 = .ok (.iconst 2, 1) := by decide +kernel
theorem dX11_symbol_59 : decode cX11_symbol 59 = .ok (.iload 5, 2) := by decide +kernel
theorem dX11_symbol_61 : decode cX11_symbol 61 = .ok (.imul, 1) := by decide +kernel
theorem dX11_symbol_62 : decode cX11_symbol 62 = .ok (.aload_n 0, 1) := by decide +kernel
theorem dX11_symbol_63 : decode cX11_symbol 63 = .ok (.iconst 1, 1) := by decide +kernel
theorem dX11_symbol_64 : decode cX11_symbol 64 = .ok (.invokevirtual 238, 3) := by decide +kernel
theorem dX11_symbol_67 : decode cX11_symbol 67 = .ok (.iadd, 1) := by decide +kernel
theorem dX11_symbol_68 : decode cX11_symbol 68 = .ok (.istore 5, 2) := by decide +kernel
theorem dX11_symbol_70 : decode cX11_symbol 70 = .ok (.iconst 0, 1) := by decide +kernel
theorem dX11_symbol_71 : decode cX11_symbol 71 = .ok (.istore 7, 2) := by decide +kernel
theorem dX11_symbol_73 : decode cX11_symbol 73 = .ok (.iload 7, 2) := by decide +kernel
theorem dX11_symbol_75 : decode cX11_symbol 75 = .ok (.iload_n 1, 1) := by decide +kernel
theorem dX11_symbol_76 : decode cX11_symbol 76 = .ok (.if_icmp .ge 37, 3) := by decide +kernel
theorem dX11_symbol_79 : decode cX11_symbol 79 = .ok (.aload_n 0, 1) := by decide +kernel
theorem dX11_symbol_80 : decode cX11_symbol 80 = .ok (.getfield 231, 3) := by decide +kernel
theorem dX11_symbol_83 : decode cX11_symbol 83 = .ok (.ifCond .ne 30, 3) := by decide +kernel
theorem dX11_symbol_86 : decode cX11_symbol 86 = .ok (.aload_n 2, 1) := by decide +kernel
theorem dX11_symbol_87 : decode cX11_symbol 87 = .ok (.iload 7, 2) := by decide +kernel
theorem dX11_symbol_89 : decode cX11_symbol 89 = .ok (.iaload, 1) := by decide +kernel
theorem dX11_symbol_90 : decode cX11_symbol 90 = .ok (.iload 6, 2) := by decide +kernel
theorem dX11_symbol_92 : decode cX11_symbol 92 = .ok (.if_icmp .ne 15, 3) := by decide +kernel
theorem dX11_symbol_95 : decode cX11_symbol 95 = .ok (.aload_n 3, 1) := by decide +kernel
theorem dX11_symbol_96 : decode cX11_symbol 96 = .ok (.iload 7, 2) := by decide +kernel
theorem dX11_symbol_98 : decode cX11_symbol 98 = .ok (.iaload, 1) := by decide +kernel
theorem dX11_symbol_99 : decode cX11_symbol 99 = .ok (.iload 5, 2) := by decide +kernel
theorem dX11_symbol_101 : decode cX11_symbol 101 = .ok (.if_icmp .ne 6, 3) := by decide +kernel
theorem dX11_symbol_104 : decode cX11_symbol 104 = .ok (.iload 7, 2) := by decide +kernel
theorem dX11_symbol_106 : decode cX11_symbol 106 = .ok (.ireturn, 1) := by decide +kernel
theorem dX11_symbol_107 : decode cX11_symbol 107 = .ok (.iinc 7 1, 3) := by decide +kernel
theorem dX11_symbol_110 : decode cX11_symbol 110 = .ok (.goto (-37), 3) := by decide +kernel
theorem dX11_symbol_113 : decode cX11_symbol 113 = .ok (.iinc 6 1, 3) := by decide +kernel
theorem dX11_symbol_116 : decode cX11_symbol 116 = .ok (.goto (-72), 3) := by decide +kernel
theorem dX11_symbol_119 : decode cX11_symbol 119 = .ok (.aload_n 0, 1) := by decide +kernel
theorem dX11_symbol_120 : decode cX11_symbol 120 = .ok (.iconst 1, 1) := by decide +kernel
theorem dX11_symbol_121 : decode cX11_symbol 121 = .ok (.iconst 5, 1) := by decide +kernel
theorem dX11_symbol_122 : decode cX11_symbol 122 = .ok (.invokevirtual 241, 3) := by decide +kernel
theorem dX11_symbol_125 : decode cX11_symbol 125 = .ok (.iconst (-1), 1) := by decide +kernel
theorem dX11_symbol_126 : decode cX11_symbol 126 = .ok (.ireturn, 1) := by decide +kernel
def pX11_symbol_b119   (o_place : Int32) (o_fail : Int32) : Option (Int32 × Int32 × Int32) :=
  (pX11_cannot (1 : Int32) (5 : Int32) o_fail).bind (fun u1 =>
  some ((-1 : Int32), o_place, u1))
def pX11_symbol_b73 (a2_n : Nat) (a3_n : Nat) (a2_v : Nat → Int32) (a3_v : Nat → Int32) (x1 : Int32) (K44 : Int32 → Int32 → Int32 → Int32 → Int32 → Option (Int32 × Int32 × Int32)) : Nat → Int32 → Int32 → Int32 → Int32 → Int32 → Int32 → Option (Int32 × Int32 × Int32)
  | 0 => fun _ _ _ _ _ _ => none
  | n + 1 => fun o_place o_fail x4 x5 x6 x7 =>
  if x1 ≤ x7 then
  (K44 o_place o_fail x4 x5 (x6 + (1 : Int32)))
  else
  (if o_fail = 0 then
  (if x7 < 0 ∨ a2_n ≤ (x7).toNatClampNeg then none else
  if (a2_v (x7).toNatClampNeg) = x6 then
  (if x7 < 0 ∨ a3_n ≤ (x7).toNatClampNeg then none else
  if (a3_v (x7).toNatClampNeg) = x5 then
  (some (x7, o_place, o_fail))
  else
  ((pX11_symbol_b73 a2_n a3_n a2_v a3_v x1 K44 n) o_place o_fail x4 x5 x6 (x7 + (1 : Int32))))
  else
  ((pX11_symbol_b73 a2_n a3_n a2_v a3_v x1 K44 n) o_place o_fail x4 x5 x6 (x7 + (1 : Int32))))
  else
  (K44 o_place o_fail x4 x5 (x6 + (1 : Int32))))
def pX11_symbol_b44 (o_loaded_n : Nat) (a2_n : Nat) (a3_n : Nat) (o_loadedSize : Int32) (o_loaded_v : Nat → Int32) (a2_v : Nat → Int32) (a3_v : Nat → Int32) (x1 : Int32)  : Nat → Int32 → Int32 → Int32 → Int32 → Int32 → Option (Int32 × Int32 × Int32)
  | 0 => fun _ _ _ _ _ => none
  | n + 1 => fun o_place o_fail x4 x5 x6 =>
  if x4 < x6 then
  (pX11_symbol_b119 o_place o_fail)
  else
  (if o_fail = 0 then
  ((pX11_take_ o_loaded_n o_loadedSize o_loaded_v (1 : Int32) o_place o_fail).bind (fun u10 =>
  pX11_symbol_b73 a2_n a3_n a2_v a3_v x1 (pX11_symbol_b44 o_loaded_n a2_n a3_n o_loadedSize o_loaded_v a2_v a3_v x1 n) fb_F u10.2.1 u10.2.2 x4 (((2 : Int32) * x5) + u10.1) x6 (0 : Int32)))
  else
  (pX11_symbol_b119 o_place o_fail))
def pX11_symbol_b6 (o_loaded_n : Nat) (a2_n : Nat) (a3_n : Nat) (o_loadedSize : Int32) (o_loaded_v : Nat → Int32) (a2_v : Nat → Int32) (a3_v : Nat → Int32) (x1 : Int32)  : Nat → Int32 → Int32 → Int32 → Int32 → Option (Int32 × Int32 × Int32)
  | 0 => fun _ _ _ _ => none
  | n + 1 => fun o_place o_fail x4 x5 =>
  if x1 ≤ x5 then
  (pX11_symbol_b44 o_loaded_n a2_n a3_n o_loadedSize o_loaded_v a2_v a3_v x1 fb_F o_place o_fail x4 (0 : Int32) (1 : Int32))
  else
  (if x5 < 0 ∨ a2_n ≤ (x5).toNatClampNeg then none else
  if (a2_v (x5).toNatClampNeg) ≤ x4 then
  ((pX11_symbol_b6 o_loaded_n a2_n a3_n o_loadedSize o_loaded_v a2_v a3_v x1 n) o_place o_fail x4 (x5 + (1 : Int32)))
  else
  (if x5 < 0 ∨ a2_n ≤ (x5).toNatClampNeg then none else
  (pX11_symbol_b6 o_loaded_n a2_n a3_n o_loadedSize o_loaded_v a2_v a3_v x1 n) o_place o_fail (a2_v (x5).toNatClampNeg) (x5 + (1 : Int32))))
def pX11_symbol (o_loaded_n : Nat) (a2_n : Nat) (a3_n : Nat) (o_loadedSize : Int32) (o_loaded_v : Nat → Int32) (a2_v : Nat → Int32) (a3_v : Nat → Int32) (x1 : Int32)  (o_place : Int32) (o_fail : Int32) : Option (Int32 × Int32 × Int32) :=
  pX11_symbol_b6 o_loaded_n a2_n a3_n o_loadedSize o_loaded_v a2_v a3_v x1 fb_F o_place o_fail (0 : Int32) (0 : Int32)
theorem hdX11_symbol : yX11_symbol.cls = RX11 ∧ yX11_symbol.cls ≠ "java/lang/invoke/MethodHandle" ∧ yX11_symbol.cls ≠ "java/lang/invoke/VarHandle" ∧ (parseMethodDescriptor yX11_symbol.desc).map (fun d => d.parameters.length) = some 3 := by decide +kernel
set_option maxHeartbeats 8000000 in
set_option maxRecDepth 100000 in
theorem mX11_symbol (l : Launch) (dC : Nat → ClassId) (dI : Nat → Nat → Nat) (o : Nat) (a2 : Nat) (a3 : Nat) (o_loaded : Nat) (o_text : Nat) (o_packed : Nat) (o_out : Nat) (o_lengths : Nat) (o_distances : Nat) (o_heads : Nat) (o_earlier : Nat) (o_often : Nat) (o_symbolLengths : Nat) (o_distanceLengths : Nat) (o_lengthLengths : Nat) (o_symbolCodes : Nat) (o_distanceCodes : Nat) (o_lengthCodes : Nat) (o_counts : Nat) (o_parents : Nat) (o_alone : Nat) (o_row : Nat) (o_toldSymbols : Nat) (o_toldNumbers : Nat) (o_loaded_c : ClassId) (a2_c : ClassId) (a3_c : ClassId) (o_loaded_n : Nat) (a2_n : Nat) (a3_n : Nat) (o_textRoom : Int32) (o_byteRoom : Int32) (o_chain : Int32) (o_textSize : Int32) (o_packedSize : Int32) (o_matches : Int32) (o_loadedSize : Int32) (o_outSize : Int32) (o_bits : Int32) (o_tokens : Int32) (o_told : Int32) (o_place : Int32) (o_fail : Int32) (o_found : Int32) (o_symbolCount : Int32) (o_distanceCount : Int32) (o_lengthCount : Int32) (o_loaded_v : Nat → Int32) (a2_v : Nat → Int32) (a3_v : Nat → Int32) (x1 : Int32) (sz : Nat) (u : Int32 × Int32 × Int32) (h : pX11_symbol o_loaded_n a2_n a3_n o_loadedSize o_loaded_v a2_v a3_v x1 o_place o_fail = some u) : Met l yX11_symbol (Cond.code yX11_symbol cX11_symbol 8 (some .int) :: fb_tb) ({ frames := 1, cells := 0, slots := 0, locals := 23 }) (fb_Pc (dC, dI) [.ref o, .int x1, .ref a2, .ref a3] sz [(o_loaded_c, .int), (a2_c, .int), (a3_c, .int)] [(o, .inr (11, [.int o_textRoom, .int o_byteRoom, .int o_chain, .ref o_text, .int o_textSize, .ref o_packed, .int o_packedSize, .int o_matches, .ref o_loaded, .int o_loadedSize, .ref o_out, .int o_outSize, .int o_bits, .int o_tokens, .ref o_lengths, .ref o_distances, .ref o_heads, .ref o_earlier, .ref o_often, .ref o_symbolLengths, .ref o_distanceLengths, .ref o_lengthLengths, .ref o_symbolCodes, .ref o_distanceCodes, .ref o_lengthCodes, .ref o_counts, .ref o_parents, .ref o_alone, .ref o_row, .int o_told, .ref o_toldSymbols, .ref o_toldNumbers, .int o_place, .int o_fail, .int o_found, .int o_symbolCount, .int o_distanceCount, .int o_lengthCount])), (o_loaded, .inl (o_loaded_c, o_loaded_n, .inl o_loaded_v)), (a2, .inl (a2_c, a2_n, .inl a2_v)), (a3, .inl (a3_c, a3_n, .inl a3_v))]) (fb_Qi (dC, dI) u.1 [(o, .inr (11, [.int o_textRoom, .int o_byteRoom, .int o_chain, .ref o_text, .int o_textSize, .ref o_packed, .int o_packedSize, .int o_matches, .ref o_loaded, .int o_loadedSize, .ref o_out, .int o_outSize, .int o_bits, .int o_tokens, .ref o_lengths, .ref o_distances, .ref o_heads, .ref o_earlier, .ref o_often, .ref o_symbolLengths, .ref o_distanceLengths, .ref o_lengthLengths, .ref o_symbolCodes, .ref o_distanceCodes, .ref o_lengthCodes, .ref o_counts, .ref o_parents, .ref o_alone, .ref o_row, .int o_told, .ref o_toldSymbols, .ref o_toldNumbers, .int u.2.1, .int u.2.2, .int o_found, .int o_symbolCount, .int o_distanceCount, .int o_lengthCount])), (o_loaded, .inl (o_loaded_c, o_loaded_n, .inl o_loaded_v)), (a2, .inl (a2_c, a2_n, .inl a2_v)), (a3, .inl (a3_c, a3_n, .inl a3_v))] (va_A [(o, .inr (11, [.int o_textRoom, .int o_byteRoom, .int o_chain, .ref o_text, .int o_textSize, .ref o_packed, .int o_packedSize, .int o_matches, .ref o_loaded, .int o_loadedSize, .ref o_out, .int o_outSize, .int o_bits, .int o_tokens, .ref o_lengths, .ref o_distances, .ref o_heads, .ref o_earlier, .ref o_often, .ref o_symbolLengths, .ref o_distanceLengths, .ref o_lengthLengths, .ref o_symbolCodes, .ref o_distanceCodes, .ref o_lengthCodes, .ref o_counts, .ref o_parents, .ref o_alone, .ref o_row, .int o_told, .ref o_toldSymbols, .ref o_toldNumbers, .int o_place, .int o_fail, .int o_found, .int o_symbolCount, .int o_distanceCount, .int o_lengthCount])), (o_loaded, .inl (o_loaded_c, o_loaded_n, .inl o_loaded_v)), (a2, .inl (a2_c, a2_n, .inl a2_v)), (a3, .inl (a3_c, a3_n, .inl a3_v))] sz)) 0 0 (va_A [(o, .inr (11, [.int o_textRoom, .int o_byteRoom, .int o_chain, .ref o_text, .int o_textSize, .ref o_packed, .int o_packedSize, .int o_matches, .ref o_loaded, .int o_loadedSize, .ref o_out, .int o_outSize, .int o_bits, .int o_tokens, .ref o_lengths, .ref o_distances, .ref o_heads, .ref o_earlier, .ref o_often, .ref o_symbolLengths, .ref o_distanceLengths, .ref o_lengthLengths, .ref o_symbolCodes, .ref o_distanceCodes, .ref o_lengthCodes, .ref o_counts, .ref o_parents, .ref o_alone, .ref o_row, .int o_told, .ref o_toldSymbols, .ref o_toldNumbers, .int o_place, .int o_fail, .int o_found, .int o_symbolCount, .int o_distanceCount, .int o_lengthCount])), (o_loaded, .inl (o_loaded_c, o_loaded_n, .inl o_loaded_v)), (a2, .inl (a2_c, a2_n, .inl a2_v)), (a3, .inl (a3_c, a3_n, .inl a3_v))] sz) := by
  refine fb_meti (ty := .int) (by decide) (Nat.le_of_ble_eq_true rfl) (fun p e s m args below meth c A Q ls H hx hb hml hown hts hP hK hN hZ hD hA hS hret hl => ?_)
  replace hl : lv_has ls 8 [(0, .ref o), (1, .int x1), (2, .ref a2), (3, .ref a3)] := hl
  have wB119 : ∀ (o_place : Int32) (o_fail : Int32) (H : Heap) (locs : List Loc) (ls : Array Slot), va_P (dC, dI) fb_cl [(o, .inr (11, [.int o_textRoom, .int o_byteRoom, .int o_chain, .ref o_text, .int o_textSize, .ref o_packed, .int o_packedSize, .int o_matches, .ref o_loaded, .int o_loadedSize, .ref o_out, .int o_outSize, .int o_bits, .int o_tokens, .ref o_lengths, .ref o_distances, .ref o_heads, .ref o_earlier, .ref o_often, .ref o_symbolLengths, .ref o_distanceLengths, .ref o_lengthLengths, .ref o_symbolCodes, .ref o_distanceCodes, .ref o_lengthCodes, .ref o_counts, .ref o_parents, .ref o_alone, .ref o_row, .int o_told, .ref o_toldSymbols, .ref o_toldNumbers, .int o_place, .int o_fail, .int o_found, .int o_symbolCount, .int o_distanceCount, .int o_lengthCount])), (o_loaded, .inl (o_loaded_c, o_loaded_n, .inl o_loaded_v)), (a2, .inl (a2_c, a2_n, .inl a2_v)), (a3, .inl (a3_c, a3_n, .inl a3_v))] H → va_D A [(o, .inr (11, [.int o_textRoom, .int o_byteRoom, .int o_chain, .ref o_text, .int o_textSize, .ref o_packed, .int o_packedSize, .int o_matches, .ref o_loaded, .int o_loadedSize, .ref o_out, .int o_outSize, .int o_bits, .int o_tokens, .ref o_lengths, .ref o_distances, .ref o_heads, .ref o_earlier, .ref o_often, .ref o_symbolLengths, .ref o_distanceLengths, .ref o_lengthLengths, .ref o_symbolCodes, .ref o_distanceCodes, .ref o_lengthCodes, .ref o_counts, .ref o_parents, .ref o_alone, .ref o_row, .int o_told, .ref o_toldSymbols, .ref o_toldNumbers, .int o_place, .int o_fail, .int o_found, .int o_symbolCount, .int o_distanceCount, .int o_lengthCount])), (o_loaded, .inl (o_loaded_c, o_loaded_n, .inl o_loaded_v)), (a2, .inl (a2_c, a2_n, .inl a2_v)), (a3, .inl (a3_c, a3_n, .inl a3_v))] → va_S A s.heap H locs → lv_has ls 8 [(0, .ref o)] → pX11_symbol_b119 o_place o_fail = some u → W p l e ({ frames := 1, cells := 0, slots := 0, locals := 23 }) s m args below meth c H locs 0 0 Q (F0 m 119 ls []) := by
    intro  o_place o_fail H locs ls hP hD hS hl h
    unfold pX11_symbol_b119 at h
    refine lv_aload_n hx hb dX11_symbol_119 rfl (lv_at hl 0 rfl) ?_
    refine lv_iconst (v := (1 : Int32)) hx hb dX11_symbol_120 (by decide) ?_
    refine lv_iconst (v := (5 : Int32)) hx hb dX11_symbol_121 (by decide) ?_
    obtain ⟨u1, e1, h⟩ := fb_b h
    refine fb_cv (wc := [(o, .inr (11, [.int o_textRoom, .int o_byteRoom, .int o_chain, .ref o_text, .int o_textSize, .ref o_packed, .int o_packedSize, .int o_matches, .ref o_loaded, .int o_loadedSize, .ref o_out, .int o_outSize, .int o_bits, .int o_tokens, .ref o_lengths, .ref o_distances, .ref o_heads, .ref o_earlier, .ref o_often, .ref o_symbolLengths, .ref o_distanceLengths, .ref o_lengthLengths, .ref o_symbolCodes, .ref o_distanceCodes, .ref o_lengthCodes, .ref o_counts, .ref o_parents, .ref o_alone, .ref o_row, .int o_told, .ref o_toldSymbols, .ref o_toldNumbers, .int o_place, .int o_fail, .int o_found, .int o_symbolCount, .int o_distanceCount, .int o_lengthCount]))]) (wr := [(o_loaded, .inl (o_loaded_c, o_loaded_n, .inl o_loaded_v)), (a2, .inl (a2_c, a2_n, .inl a2_v)), (a3, .inl (a3_c, a3_n, .inl a3_v))]) (w1 := [(o, .inr (11, [.int o_textRoom, .int o_byteRoom, .int o_chain, .ref o_text, .int o_textSize, .ref o_packed, .int o_packedSize, .int o_matches, .ref o_loaded, .int o_loadedSize, .ref o_out, .int o_outSize, .int o_bits, .int o_tokens, .ref o_lengths, .ref o_distances, .ref o_heads, .ref o_earlier, .ref o_often, .ref o_symbolLengths, .ref o_distanceLengths, .ref o_lengthLengths, .ref o_symbolCodes, .ref o_distanceCodes, .ref o_lengthCodes, .ref o_counts, .ref o_parents, .ref o_alone, .ref o_row, .int o_told, .ref o_toldSymbols, .ref o_toldNumbers, .int o_place, .int u1, .int o_found, .int o_symbolCount, .int o_distanceCount, .int o_lengthCount]))]) (ws' := [(o, .inr (11, [.int o_textRoom, .int o_byteRoom, .int o_chain, .ref o_text, .int o_textSize, .ref o_packed, .int o_packedSize, .int o_matches, .ref o_loaded, .int o_loadedSize, .ref o_out, .int o_outSize, .int o_bits, .int o_tokens, .ref o_lengths, .ref o_distances, .ref o_heads, .ref o_earlier, .ref o_often, .ref o_symbolLengths, .ref o_distanceLengths, .ref o_lengthLengths, .ref o_symbolCodes, .ref o_distanceCodes, .ref o_lengthCodes, .ref o_counts, .ref o_parents, .ref o_alone, .ref o_row, .int o_told, .ref o_toldSymbols, .ref o_toldNumbers, .int o_place, .int u1, .int o_found, .int o_symbolCount, .int o_distanceCount, .int o_lengthCount])), (o_loaded, .inl (o_loaded_c, o_loaded_n, .inl o_loaded_v)), (a2, .inl (a2_c, a2_n, .inl a2_v)), (a3, .inl (a3_c, a3_n, .inl a3_v))]) (va_runV (As := [.int (1 : Int32), .int (5 : Int32)]) (rest := []) ⟨hx, hb, hml, hown, hts⟩ (mX11_cannot l dC dI o o_text o_packed o_loaded o_out o_lengths o_distances o_heads o_earlier o_often o_symbolLengths o_distanceLengths o_lengthLengths o_symbolCodes o_distanceCodes o_lengthCodes o_counts o_parents o_alone o_row o_toldSymbols o_toldNumbers o_textRoom o_byteRoom o_chain o_textSize o_packedSize o_matches o_loadedSize o_outSize o_bits o_tokens o_told o_place o_fail o_found o_symbolCount o_distanceCount o_lengthCount (1 : Int32) (5 : Int32) H.size u1 e1) (cwV 2 hts (fb_GV k_1117 k_1119 k_53 k_74 k_1120) rfl rfl rfl hdX11_cannot ⟨Nat.le_of_ble_eq_true rfl, Nat.le_of_ble_eq_true rfl⟩) (fb_pV hP hD hS hA hK hN hZ [0] rfl rfl [] rfl (q0 := 0) (ci := 11) rfl rfl) rfl rfl hl.1 rfl (lv_room (Nat.le_of_ble_eq_true rfl)) dX11_symbol_122 ⟨Nat.le_of_ble_eq_true rfl, Nat.le_of_ble_eq_true rfl⟩) hP hD hS hA [0] [1, 2, 3] rfl rfl rfl (by decide) [3, 0, 1, 2] rfl rfl (fun H locs hP hD hS => ?_)
    refine lv_iconst (v := (-1 : Int32)) hx hb dX11_symbol_125 (by decide) ?_
    have hu := Option.some.inj h
    exact hret _ _ _ _ _ dX11_symbol_126 rfl (by rw [← hu]) (by rw [← hu]; exact hP) (by rw [← hu]; exact hD) hS
  have wB73 : ∀ (K44 : Int32 → Int32 → Int32 → Int32 → Int32 → Option (Int32 × Int32 × Int32)), (∀ (o_place : Int32) (o_fail : Int32) (x4 : Int32) (x5 : Int32) (x6 : Int32) (H : Heap) (locs : List Loc) (ls : Array Slot), va_P (dC, dI) fb_cl [(o, .inr (11, [.int o_textRoom, .int o_byteRoom, .int o_chain, .ref o_text, .int o_textSize, .ref o_packed, .int o_packedSize, .int o_matches, .ref o_loaded, .int o_loadedSize, .ref o_out, .int o_outSize, .int o_bits, .int o_tokens, .ref o_lengths, .ref o_distances, .ref o_heads, .ref o_earlier, .ref o_often, .ref o_symbolLengths, .ref o_distanceLengths, .ref o_lengthLengths, .ref o_symbolCodes, .ref o_distanceCodes, .ref o_lengthCodes, .ref o_counts, .ref o_parents, .ref o_alone, .ref o_row, .int o_told, .ref o_toldSymbols, .ref o_toldNumbers, .int o_place, .int o_fail, .int o_found, .int o_symbolCount, .int o_distanceCount, .int o_lengthCount])), (o_loaded, .inl (o_loaded_c, o_loaded_n, .inl o_loaded_v)), (a2, .inl (a2_c, a2_n, .inl a2_v)), (a3, .inl (a3_c, a3_n, .inl a3_v))] H → va_D A [(o, .inr (11, [.int o_textRoom, .int o_byteRoom, .int o_chain, .ref o_text, .int o_textSize, .ref o_packed, .int o_packedSize, .int o_matches, .ref o_loaded, .int o_loadedSize, .ref o_out, .int o_outSize, .int o_bits, .int o_tokens, .ref o_lengths, .ref o_distances, .ref o_heads, .ref o_earlier, .ref o_often, .ref o_symbolLengths, .ref o_distanceLengths, .ref o_lengthLengths, .ref o_symbolCodes, .ref o_distanceCodes, .ref o_lengthCodes, .ref o_counts, .ref o_parents, .ref o_alone, .ref o_row, .int o_told, .ref o_toldSymbols, .ref o_toldNumbers, .int o_place, .int o_fail, .int o_found, .int o_symbolCount, .int o_distanceCount, .int o_lengthCount])), (o_loaded, .inl (o_loaded_c, o_loaded_n, .inl o_loaded_v)), (a2, .inl (a2_c, a2_n, .inl a2_v)), (a3, .inl (a3_c, a3_n, .inl a3_v))] → va_S A s.heap H locs → lv_has ls 8 [(0, .ref o), (1, .int x1), (2, .ref a2), (3, .ref a3), (4, .int x4), (5, .int x5), (6, .int x6)] → K44 o_place o_fail x4 x5 x6 = some u → W p l e ({ frames := 1, cells := 0, slots := 0, locals := 23 }) s m args below meth c H locs 0 0 Q (F0 m 44 ls [])) → ∀ n : Nat, ∀ (o_place : Int32) (o_fail : Int32) (x4 : Int32) (x5 : Int32) (x6 : Int32) (x7 : Int32) (H : Heap) (locs : List Loc) (ls : Array Slot), va_P (dC, dI) fb_cl [(o, .inr (11, [.int o_textRoom, .int o_byteRoom, .int o_chain, .ref o_text, .int o_textSize, .ref o_packed, .int o_packedSize, .int o_matches, .ref o_loaded, .int o_loadedSize, .ref o_out, .int o_outSize, .int o_bits, .int o_tokens, .ref o_lengths, .ref o_distances, .ref o_heads, .ref o_earlier, .ref o_often, .ref o_symbolLengths, .ref o_distanceLengths, .ref o_lengthLengths, .ref o_symbolCodes, .ref o_distanceCodes, .ref o_lengthCodes, .ref o_counts, .ref o_parents, .ref o_alone, .ref o_row, .int o_told, .ref o_toldSymbols, .ref o_toldNumbers, .int o_place, .int o_fail, .int o_found, .int o_symbolCount, .int o_distanceCount, .int o_lengthCount])), (o_loaded, .inl (o_loaded_c, o_loaded_n, .inl o_loaded_v)), (a2, .inl (a2_c, a2_n, .inl a2_v)), (a3, .inl (a3_c, a3_n, .inl a3_v))] H → va_D A [(o, .inr (11, [.int o_textRoom, .int o_byteRoom, .int o_chain, .ref o_text, .int o_textSize, .ref o_packed, .int o_packedSize, .int o_matches, .ref o_loaded, .int o_loadedSize, .ref o_out, .int o_outSize, .int o_bits, .int o_tokens, .ref o_lengths, .ref o_distances, .ref o_heads, .ref o_earlier, .ref o_often, .ref o_symbolLengths, .ref o_distanceLengths, .ref o_lengthLengths, .ref o_symbolCodes, .ref o_distanceCodes, .ref o_lengthCodes, .ref o_counts, .ref o_parents, .ref o_alone, .ref o_row, .int o_told, .ref o_toldSymbols, .ref o_toldNumbers, .int o_place, .int o_fail, .int o_found, .int o_symbolCount, .int o_distanceCount, .int o_lengthCount])), (o_loaded, .inl (o_loaded_c, o_loaded_n, .inl o_loaded_v)), (a2, .inl (a2_c, a2_n, .inl a2_v)), (a3, .inl (a3_c, a3_n, .inl a3_v))] → va_S A s.heap H locs → lv_has ls 8 [(0, .ref o), (1, .int x1), (2, .ref a2), (3, .ref a3), (4, .int x4), (5, .int x5), (6, .int x6), (7, .int x7)] → pX11_symbol_b73 a2_n a3_n a2_v a3_v x1 K44 n o_place o_fail x4 x5 x6 x7 = some u → W p l e ({ frames := 1, cells := 0, slots := 0, locals := 23 }) s m args below meth c H locs 0 0 Q (F0 m 73 ls []) := by
    intro K44 hK44 n
    induction n with
    | zero => intro o_place o_fail x4 x5 x6 x7 H locs ls hP hD hS hl h; cases h
    | succ n ih =>
      intro o_place o_fail x4 x5 x6 x7 H locs ls hP hD hS hl h
      rw [pX11_symbol_b73] at h
      refine lv_iload hx hb dX11_symbol_73 (lv_at hl 7 rfl) ?_
      refine lv_iload_n hx hb dX11_symbol_75 rfl (lv_at hl 1 rfl) ?_
      refine lv_icmp_ge (tgt := 113) hx hb dX11_symbol_76 (by decide) (fun c2 => ?_) (fun c2 => ?_)
      · replace h := fb_t c2 h
        refine lv_iinc (v := (x6 + (1 : Int32))) (lv' := [(6, .int (x6 + (1 : Int32))), (0, .ref o), (1, .int x1), (2, .ref a2), (3, .ref a3), (4, .int x4), (5, .int x5), (7, .int x7)]) hx hb dX11_symbol_113 hl (k := 6) rfl rfl (by decide) rfl (fun ls hl => ?_)
        refine lv_goto (tgt := 44) hx hb dX11_symbol_116 (by decide) ?_
        exact hK44 o_place o_fail x4 x5 (x6 + (1 : Int32)) _ _ _ hP hD hS (lv_sub hl [1, 2, 3, 4, 5, 6, 0] rfl) h
      · replace h := fb_f c2 h
        refine lv_aload_n hx hb dX11_symbol_79 rfl (lv_at hl 0 rfl) ?_
        refine va_get (D := (dC, dI)) (ci := 11) (v := .int o_fail) (C := RX11) (T := TX11) (N := 38) hx hb hts i_X11 hown hK hP 0 rfl rfl 33 (by decide) (hts _ k_870) (fun _ h9 => h9) rfl dX11_symbol_80 ?_
        refine lv_if_ne (tgt := 113) hx hb dX11_symbol_83 (by decide) (fun c3 => ?_) (fun c3 => ?_)
        · replace h := fb_f c3 h
          refine lv_iinc (v := (x6 + (1 : Int32))) (lv' := [(6, .int (x6 + (1 : Int32))), (0, .ref o), (1, .int x1), (2, .ref a2), (3, .ref a3), (4, .int x4), (5, .int x5), (7, .int x7)]) hx hb dX11_symbol_113 hl (k := 6) rfl rfl (by decide) rfl (fun ls hl => ?_)
          refine lv_goto (tgt := 44) hx hb dX11_symbol_116 (by decide) ?_
          exact hK44 o_place o_fail x4 x5 (x6 + (1 : Int32)) _ _ _ hP hD hS (lv_sub hl [1, 2, 3, 4, 5, 6, 0] rfl) h
        · replace h := fb_t c3 h
          refine lv_aload_n hx hb dX11_symbol_86 rfl (lv_at hl 2 rfl) ?_
          refine lv_iload hx hb dX11_symbol_87 (lv_at hl 7 rfl) ?_
          obtain ⟨g4, h⟩ := fb_g h
          refine va_iald hx hb hK hP 2 1 rfl rfl g4 dX11_symbol_89 ?_
          refine lv_iload hx hb dX11_symbol_90 (lv_at hl 6 rfl) ?_
          refine lv_icmp_ne (tgt := 107) hx hb dX11_symbol_92 (by decide) (fun c5 => ?_) (fun c5 => ?_)
          · replace h := fb_f c5 h
            refine lv_iinc (v := (x7 + (1 : Int32))) (lv' := [(7, .int (x7 + (1 : Int32))), (0, .ref o), (1, .int x1), (2, .ref a2), (3, .ref a3), (4, .int x4), (5, .int x5), (6, .int x6)]) hx hb dX11_symbol_107 hl (k := 7) rfl rfl (by decide) rfl (fun ls hl => ?_)
            refine lv_goto (tgt := 73) hx hb dX11_symbol_110 (by decide) ?_
            exact ih o_place o_fail x4 x5 x6 (x7 + (1 : Int32)) _ _ _ hP hD hS (lv_sub hl [1, 2, 3, 4, 5, 6, 7, 0] rfl) h
          · replace h := fb_t c5 h
            refine lv_aload_n hx hb dX11_symbol_95 rfl (lv_at hl 3 rfl) ?_
            refine lv_iload hx hb dX11_symbol_96 (lv_at hl 7 rfl) ?_
            obtain ⟨g6, h⟩ := fb_g h
            refine va_iald hx hb hK hP 3 2 rfl rfl g6 dX11_symbol_98 ?_
            refine lv_iload hx hb dX11_symbol_99 (lv_at hl 5 rfl) ?_
            refine lv_icmp_ne (tgt := 107) hx hb dX11_symbol_101 (by decide) (fun c7 => ?_) (fun c7 => ?_)
            · replace h := fb_f c7 h
              refine lv_iinc (v := (x7 + (1 : Int32))) (lv' := [(7, .int (x7 + (1 : Int32))), (0, .ref o), (1, .int x1), (2, .ref a2), (3, .ref a3), (4, .int x4), (5, .int x5), (6, .int x6)]) hx hb dX11_symbol_107 hl (k := 7) rfl rfl (by decide) rfl (fun ls hl => ?_)
              refine lv_goto (tgt := 73) hx hb dX11_symbol_110 (by decide) ?_
              exact ih o_place o_fail x4 x5 x6 (x7 + (1 : Int32)) _ _ _ hP hD hS (lv_sub hl [1, 2, 3, 4, 5, 6, 7, 0] rfl) h
            · replace h := fb_t c7 h
              refine lv_iload hx hb dX11_symbol_104 (lv_at hl 7 rfl) ?_
              have hu := Option.some.inj h
              exact hret _ _ _ _ _ dX11_symbol_106 rfl (by rw [← hu]) (by rw [← hu]; exact hP) (by rw [← hu]; exact hD) hS
  have wB44 : ∀ n : Nat, ∀ (o_place : Int32) (o_fail : Int32) (x4 : Int32) (x5 : Int32) (x6 : Int32) (H : Heap) (locs : List Loc) (ls : Array Slot), va_P (dC, dI) fb_cl [(o, .inr (11, [.int o_textRoom, .int o_byteRoom, .int o_chain, .ref o_text, .int o_textSize, .ref o_packed, .int o_packedSize, .int o_matches, .ref o_loaded, .int o_loadedSize, .ref o_out, .int o_outSize, .int o_bits, .int o_tokens, .ref o_lengths, .ref o_distances, .ref o_heads, .ref o_earlier, .ref o_often, .ref o_symbolLengths, .ref o_distanceLengths, .ref o_lengthLengths, .ref o_symbolCodes, .ref o_distanceCodes, .ref o_lengthCodes, .ref o_counts, .ref o_parents, .ref o_alone, .ref o_row, .int o_told, .ref o_toldSymbols, .ref o_toldNumbers, .int o_place, .int o_fail, .int o_found, .int o_symbolCount, .int o_distanceCount, .int o_lengthCount])), (o_loaded, .inl (o_loaded_c, o_loaded_n, .inl o_loaded_v)), (a2, .inl (a2_c, a2_n, .inl a2_v)), (a3, .inl (a3_c, a3_n, .inl a3_v))] H → va_D A [(o, .inr (11, [.int o_textRoom, .int o_byteRoom, .int o_chain, .ref o_text, .int o_textSize, .ref o_packed, .int o_packedSize, .int o_matches, .ref o_loaded, .int o_loadedSize, .ref o_out, .int o_outSize, .int o_bits, .int o_tokens, .ref o_lengths, .ref o_distances, .ref o_heads, .ref o_earlier, .ref o_often, .ref o_symbolLengths, .ref o_distanceLengths, .ref o_lengthLengths, .ref o_symbolCodes, .ref o_distanceCodes, .ref o_lengthCodes, .ref o_counts, .ref o_parents, .ref o_alone, .ref o_row, .int o_told, .ref o_toldSymbols, .ref o_toldNumbers, .int o_place, .int o_fail, .int o_found, .int o_symbolCount, .int o_distanceCount, .int o_lengthCount])), (o_loaded, .inl (o_loaded_c, o_loaded_n, .inl o_loaded_v)), (a2, .inl (a2_c, a2_n, .inl a2_v)), (a3, .inl (a3_c, a3_n, .inl a3_v))] → va_S A s.heap H locs → lv_has ls 8 [(0, .ref o), (1, .int x1), (2, .ref a2), (3, .ref a3), (4, .int x4), (5, .int x5), (6, .int x6)] → pX11_symbol_b44 o_loaded_n a2_n a3_n o_loadedSize o_loaded_v a2_v a3_v x1 n o_place o_fail x4 x5 x6 = some u → W p l e ({ frames := 1, cells := 0, slots := 0, locals := 23 }) s m args below meth c H locs 0 0 Q (F0 m 44 ls []) := by
    intro n
    induction n with
    | zero => intro o_place o_fail x4 x5 x6 H locs ls hP hD hS hl h; cases h
    | succ n ih =>
      intro o_place o_fail x4 x5 x6 H locs ls hP hD hS hl h
      rw [pX11_symbol_b44] at h
      refine lv_iload hx hb dX11_symbol_44 (lv_at hl 6 rfl) ?_
      refine lv_iload hx hb dX11_symbol_46 (lv_at hl 4 rfl) ?_
      refine lv_icmp_gt (tgt := 119) hx hb dX11_symbol_48 (by decide) (fun c8 => ?_) (fun c8 => ?_)
      · replace h := fb_t c8 h
        exact wB119 o_place o_fail _ _ _ hP hD hS (lv_sub hl [0] rfl) h
      · replace h := fb_f c8 h
        refine lv_aload_n hx hb dX11_symbol_51 rfl (lv_at hl 0 rfl) ?_
        refine va_get (D := (dC, dI)) (ci := 11) (v := .int o_fail) (C := RX11) (T := TX11) (N := 38) hx hb hts i_X11 hown hK hP 0 rfl rfl 33 (by decide) (hts _ k_870) (fun _ h9 => h9) rfl dX11_symbol_52 ?_
        refine lv_if_ne (tgt := 119) hx hb dX11_symbol_55 (by decide) (fun c9 => ?_) (fun c9 => ?_)
        · replace h := fb_f c9 h
          exact wB119 o_place o_fail _ _ _ hP hD hS (lv_sub hl [0] rfl) h
        · replace h := fb_t c9 h
          refine lv_iconst (v := (2 : Int32)) hx hb dX11_symbol_58 (by decide) ?_
          refine lv_iload hx hb dX11_symbol_59 (lv_at hl 5 rfl) ?_
          refine lv_imul hx hb dX11_symbol_61 ?_
          refine lv_aload_n hx hb dX11_symbol_62 rfl (lv_at hl 0 rfl) ?_
          refine lv_iconst (v := (1 : Int32)) hx hb dX11_symbol_63 (by decide) ?_
          obtain ⟨u10, e10, h⟩ := fb_b h
          refine fb_ci (wc := [(o, .inr (11, [.int o_textRoom, .int o_byteRoom, .int o_chain, .ref o_text, .int o_textSize, .ref o_packed, .int o_packedSize, .int o_matches, .ref o_loaded, .int o_loadedSize, .ref o_out, .int o_outSize, .int o_bits, .int o_tokens, .ref o_lengths, .ref o_distances, .ref o_heads, .ref o_earlier, .ref o_often, .ref o_symbolLengths, .ref o_distanceLengths, .ref o_lengthLengths, .ref o_symbolCodes, .ref o_distanceCodes, .ref o_lengthCodes, .ref o_counts, .ref o_parents, .ref o_alone, .ref o_row, .int o_told, .ref o_toldSymbols, .ref o_toldNumbers, .int o_place, .int o_fail, .int o_found, .int o_symbolCount, .int o_distanceCount, .int o_lengthCount])), (o_loaded, .inl (o_loaded_c, o_loaded_n, .inl o_loaded_v))]) (wr := [(a2, .inl (a2_c, a2_n, .inl a2_v)), (a3, .inl (a3_c, a3_n, .inl a3_v))]) (w1 := [(o, .inr (11, [.int o_textRoom, .int o_byteRoom, .int o_chain, .ref o_text, .int o_textSize, .ref o_packed, .int o_packedSize, .int o_matches, .ref o_loaded, .int o_loadedSize, .ref o_out, .int o_outSize, .int o_bits, .int o_tokens, .ref o_lengths, .ref o_distances, .ref o_heads, .ref o_earlier, .ref o_often, .ref o_symbolLengths, .ref o_distanceLengths, .ref o_lengthLengths, .ref o_symbolCodes, .ref o_distanceCodes, .ref o_lengthCodes, .ref o_counts, .ref o_parents, .ref o_alone, .ref o_row, .int o_told, .ref o_toldSymbols, .ref o_toldNumbers, .int u10.2.1, .int u10.2.2, .int o_found, .int o_symbolCount, .int o_distanceCount, .int o_lengthCount])), (o_loaded, .inl (o_loaded_c, o_loaded_n, .inl o_loaded_v))]) (ws' := [(o, .inr (11, [.int o_textRoom, .int o_byteRoom, .int o_chain, .ref o_text, .int o_textSize, .ref o_packed, .int o_packedSize, .int o_matches, .ref o_loaded, .int o_loadedSize, .ref o_out, .int o_outSize, .int o_bits, .int o_tokens, .ref o_lengths, .ref o_distances, .ref o_heads, .ref o_earlier, .ref o_often, .ref o_symbolLengths, .ref o_distanceLengths, .ref o_lengthLengths, .ref o_symbolCodes, .ref o_distanceCodes, .ref o_lengthCodes, .ref o_counts, .ref o_parents, .ref o_alone, .ref o_row, .int o_told, .ref o_toldSymbols, .ref o_toldNumbers, .int u10.2.1, .int u10.2.2, .int o_found, .int o_symbolCount, .int o_distanceCount, .int o_lengthCount])), (o_loaded, .inl (o_loaded_c, o_loaded_n, .inl o_loaded_v)), (a2, .inl (a2_c, a2_n, .inl a2_v)), (a3, .inl (a3_c, a3_n, .inl a3_v))]) (va_runV (As := [.int (1 : Int32)]) (rest := [.int ((2 : Int32) * x5)]) ⟨hx, hb, hml, hown, hts⟩ (mX11_take_ l dC dI o o_loaded o_text o_packed o_out o_lengths o_distances o_heads o_earlier o_often o_symbolLengths o_distanceLengths o_lengthLengths o_symbolCodes o_distanceCodes o_lengthCodes o_counts o_parents o_alone o_row o_toldSymbols o_toldNumbers o_loaded_c o_loaded_n o_textRoom o_byteRoom o_chain o_textSize o_packedSize o_matches o_loadedSize o_outSize o_bits o_tokens o_told o_place o_fail o_found o_symbolCount o_distanceCount o_lengthCount o_loaded_v (1 : Int32) H.size u10 e10) (cwV 1 hts (fb_GV k_1113 k_1115 k_52 k_74 k_1116) rfl rfl rfl hdX11_take_ ⟨Nat.le_of_ble_eq_true rfl, Nat.le_of_ble_eq_true rfl⟩) (fb_pV hP hD hS hA hK hN hZ [0, 1] rfl rfl [0] rfl (q0 := 0) (ci := 11) rfl rfl) rfl rfl hl.1 rfl (lv_room (Nat.le_of_ble_eq_true rfl)) dX11_symbol_64 ⟨Nat.le_of_ble_eq_true rfl, Nat.le_of_ble_eq_true rfl⟩) hP hD hS hA [0, 1] [2, 3] rfl rfl rfl (by decide) [2, 3, 0, 1] rfl rfl (fun H locs hP hD hS => ?_)
          refine lv_iadd hx hb dX11_symbol_67 ?_
          refine lv_istore (lv' := [(5, .int (((2 : Int32) * x5) + u10.1)), (0, .ref o), (1, .int x1), (2, .ref a2), (3, .ref a3), (4, .int x4), (6, .int x6)]) hx hb dX11_symbol_68 hl (by decide) rfl (fun ls hl => ?_)
          refine lv_iconst (v := (0 : Int32)) hx hb dX11_symbol_70 (by decide) ?_
          refine lv_istore (lv' := [(7, .int (0 : Int32)), (5, .int (((2 : Int32) * x5) + u10.1)), (0, .ref o), (1, .int x1), (2, .ref a2), (3, .ref a3), (4, .int x4), (6, .int x6)]) hx hb dX11_symbol_71 hl (by decide) rfl (fun ls hl => ?_)
          exact wB73 (pX11_symbol_b44 o_loaded_n a2_n a3_n o_loadedSize o_loaded_v a2_v a3_v x1 n) ih fb_F u10.2.1 u10.2.2 x4 (((2 : Int32) * x5) + u10.1) x6 (0 : Int32) _ _ _ hP hD hS (lv_sub hl [2, 3, 4, 5, 6, 1, 7, 0] rfl) h
  have wB6 : ∀ n : Nat, ∀ (o_place : Int32) (o_fail : Int32) (x4 : Int32) (x5 : Int32) (H : Heap) (locs : List Loc) (ls : Array Slot), va_P (dC, dI) fb_cl [(o, .inr (11, [.int o_textRoom, .int o_byteRoom, .int o_chain, .ref o_text, .int o_textSize, .ref o_packed, .int o_packedSize, .int o_matches, .ref o_loaded, .int o_loadedSize, .ref o_out, .int o_outSize, .int o_bits, .int o_tokens, .ref o_lengths, .ref o_distances, .ref o_heads, .ref o_earlier, .ref o_often, .ref o_symbolLengths, .ref o_distanceLengths, .ref o_lengthLengths, .ref o_symbolCodes, .ref o_distanceCodes, .ref o_lengthCodes, .ref o_counts, .ref o_parents, .ref o_alone, .ref o_row, .int o_told, .ref o_toldSymbols, .ref o_toldNumbers, .int o_place, .int o_fail, .int o_found, .int o_symbolCount, .int o_distanceCount, .int o_lengthCount])), (o_loaded, .inl (o_loaded_c, o_loaded_n, .inl o_loaded_v)), (a2, .inl (a2_c, a2_n, .inl a2_v)), (a3, .inl (a3_c, a3_n, .inl a3_v))] H → va_D A [(o, .inr (11, [.int o_textRoom, .int o_byteRoom, .int o_chain, .ref o_text, .int o_textSize, .ref o_packed, .int o_packedSize, .int o_matches, .ref o_loaded, .int o_loadedSize, .ref o_out, .int o_outSize, .int o_bits, .int o_tokens, .ref o_lengths, .ref o_distances, .ref o_heads, .ref o_earlier, .ref o_often, .ref o_symbolLengths, .ref o_distanceLengths, .ref o_lengthLengths, .ref o_symbolCodes, .ref o_distanceCodes, .ref o_lengthCodes, .ref o_counts, .ref o_parents, .ref o_alone, .ref o_row, .int o_told, .ref o_toldSymbols, .ref o_toldNumbers, .int o_place, .int o_fail, .int o_found, .int o_symbolCount, .int o_distanceCount, .int o_lengthCount])), (o_loaded, .inl (o_loaded_c, o_loaded_n, .inl o_loaded_v)), (a2, .inl (a2_c, a2_n, .inl a2_v)), (a3, .inl (a3_c, a3_n, .inl a3_v))] → va_S A s.heap H locs → lv_has ls 8 [(0, .ref o), (1, .int x1), (2, .ref a2), (3, .ref a3), (4, .int x4), (5, .int x5)] → pX11_symbol_b6 o_loaded_n a2_n a3_n o_loadedSize o_loaded_v a2_v a3_v x1 n o_place o_fail x4 x5 = some u → W p l e ({ frames := 1, cells := 0, slots := 0, locals := 23 }) s m args below meth c H locs 0 0 Q (F0 m 6 ls []) := by
    intro n
    induction n with
    | zero => intro o_place o_fail x4 x5 H locs ls hP hD hS hl h; cases h
    | succ n ih =>
      intro o_place o_fail x4 x5 H locs ls hP hD hS hl h
      rw [pX11_symbol_b6] at h
      refine lv_iload hx hb dX11_symbol_6 (lv_at hl 5 rfl) ?_
      refine lv_iload_n hx hb dX11_symbol_8 rfl (lv_at hl 1 rfl) ?_
      refine lv_icmp_ge (tgt := 38) hx hb dX11_symbol_9 (by decide) (fun c11 => ?_) (fun c11 => ?_)
      · replace h := fb_t c11 h
        refine lv_iconst (v := (0 : Int32)) hx hb dX11_symbol_38 (by decide) ?_
        refine lv_istore (lv' := [(5, .int (0 : Int32)), (0, .ref o), (1, .int x1), (2, .ref a2), (3, .ref a3), (4, .int x4)]) hx hb dX11_symbol_39 hl (by decide) rfl (fun ls hl => ?_)
        refine lv_iconst (v := (1 : Int32)) hx hb dX11_symbol_41 (by decide) ?_
        refine lv_istore (lv' := [(6, .int (1 : Int32)), (5, .int (0 : Int32)), (0, .ref o), (1, .int x1), (2, .ref a2), (3, .ref a3), (4, .int x4)]) hx hb dX11_symbol_42 hl (by decide) rfl (fun ls hl => ?_)
        exact wB44 fb_F o_place o_fail x4 (0 : Int32) (1 : Int32) _ _ _ hP hD hS (lv_sub hl [2, 3, 4, 5, 6, 1, 0] rfl) h
      · replace h := fb_f c11 h
        refine lv_aload_n hx hb dX11_symbol_12 rfl (lv_at hl 2 rfl) ?_
        refine lv_iload hx hb dX11_symbol_13 (lv_at hl 5 rfl) ?_
        obtain ⟨g12, h⟩ := fb_g h
        refine va_iald hx hb hK hP 2 1 rfl rfl g12 dX11_symbol_15 ?_
        refine lv_iload hx hb dX11_symbol_16 (lv_at hl 4 rfl) ?_
        refine lv_icmp_le (tgt := 28) hx hb dX11_symbol_18 (by decide) (fun c13 => ?_) (fun c13 => ?_)
        · replace h := fb_t c13 h
          refine lv_iload hx hb dX11_symbol_28 (lv_at hl 4 rfl) ?_
          refine lv_istore (lv' := [(4, .int x4), (0, .ref o), (1, .int x1), (2, .ref a2), (3, .ref a3), (5, .int x5)]) hx hb dX11_symbol_30 hl (by decide) rfl (fun ls hl => ?_)
          refine lv_iinc (v := (x5 + (1 : Int32))) (lv' := [(5, .int (x5 + (1 : Int32))), (4, .int x4), (0, .ref o), (1, .int x1), (2, .ref a2), (3, .ref a3)]) hx hb dX11_symbol_32 hl (k := 5) rfl rfl (by decide) rfl (fun ls hl => ?_)
          refine lv_goto (tgt := 6) hx hb dX11_symbol_35 (by decide) ?_
          exact ih o_place o_fail x4 (x5 + (1 : Int32)) _ _ _ hP hD hS (lv_sub hl [2, 3, 4, 5, 1, 0] rfl) h
        · replace h := fb_f c13 h
          refine lv_aload_n hx hb dX11_symbol_21 rfl (lv_at hl 2 rfl) ?_
          refine lv_iload hx hb dX11_symbol_22 (lv_at hl 5 rfl) ?_
          obtain ⟨g14, h⟩ := fb_g h
          refine va_iald hx hb hK hP 2 1 rfl rfl g14 dX11_symbol_24 ?_
          refine lv_goto (tgt := 30) hx hb dX11_symbol_25 (by decide) ?_
          refine lv_istore (lv' := [(4, .int (a2_v (x5).toNatClampNeg)), (0, .ref o), (1, .int x1), (2, .ref a2), (3, .ref a3), (5, .int x5)]) hx hb dX11_symbol_30 hl (by decide) rfl (fun ls hl => ?_)
          refine lv_iinc (v := (x5 + (1 : Int32))) (lv' := [(5, .int (x5 + (1 : Int32))), (4, .int (a2_v (x5).toNatClampNeg)), (0, .ref o), (1, .int x1), (2, .ref a2), (3, .ref a3)]) hx hb dX11_symbol_32 hl (k := 5) rfl rfl (by decide) rfl (fun ls hl => ?_)
          refine lv_goto (tgt := 6) hx hb dX11_symbol_35 (by decide) ?_
          exact ih o_place o_fail (a2_v (x5).toNatClampNeg) (x5 + (1 : Int32)) _ _ _ hP hD hS (lv_sub hl [2, 3, 4, 5, 1, 0] rfl) h
  unfold pX11_symbol at h
  refine lv_iconst (v := (0 : Int32)) hx hb dX11_symbol_0 (by decide) ?_
  refine lv_istore (lv' := [(4, .int (0 : Int32)), (0, .ref o), (1, .int x1), (2, .ref a2), (3, .ref a3)]) hx hb dX11_symbol_1 hl (by decide) rfl (fun ls hl => ?_)
  refine lv_iconst (v := (0 : Int32)) hx hb dX11_symbol_3 (by decide) ?_
  refine lv_istore (lv' := [(5, .int (0 : Int32)), (4, .int (0 : Int32)), (0, .ref o), (1, .int x1), (2, .ref a2), (3, .ref a3)]) hx hb dX11_symbol_4 hl (by decide) rfl (fun ls hl => ?_)
  exact wB6 fb_F o_place o_fail (0 : Int32) (0 : Int32) _ _ _ hP hD hS (lv_sub hl [2, 3, 4, 5, 1, 0] rfl) h
theorem dX11_putOut_0 : decode cX11_putOut 0 = .ok (.aload_n 0, 1) := by decide +kernel
theorem dX11_putOut_1 : decode cX11_putOut 1 = .ok (.aload_n 0, 1) := by decide +kernel
theorem dX11_putOut_2 : decode cX11_putOut 2 = .ok (.getfield 99, 3) := by decide +kernel
theorem dX11_putOut_5 : decode cX11_putOut 5 = .ok (.aload_n 0, 1) := by decide +kernel
theorem dX11_putOut_6 : decode cX11_putOut 6 = .ok (.getfield 80, 3) := by decide +kernel
theorem dX11_putOut_9 : decode cX11_putOut 9 = .ok (.if_icmp .ne 7, 3) := by decide +kernel
theorem dX11_putOut_12 : decode cX11_putOut 12 = .ok (.iconst 1, 1) := by decide +kernel
theorem dX11_putOut_13 : decode cX11_putOut 13 = .ok (.goto 4, 3) := by decide +kernel
theorem dX11_putOut_16 : decode cX11_putOut 16 = .ok (.iconst 0, 1) := by decide +kernel
theorem dX11_putOut_17 : decode cX11_putOut 17 = .ok (.bipush 7, 2) := by decide +kernel
theorem dX11_putOut_19 : decode cX11_putOut 19 = .ok (.invokevirtual 241, 3) := by decide +kernel
theorem dX11_putOut_22 : decode cX11_putOut 22 = .ok (.aload_n 0, 1) := by decide +kernel
theorem dX11_putOut_23 : decode cX11_putOut 23 = .ok (.getfield 231, 3) := by decide +kernel
theorem dX11_putOut_26 : decode cX11_putOut 26 = .ok (.ifCond .ne 23, 3) := by decide +kernel
theorem dX11_putOut_29 : decode cX11_putOut 29 = .ok (.aload_n 0, 1) := by decide +kernel
theorem dX11_putOut_30 : decode cX11_putOut 30 = .ok (.getfield 21, 3) := by decide +kernel
theorem dX11_putOut_33 : decode cX11_putOut 33 = .ok (.aload_n 0, 1) := by decide +kernel
theorem dX11_putOut_34 : decode cX11_putOut 34 = .ok (.getfield 99, 3) := by decide +kernel
theorem dX11_putOut_37 : decode cX11_putOut 37 = .ok (.iload_n 1, 1) := by decide +kernel
theorem dX11_putOut_38 : decode cX11_putOut 38 = .ok (.iastore, 1) := by decide +kernel
theorem dX11_putOut_39 : decode cX11_putOut 39 = .ok (.aload_n 0, 1) := by decide +kernel
theorem dX11_putOut_40 : decode cX11_putOut 40 = .ok (.dup, 1) := by decide +kernel
theorem dX11_putOut_41 : decode cX11_putOut 41 = .ok (.getfield 99, 3) := by decide +kernel
theorem dX11_putOut_44 : decode cX11_putOut 44 = .ok (.iconst 1, 1) := by decide +kernel
theorem dX11_putOut_45 : decode cX11_putOut 45 = .ok (.iadd, 1) := by decide +kernel
theorem dX11_putOut_46 : decode cX11_putOut 46 = .ok (.putfield 99, 3) := by decide +kernel
theorem dX11_putOut_49 : decode cX11_putOut 49 = .ok (.return_, 1) := by decide +kernel
def pX11_putOut_b17 (o_out_n : Nat) (x1 : Int32)  (o_outSize : Int32) (o_fail : Int32) (o_out_v : Nat → Int32) (t0 : Int32) : Option (Int32 × Int32 × (Nat → Int32)) :=
  (pX11_cannot t0 (7 : Int32) o_fail).bind (fun u1 =>
  if u1 = 0 then
  (if o_outSize < 0 ∨ o_out_n ≤ (o_outSize).toNatClampNeg then none else
  some ((o_outSize + (1 : Int32)), u1, (upd o_out_v (o_outSize).toNatClampNeg x1)))
  else
  (some (o_outSize, u1, o_out_v)))
def pX11_putOut (o_out_n : Nat) (o_textRoom : Int32) (x1 : Int32)  (o_outSize : Int32) (o_fail : Int32) (o_out_v : Nat → Int32) : Option (Int32 × Int32 × (Nat → Int32)) :=
  if o_outSize = o_textRoom then
  (pX11_putOut_b17 o_out_n x1 o_outSize o_fail o_out_v (1 : Int32))
  else
  (pX11_putOut_b17 o_out_n x1 o_outSize o_fail o_out_v (0 : Int32))
theorem hdX11_putOut : yX11_putOut.cls = RX11 ∧ yX11_putOut.cls ≠ "java/lang/invoke/MethodHandle" ∧ yX11_putOut.cls ≠ "java/lang/invoke/VarHandle" ∧ (parseMethodDescriptor yX11_putOut.desc).map (fun d => d.parameters.length) = some 1 := by decide +kernel
set_option maxHeartbeats 8000000 in
set_option maxRecDepth 100000 in
theorem mX11_putOut (l : Launch) (dC : Nat → ClassId) (dI : Nat → Nat → Nat) (o : Nat) (o_out : Nat) (o_text : Nat) (o_packed : Nat) (o_loaded : Nat) (o_lengths : Nat) (o_distances : Nat) (o_heads : Nat) (o_earlier : Nat) (o_often : Nat) (o_symbolLengths : Nat) (o_distanceLengths : Nat) (o_lengthLengths : Nat) (o_symbolCodes : Nat) (o_distanceCodes : Nat) (o_lengthCodes : Nat) (o_counts : Nat) (o_parents : Nat) (o_alone : Nat) (o_row : Nat) (o_toldSymbols : Nat) (o_toldNumbers : Nat) (o_out_c : ClassId) (o_out_n : Nat) (o_textRoom : Int32) (o_byteRoom : Int32) (o_chain : Int32) (o_textSize : Int32) (o_packedSize : Int32) (o_matches : Int32) (o_loadedSize : Int32) (o_outSize : Int32) (o_bits : Int32) (o_tokens : Int32) (o_told : Int32) (o_place : Int32) (o_fail : Int32) (o_found : Int32) (o_symbolCount : Int32) (o_distanceCount : Int32) (o_lengthCount : Int32) (o_out_v : Nat → Int32) (x1 : Int32) (sz : Nat) (u : Int32 × Int32 × (Nat → Int32)) (h : pX11_putOut o_out_n o_textRoom x1 o_outSize o_fail o_out_v = some u) : Met l yX11_putOut (Cond.code yX11_putOut cX11_putOut 2 none :: fb_tb) ({ frames := 1, cells := 0, slots := 0, locals := 22 }) (fb_Pc (dC, dI) [.ref o, .int x1] sz [(o_out_c, .int)] [(o, .inr (11, [.int o_textRoom, .int o_byteRoom, .int o_chain, .ref o_text, .int o_textSize, .ref o_packed, .int o_packedSize, .int o_matches, .ref o_loaded, .int o_loadedSize, .ref o_out, .int o_outSize, .int o_bits, .int o_tokens, .ref o_lengths, .ref o_distances, .ref o_heads, .ref o_earlier, .ref o_often, .ref o_symbolLengths, .ref o_distanceLengths, .ref o_lengthLengths, .ref o_symbolCodes, .ref o_distanceCodes, .ref o_lengthCodes, .ref o_counts, .ref o_parents, .ref o_alone, .ref o_row, .int o_told, .ref o_toldSymbols, .ref o_toldNumbers, .int o_place, .int o_fail, .int o_found, .int o_symbolCount, .int o_distanceCount, .int o_lengthCount])), (o_out, .inl (o_out_c, o_out_n, .inl o_out_v))]) (fb_Qv (dC, dI) [(o, .inr (11, [.int o_textRoom, .int o_byteRoom, .int o_chain, .ref o_text, .int o_textSize, .ref o_packed, .int o_packedSize, .int o_matches, .ref o_loaded, .int o_loadedSize, .ref o_out, .int u.1, .int o_bits, .int o_tokens, .ref o_lengths, .ref o_distances, .ref o_heads, .ref o_earlier, .ref o_often, .ref o_symbolLengths, .ref o_distanceLengths, .ref o_lengthLengths, .ref o_symbolCodes, .ref o_distanceCodes, .ref o_lengthCodes, .ref o_counts, .ref o_parents, .ref o_alone, .ref o_row, .int o_told, .ref o_toldSymbols, .ref o_toldNumbers, .int o_place, .int u.2.1, .int o_found, .int o_symbolCount, .int o_distanceCount, .int o_lengthCount])), (o_out, .inl (o_out_c, o_out_n, .inl u.2.2))] (va_A [(o, .inr (11, [.int o_textRoom, .int o_byteRoom, .int o_chain, .ref o_text, .int o_textSize, .ref o_packed, .int o_packedSize, .int o_matches, .ref o_loaded, .int o_loadedSize, .ref o_out, .int o_outSize, .int o_bits, .int o_tokens, .ref o_lengths, .ref o_distances, .ref o_heads, .ref o_earlier, .ref o_often, .ref o_symbolLengths, .ref o_distanceLengths, .ref o_lengthLengths, .ref o_symbolCodes, .ref o_distanceCodes, .ref o_lengthCodes, .ref o_counts, .ref o_parents, .ref o_alone, .ref o_row, .int o_told, .ref o_toldSymbols, .ref o_toldNumbers, .int o_place, .int o_fail, .int o_found, .int o_symbolCount, .int o_distanceCount, .int o_lengthCount])), (o_out, .inl (o_out_c, o_out_n, .inl o_out_v))] sz)) 0 0 (va_A [(o, .inr (11, [.int o_textRoom, .int o_byteRoom, .int o_chain, .ref o_text, .int o_textSize, .ref o_packed, .int o_packedSize, .int o_matches, .ref o_loaded, .int o_loadedSize, .ref o_out, .int o_outSize, .int o_bits, .int o_tokens, .ref o_lengths, .ref o_distances, .ref o_heads, .ref o_earlier, .ref o_often, .ref o_symbolLengths, .ref o_distanceLengths, .ref o_lengthLengths, .ref o_symbolCodes, .ref o_distanceCodes, .ref o_lengthCodes, .ref o_counts, .ref o_parents, .ref o_alone, .ref o_row, .int o_told, .ref o_toldSymbols, .ref o_toldNumbers, .int o_place, .int o_fail, .int o_found, .int o_symbolCount, .int o_distanceCount, .int o_lengthCount])), (o_out, .inl (o_out_c, o_out_n, .inl o_out_v))] sz) := by
  refine fb_metv (by decide) (Nat.le_of_ble_eq_true rfl) (fun p e s m args below meth c A Q ls H hx hb hml hown hts hP hK hN hZ hD hA hS hret hl => ?_)
  replace hl : lv_has ls 2 [(0, .ref o), (1, .int x1)] := hl
  have wB17 : ∀ (o_outSize : Int32) (o_fail : Int32) (o_out_v : Nat → Int32) (t0 : Int32) (H : Heap) (locs : List Loc) (ls : Array Slot), va_P (dC, dI) fb_cl [(o, .inr (11, [.int o_textRoom, .int o_byteRoom, .int o_chain, .ref o_text, .int o_textSize, .ref o_packed, .int o_packedSize, .int o_matches, .ref o_loaded, .int o_loadedSize, .ref o_out, .int o_outSize, .int o_bits, .int o_tokens, .ref o_lengths, .ref o_distances, .ref o_heads, .ref o_earlier, .ref o_often, .ref o_symbolLengths, .ref o_distanceLengths, .ref o_lengthLengths, .ref o_symbolCodes, .ref o_distanceCodes, .ref o_lengthCodes, .ref o_counts, .ref o_parents, .ref o_alone, .ref o_row, .int o_told, .ref o_toldSymbols, .ref o_toldNumbers, .int o_place, .int o_fail, .int o_found, .int o_symbolCount, .int o_distanceCount, .int o_lengthCount])), (o_out, .inl (o_out_c, o_out_n, .inl o_out_v))] H → va_D A [(o, .inr (11, [.int o_textRoom, .int o_byteRoom, .int o_chain, .ref o_text, .int o_textSize, .ref o_packed, .int o_packedSize, .int o_matches, .ref o_loaded, .int o_loadedSize, .ref o_out, .int o_outSize, .int o_bits, .int o_tokens, .ref o_lengths, .ref o_distances, .ref o_heads, .ref o_earlier, .ref o_often, .ref o_symbolLengths, .ref o_distanceLengths, .ref o_lengthLengths, .ref o_symbolCodes, .ref o_distanceCodes, .ref o_lengthCodes, .ref o_counts, .ref o_parents, .ref o_alone, .ref o_row, .int o_told, .ref o_toldSymbols, .ref o_toldNumbers, .int o_place, .int o_fail, .int o_found, .int o_symbolCount, .int o_distanceCount, .int o_lengthCount])), (o_out, .inl (o_out_c, o_out_n, .inl o_out_v))] → va_S A s.heap H locs → lv_has ls 2 [(0, .ref o), (1, .int x1)] → pX11_putOut_b17 o_out_n x1 o_outSize o_fail o_out_v t0 = some u → W p l e ({ frames := 1, cells := 0, slots := 0, locals := 22 }) s m args below meth c H locs 0 0 Q (F0 m 17 ls [.int t0, .ref o]) := by
    intro  o_outSize o_fail o_out_v t0 H locs ls hP hD hS hl h
    unfold pX11_putOut_b17 at h
    refine lv_bipush (v := (7 : Int32)) hx hb dX11_putOut_17 (by decide) ?_
    obtain ⟨u1, e1, h⟩ := fb_b h
    refine fb_cv (wc := [(o, .inr (11, [.int o_textRoom, .int o_byteRoom, .int o_chain, .ref o_text, .int o_textSize, .ref o_packed, .int o_packedSize, .int o_matches, .ref o_loaded, .int o_loadedSize, .ref o_out, .int o_outSize, .int o_bits, .int o_tokens, .ref o_lengths, .ref o_distances, .ref o_heads, .ref o_earlier, .ref o_often, .ref o_symbolLengths, .ref o_distanceLengths, .ref o_lengthLengths, .ref o_symbolCodes, .ref o_distanceCodes, .ref o_lengthCodes, .ref o_counts, .ref o_parents, .ref o_alone, .ref o_row, .int o_told, .ref o_toldSymbols, .ref o_toldNumbers, .int o_place, .int o_fail, .int o_found, .int o_symbolCount, .int o_distanceCount, .int o_lengthCount]))]) (wr := [(o_out, .inl (o_out_c, o_out_n, .inl o_out_v))]) (w1 := [(o, .inr (11, [.int o_textRoom, .int o_byteRoom, .int o_chain, .ref o_text, .int o_textSize, .ref o_packed, .int o_packedSize, .int o_matches, .ref o_loaded, .int o_loadedSize, .ref o_out, .int o_outSize, .int o_bits, .int o_tokens, .ref o_lengths, .ref o_distances, .ref o_heads, .ref o_earlier, .ref o_often, .ref o_symbolLengths, .ref o_distanceLengths, .ref o_lengthLengths, .ref o_symbolCodes, .ref o_distanceCodes, .ref o_lengthCodes, .ref o_counts, .ref o_parents, .ref o_alone, .ref o_row, .int o_told, .ref o_toldSymbols, .ref o_toldNumbers, .int o_place, .int u1, .int o_found, .int o_symbolCount, .int o_distanceCount, .int o_lengthCount]))]) (ws' := [(o, .inr (11, [.int o_textRoom, .int o_byteRoom, .int o_chain, .ref o_text, .int o_textSize, .ref o_packed, .int o_packedSize, .int o_matches, .ref o_loaded, .int o_loadedSize, .ref o_out, .int o_outSize, .int o_bits, .int o_tokens, .ref o_lengths, .ref o_distances, .ref o_heads, .ref o_earlier, .ref o_often, .ref o_symbolLengths, .ref o_distanceLengths, .ref o_lengthLengths, .ref o_symbolCodes, .ref o_distanceCodes, .ref o_lengthCodes, .ref o_counts, .ref o_parents, .ref o_alone, .ref o_row, .int o_told, .ref o_toldSymbols, .ref o_toldNumbers, .int o_place, .int u1, .int o_found, .int o_symbolCount, .int o_distanceCount, .int o_lengthCount])), (o_out, .inl (o_out_c, o_out_n, .inl o_out_v))]) (va_runV (As := [.int t0, .int (7 : Int32)]) (rest := []) ⟨hx, hb, hml, hown, hts⟩ (mX11_cannot l dC dI o o_text o_packed o_loaded o_out o_lengths o_distances o_heads o_earlier o_often o_symbolLengths o_distanceLengths o_lengthLengths o_symbolCodes o_distanceCodes o_lengthCodes o_counts o_parents o_alone o_row o_toldSymbols o_toldNumbers o_textRoom o_byteRoom o_chain o_textSize o_packedSize o_matches o_loadedSize o_outSize o_bits o_tokens o_told o_place o_fail o_found o_symbolCount o_distanceCount o_lengthCount t0 (7 : Int32) H.size u1 e1) (cwV 2 hts (fb_GV k_1117 k_1119 k_53 k_74 k_1120) rfl rfl rfl hdX11_cannot ⟨Nat.le_of_ble_eq_true rfl, Nat.le_of_ble_eq_true rfl⟩) (fb_pV hP hD hS hA hK hN hZ [0] rfl rfl [] rfl (q0 := 0) (ci := 11) rfl rfl) rfl rfl hl.1 rfl (lv_room (Nat.le_of_ble_eq_true rfl)) dX11_putOut_19 ⟨Nat.le_of_ble_eq_true rfl, Nat.le_of_ble_eq_true rfl⟩) hP hD hS hA [0] [1] rfl rfl rfl (by decide) [1, 0] rfl rfl (fun H locs hP hD hS => ?_)
    refine lv_aload_n hx hb dX11_putOut_22 rfl (lv_at hl 0 rfl) ?_
    refine va_get (D := (dC, dI)) (ci := 11) (v := .int u1) (C := RX11) (T := TX11) (N := 38) hx hb hts i_X11 hown hK hP 0 rfl rfl 33 (by decide) (hts _ k_870) (fun _ h9 => h9) rfl dX11_putOut_23 ?_
    refine lv_if_ne (tgt := 49) hx hb dX11_putOut_26 (by decide) (fun c2 => ?_) (fun c2 => ?_)
    · replace h := fb_f c2 h
      have hu := Option.some.inj h
      exact hret _ _ _ _ dX11_putOut_49 (by rw [← hu]; exact hP) (by rw [← hu]; exact hD) hS
    · replace h := fb_t c2 h
      refine lv_aload_n hx hb dX11_putOut_29 rfl (lv_at hl 0 rfl) ?_
      refine va_get (D := (dC, dI)) (ci := 11) (v := .ref o_out) (C := RX11) (T := TX11) (N := 38) hx hb hts i_X11 hown hK hP 0 rfl rfl 10 (by decide) (hts _ k_847) (fun _ h9 => h9) rfl dX11_putOut_30 ?_
      refine lv_aload_n hx hb dX11_putOut_33 rfl (lv_at hl 0 rfl) ?_
      refine va_get (D := (dC, dI)) (ci := 11) (v := .int o_outSize) (C := RX11) (T := TX11) (N := 38) hx hb hts i_X11 hown hK hP 0 rfl rfl 11 (by decide) (hts _ k_848) (fun _ h9 => h9) rfl dX11_putOut_34 ?_
      refine lv_iload_n hx hb dX11_putOut_37 rfl (lv_at hl 1 rfl) ?_
      obtain ⟨g3, h⟩ := fb_g h
      refine va_iast hx hb hK hP hD hS 1 0 rfl rfl g3 dX11_putOut_38 (fun H locs hP hD hS => ?_)
      replace hP : va_P (dC, dI) fb_cl [(o, .inr (11, [.int o_textRoom, .int o_byteRoom, .int o_chain, .ref o_text, .int o_textSize, .ref o_packed, .int o_packedSize, .int o_matches, .ref o_loaded, .int o_loadedSize, .ref o_out, .int o_outSize, .int o_bits, .int o_tokens, .ref o_lengths, .ref o_distances, .ref o_heads, .ref o_earlier, .ref o_often, .ref o_symbolLengths, .ref o_distanceLengths, .ref o_lengthLengths, .ref o_symbolCodes, .ref o_distanceCodes, .ref o_lengthCodes, .ref o_counts, .ref o_parents, .ref o_alone, .ref o_row, .int o_told, .ref o_toldSymbols, .ref o_toldNumbers, .int o_place, .int u1, .int o_found, .int o_symbolCount, .int o_distanceCount, .int o_lengthCount])), (o_out, .inl (o_out_c, o_out_n, .inl (upd o_out_v (o_outSize).toNatClampNeg x1)))] H := hP
      replace hD : va_D A [(o, .inr (11, [.int o_textRoom, .int o_byteRoom, .int o_chain, .ref o_text, .int o_textSize, .ref o_packed, .int o_packedSize, .int o_matches, .ref o_loaded, .int o_loadedSize, .ref o_out, .int o_outSize, .int o_bits, .int o_tokens, .ref o_lengths, .ref o_distances, .ref o_heads, .ref o_earlier, .ref o_often, .ref o_symbolLengths, .ref o_distanceLengths, .ref o_lengthLengths, .ref o_symbolCodes, .ref o_distanceCodes, .ref o_lengthCodes, .ref o_counts, .ref o_parents, .ref o_alone, .ref o_row, .int o_told, .ref o_toldSymbols, .ref o_toldNumbers, .int o_place, .int u1, .int o_found, .int o_symbolCount, .int o_distanceCount, .int o_lengthCount])), (o_out, .inl (o_out_c, o_out_n, .inl (upd o_out_v (o_outSize).toNatClampNeg x1)))] := hD
      refine lv_aload_n hx hb dX11_putOut_39 rfl (lv_at hl 0 rfl) ?_
      refine lv_dup hx hb dX11_putOut_40 rfl ?_
      refine va_get (D := (dC, dI)) (ci := 11) (v := .int o_outSize) (C := RX11) (T := TX11) (N := 38) hx hb hts i_X11 hown hK hP 0 rfl rfl 11 (by decide) (hts _ k_848) (fun _ h9 => h9) rfl dX11_putOut_41 ?_
      refine lv_iconst (v := (1 : Int32)) hx hb dX11_putOut_44 (by decide) ?_
      refine lv_iadd hx hb dX11_putOut_45 ?_
      refine va_put (D := (dC, dI)) (ci := 11) (v := .int (o_outSize + (1 : Int32))) (ty := .int) (C := RX11) (T := TX11) (N := 38) hx hb hts i_X11 tyX11 tyX11_ok nmX11 hown hK hP hD hS 0 rfl rfl 11 (by decide) (hts _ k_848) (fun _ h9 => h9) rfl (by decide +kernel) rfl rfl (Nat.le_of_ble_eq_true rfl) dX11_putOut_46 (fun H locs hP hD hS => ?_)
      replace hP : va_P (dC, dI) fb_cl [(o, .inr (11, [.int o_textRoom, .int o_byteRoom, .int o_chain, .ref o_text, .int o_textSize, .ref o_packed, .int o_packedSize, .int o_matches, .ref o_loaded, .int o_loadedSize, .ref o_out, .int (o_outSize + (1 : Int32)), .int o_bits, .int o_tokens, .ref o_lengths, .ref o_distances, .ref o_heads, .ref o_earlier, .ref o_often, .ref o_symbolLengths, .ref o_distanceLengths, .ref o_lengthLengths, .ref o_symbolCodes, .ref o_distanceCodes, .ref o_lengthCodes, .ref o_counts, .ref o_parents, .ref o_alone, .ref o_row, .int o_told, .ref o_toldSymbols, .ref o_toldNumbers, .int o_place, .int u1, .int o_found, .int o_symbolCount, .int o_distanceCount, .int o_lengthCount])), (o_out, .inl (o_out_c, o_out_n, .inl (upd o_out_v (o_outSize).toNatClampNeg x1)))] H := hP
      replace hD : va_D A [(o, .inr (11, [.int o_textRoom, .int o_byteRoom, .int o_chain, .ref o_text, .int o_textSize, .ref o_packed, .int o_packedSize, .int o_matches, .ref o_loaded, .int o_loadedSize, .ref o_out, .int (o_outSize + (1 : Int32)), .int o_bits, .int o_tokens, .ref o_lengths, .ref o_distances, .ref o_heads, .ref o_earlier, .ref o_often, .ref o_symbolLengths, .ref o_distanceLengths, .ref o_lengthLengths, .ref o_symbolCodes, .ref o_distanceCodes, .ref o_lengthCodes, .ref o_counts, .ref o_parents, .ref o_alone, .ref o_row, .int o_told, .ref o_toldSymbols, .ref o_toldNumbers, .int o_place, .int u1, .int o_found, .int o_symbolCount, .int o_distanceCount, .int o_lengthCount])), (o_out, .inl (o_out_c, o_out_n, .inl (upd o_out_v (o_outSize).toNatClampNeg x1)))] := hD
      have hu := Option.some.inj h
      exact hret _ _ _ _ dX11_putOut_49 (by rw [← hu]; exact hP) (by rw [← hu]; exact hD) hS
  unfold pX11_putOut at h
  refine lv_aload_n hx hb dX11_putOut_0 rfl (lv_at hl 0 rfl) ?_
  refine lv_aload_n hx hb dX11_putOut_1 rfl (lv_at hl 0 rfl) ?_
  refine va_get (D := (dC, dI)) (ci := 11) (v := .int o_outSize) (C := RX11) (T := TX11) (N := 38) hx hb hts i_X11 hown hK hP 0 rfl rfl 11 (by decide) (hts _ k_848) (fun _ h9 => h9) rfl dX11_putOut_2 ?_
  refine lv_aload_n hx hb dX11_putOut_5 rfl (lv_at hl 0 rfl) ?_
  refine va_get (D := (dC, dI)) (ci := 11) (v := .int o_textRoom) (C := RX11) (T := TX11) (N := 38) hx hb hts i_X11 hown hK hP 0 rfl rfl 0 (by decide) (hts _ k_837) (fun _ h9 => h9) rfl dX11_putOut_6 ?_
  refine lv_icmp_ne (tgt := 16) hx hb dX11_putOut_9 (by decide) (fun c4 => ?_) (fun c4 => ?_)
  · replace h := fb_f c4 h
    refine lv_iconst (v := (0 : Int32)) hx hb dX11_putOut_16 (by decide) ?_
    exact wB17 o_outSize o_fail o_out_v (0 : Int32) _ _ _ hP hD hS (lv_sub hl [0, 1] rfl) h
  · replace h := fb_t c4 h
    refine lv_iconst (v := (1 : Int32)) hx hb dX11_putOut_12 (by decide) ?_
    refine lv_goto (tgt := 17) hx hb dX11_putOut_13 (by decide) ?_
    exact wB17 o_outSize o_fail o_out_v (1 : Int32) _ _ _ hP hD hS (lv_sub hl [0, 1] rfl) h
theorem dX11_kept_0 : decode cX11_kept 0 = .ok (.aload_n 0, 1) := by decide +kernel
theorem dX11_kept_1 : decode cX11_kept 1 = .ok (.aload_n 0, 1) := by decide +kernel
theorem dX11_kept_2 : decode cX11_kept 2 = .ok (.getfield 157, 3) := by decide +kernel
theorem dX11_kept_5 : decode cX11_kept 5 = .ok (.bipush 7, 2) := by decide +kernel
theorem dX11_kept_7 : decode cX11_kept 7 = .ok (.iadd, 1) := by decide +kernel
theorem dX11_kept_8 : decode cX11_kept 8 = .ok (.bipush 8, 2) := by decide +kernel
theorem dX11_kept_10 : decode cX11_kept 10 = .ok (.idiv, 1) := by decide +kernel
theorem dX11_kept_11 : decode cX11_kept 11 = .ok (.bipush 8, 2) := by decide +kernel
theorem dX11_kept_13 : decode cX11_kept 13 = .ok (.imul, 1) := by decide +kernel
theorem dX11_kept_14 : decode cX11_kept 14 = .ok (.putfield 157, 3) := by decide +kernel
theorem dX11_kept_17 : decode cX11_kept 17 = .ok (.aload_n 0, 1) := by decide +kernel
theorem dX11_kept_18 : decode cX11_kept 18 = .ok (.bipush 16, 2) := by decide +kernel
theorem dX11_kept_20 : decode cX11_kept 20 = .ok (.invokevirtual 238, 3) := by decide +kernel
theorem dX11_kept_23 : decode cX11_kept 23 = .ok (.istore_n 1, 1) := by decide +kernel
theorem dX11_kept_24 : decode cX11_kept 24 = .ok (.aload_n 0, 1) := by decide +kernel
theorem dX11_kept_25 : decode cX11_kept 25 = .ok (.bipush 16, 2) := by decide +kernel
theorem dX11_kept_27 : decode cX11_kept 27 = .ok (.invokevirtual 238, 3) := by decide +kernel
theorem dX11_kept_30 : decode cX11_kept 30 = .ok (.istore_n 2, 1) := by decide +kernel
theorem dX11_kept_31 : decode cX11_kept 31 = .ok (.aload_n 0, 1) := by decide +kernel
theorem dX11_kept_32 : decode cX11_kept 32 = .ok (.iload_n 2, 1) := by decide +kernel
theorem dX11_kept_33 : decode cX11_kept 33 = .ok (.ldc 220, 2) := by decide +kernel
theorem dX11_kept_35 : decode cX11_kept 35 = .ok (.iload_n 1, 1) := by decide +kernel
theorem dX11_kept_36 : decode cX11_kept 36 = .ok (.isub, 1) := by decide +kernel
theorem dX11_kept_37 : decode cX11_kept 37 = .ok (.if_icmp .eq 7, 3) := by decide +kernel
theorem dX11_kept_40 : decode cX11_kept 40 = .ok (.iconst 1, 1) := by decide +kernel
theorem dX11_kept_41 : decode cX11_kept 41 = .ok (.goto 4, 3) := by decide +kernel
theorem dX11_kept_44 : decode cX11_kept 44 = .ok (.iconst 0, 1) := by decide +kernel
theorem dX11_kept_45 : decode cX11_kept 45 = .ok (.iconst 3, 1) := by decide +kernel
theorem dX11_kept_46 : decode cX11_kept 46 = .ok (.invokevirtual 241, 3) := by decide +kernel
theorem dX11_kept_49 : decode cX11_kept 49 = .ok (.iconst 0, 1) := by decide +kernel
theorem dX11_kept_50 : decode cX11_kept 50 = .ok (.istore_n 3, 1) := by decide +kernel
theorem dX11_kept_51 : decode cX11_kept 51 = .ok (.iload_n 3, 1) := by decide +kernel
theorem dX11_kept_52 : decode cX11_kept 52 = .ok (.iload_n 1, 1) := by decide +kernel
theorem dX11_kept_53 : decode cX11_kept 53 = .ok (.if_icmp .ge 30, 3) := by decide +kernel
theorem dX11_kept_56 : decode cX11_kept 56 = .ok (.aload_n 0, 1) := by decide +kernel
theorem dX11_kept_57 : decode cX11_kept 57 = .ok (.getfield 231, 3) := by decide +kernel
theorem dX11_kept_60 : decode cX11_kept 60 = .ok (.ifCond .ne 23, 3) := by decide +kernel
theorem dX11_kept_63 : decode cX11_kept 63 = .ok (.aload_n 0, 1) := by decide +kernel
theorem dX11_kept_64 : decode cX11_kept 64 = .ok (.bipush 8, 2) := by decide +kernel
theorem dX11_kept_66 : decode cX11_kept 66 = .ok (.invokevirtual 238, 3) := by decide +kernel
theorem dX11_kept_69 : decode cX11_kept 69 = .ok (.istore 4, 2) := by decide +kernel
theorem dX11_kept_71 : decode cX11_kept 71 = .ok (.aload_n 0, 1) := by decide +kernel
theorem dX11_kept_72 : decode cX11_kept 72 = .ok (.iload 4, 2) := by decide +kernel
theorem dX11_kept_74 : decode cX11_kept 74 = .ok (.invokevirtual 245, 3) := by decide +kernel
theorem dX11_kept_77 : decode cX11_kept 77 = .ok (.iinc 3 1, 3) := by decide +kernel
theorem dX11_kept_80 : decode cX11_kept 80 = .ok (.goto (-29), 3) := by decide +kernel
theorem dX11_kept_83 : decode cX11_kept 83 = .ok (.return_, 1) := by decide +kernel
def pX11_kept_b51 (o_loaded_n : Nat) (o_out_n : Nat) (o_textRoom : Int32) (o_loadedSize : Int32) (o_loaded_v : Nat → Int32)  : Nat → Int32 → Int32 → Int32 → (Nat → Int32) → Int32 → Int32 → Option (Int32 × Int32 × Int32 × (Nat → Int32))
  | 0 => fun _ _ _ _ _ _ => none
  | n + 1 => fun o_outSize o_place o_fail o_out_v x1 x3 =>
  if x1 ≤ x3 then
  (some (o_outSize, o_place, o_fail, o_out_v))
  else
  (if o_fail = 0 then
  ((pX11_take_ o_loaded_n o_loadedSize o_loaded_v (8 : Int32) o_place o_fail).bind (fun u3 =>
  (pX11_putOut o_out_n o_textRoom u3.1 o_outSize u3.2.2 o_out_v).bind (fun u4 =>
  (pX11_kept_b51 o_loaded_n o_out_n o_textRoom o_loadedSize o_loaded_v n) u4.1 u3.2.1 u4.2.1 u4.2.2 x1 (x3 + (1 : Int32)))))
  else
  (some (o_outSize, o_place, o_fail, o_out_v)))
def pX11_kept_b45 (o_loaded_n : Nat) (o_out_n : Nat) (o_textRoom : Int32) (o_loadedSize : Int32) (o_loaded_v : Nat → Int32)  (o_outSize : Int32) (o_place : Int32) (o_fail : Int32) (o_out_v : Nat → Int32) (x1 : Int32) (t0 : Int32) : Option (Int32 × Int32 × Int32 × (Nat → Int32)) :=
  (pX11_cannot t0 (3 : Int32) o_fail).bind (fun u5 =>
  pX11_kept_b51 o_loaded_n o_out_n o_textRoom o_loadedSize o_loaded_v fb_F o_outSize o_place u5 o_out_v x1 (0 : Int32))
def pX11_kept (o_loaded_n : Nat) (o_out_n : Nat) (o_textRoom : Int32) (o_loadedSize : Int32) (o_loaded_v : Nat → Int32)  (o_outSize : Int32) (o_place : Int32) (o_fail : Int32) (o_out_v : Nat → Int32) : Option (Int32 × Int32 × Int32 × (Nat → Int32)) :=
  (pX11_take_ o_loaded_n o_loadedSize o_loaded_v (16 : Int32) (((o_place + (7 : Int32)) / (8 : Int32)) * (8 : Int32)) o_fail).bind (fun u6 =>
  (pX11_take_ o_loaded_n o_loadedSize o_loaded_v (16 : Int32) u6.2.1 u6.2.2).bind (fun u7 =>
  if u7.1 = ((65535 : Int32) - u6.1) then
  (pX11_kept_b45 o_loaded_n o_out_n o_textRoom o_loadedSize o_loaded_v o_outSize u7.2.1 u7.2.2 o_out_v u6.1 (0 : Int32))
  else
  (pX11_kept_b45 o_loaded_n o_out_n o_textRoom o_loadedSize o_loaded_v o_outSize u7.2.1 u7.2.2 o_out_v u6.1 (1 : Int32))))
theorem hdX11_kept : yX11_kept.cls = RX11 ∧ yX11_kept.cls ≠ "java/lang/invoke/MethodHandle" ∧ yX11_kept.cls ≠ "java/lang/invoke/VarHandle" ∧ (parseMethodDescriptor yX11_kept.desc).map (fun d => d.parameters.length) = some 0 := by decide +kernel
set_option maxHeartbeats 8000000 in
set_option maxRecDepth 100000 in
theorem mX11_kept (l : Launch) (dC : Nat → ClassId) (dI : Nat → Nat → Nat) (o : Nat) (o_loaded : Nat) (o_out : Nat) (o_text : Nat) (o_packed : Nat) (o_lengths : Nat) (o_distances : Nat) (o_heads : Nat) (o_earlier : Nat) (o_often : Nat) (o_symbolLengths : Nat) (o_distanceLengths : Nat) (o_lengthLengths : Nat) (o_symbolCodes : Nat) (o_distanceCodes : Nat) (o_lengthCodes : Nat) (o_counts : Nat) (o_parents : Nat) (o_alone : Nat) (o_row : Nat) (o_toldSymbols : Nat) (o_toldNumbers : Nat) (o_loaded_c : ClassId) (o_out_c : ClassId) (o_loaded_n : Nat) (o_out_n : Nat) (o_textRoom : Int32) (o_byteRoom : Int32) (o_chain : Int32) (o_textSize : Int32) (o_packedSize : Int32) (o_matches : Int32) (o_loadedSize : Int32) (o_outSize : Int32) (o_bits : Int32) (o_tokens : Int32) (o_told : Int32) (o_place : Int32) (o_fail : Int32) (o_found : Int32) (o_symbolCount : Int32) (o_distanceCount : Int32) (o_lengthCount : Int32) (o_loaded_v : Nat → Int32) (o_out_v : Nat → Int32)  (sz : Nat) (u : Int32 × Int32 × Int32 × (Nat → Int32)) (h : pX11_kept o_loaded_n o_out_n o_textRoom o_loadedSize o_loaded_v o_outSize o_place o_fail o_out_v = some u) : Met l yX11_kept (Cond.code yX11_kept cX11_kept 5 none :: fb_tb) ({ frames := 2, cells := 0, slots := 0, locals := 43 }) (fb_Pc (dC, dI) [.ref o] sz [(o_loaded_c, .int), (o_out_c, .int)] [(o, .inr (11, [.int o_textRoom, .int o_byteRoom, .int o_chain, .ref o_text, .int o_textSize, .ref o_packed, .int o_packedSize, .int o_matches, .ref o_loaded, .int o_loadedSize, .ref o_out, .int o_outSize, .int o_bits, .int o_tokens, .ref o_lengths, .ref o_distances, .ref o_heads, .ref o_earlier, .ref o_often, .ref o_symbolLengths, .ref o_distanceLengths, .ref o_lengthLengths, .ref o_symbolCodes, .ref o_distanceCodes, .ref o_lengthCodes, .ref o_counts, .ref o_parents, .ref o_alone, .ref o_row, .int o_told, .ref o_toldSymbols, .ref o_toldNumbers, .int o_place, .int o_fail, .int o_found, .int o_symbolCount, .int o_distanceCount, .int o_lengthCount])), (o_loaded, .inl (o_loaded_c, o_loaded_n, .inl o_loaded_v)), (o_out, .inl (o_out_c, o_out_n, .inl o_out_v))]) (fb_Qv (dC, dI) [(o, .inr (11, [.int o_textRoom, .int o_byteRoom, .int o_chain, .ref o_text, .int o_textSize, .ref o_packed, .int o_packedSize, .int o_matches, .ref o_loaded, .int o_loadedSize, .ref o_out, .int u.1, .int o_bits, .int o_tokens, .ref o_lengths, .ref o_distances, .ref o_heads, .ref o_earlier, .ref o_often, .ref o_symbolLengths, .ref o_distanceLengths, .ref o_lengthLengths, .ref o_symbolCodes, .ref o_distanceCodes, .ref o_lengthCodes, .ref o_counts, .ref o_parents, .ref o_alone, .ref o_row, .int o_told, .ref o_toldSymbols, .ref o_toldNumbers, .int u.2.1, .int u.2.2.1, .int o_found, .int o_symbolCount, .int o_distanceCount, .int o_lengthCount])), (o_loaded, .inl (o_loaded_c, o_loaded_n, .inl o_loaded_v)), (o_out, .inl (o_out_c, o_out_n, .inl u.2.2.2))] (va_A [(o, .inr (11, [.int o_textRoom, .int o_byteRoom, .int o_chain, .ref o_text, .int o_textSize, .ref o_packed, .int o_packedSize, .int o_matches, .ref o_loaded, .int o_loadedSize, .ref o_out, .int o_outSize, .int o_bits, .int o_tokens, .ref o_lengths, .ref o_distances, .ref o_heads, .ref o_earlier, .ref o_often, .ref o_symbolLengths, .ref o_distanceLengths, .ref o_lengthLengths, .ref o_symbolCodes, .ref o_distanceCodes, .ref o_lengthCodes, .ref o_counts, .ref o_parents, .ref o_alone, .ref o_row, .int o_told, .ref o_toldSymbols, .ref o_toldNumbers, .int o_place, .int o_fail, .int o_found, .int o_symbolCount, .int o_distanceCount, .int o_lengthCount])), (o_loaded, .inl (o_loaded_c, o_loaded_n, .inl o_loaded_v)), (o_out, .inl (o_out_c, o_out_n, .inl o_out_v))] sz)) 0 0 (va_A [(o, .inr (11, [.int o_textRoom, .int o_byteRoom, .int o_chain, .ref o_text, .int o_textSize, .ref o_packed, .int o_packedSize, .int o_matches, .ref o_loaded, .int o_loadedSize, .ref o_out, .int o_outSize, .int o_bits, .int o_tokens, .ref o_lengths, .ref o_distances, .ref o_heads, .ref o_earlier, .ref o_often, .ref o_symbolLengths, .ref o_distanceLengths, .ref o_lengthLengths, .ref o_symbolCodes, .ref o_distanceCodes, .ref o_lengthCodes, .ref o_counts, .ref o_parents, .ref o_alone, .ref o_row, .int o_told, .ref o_toldSymbols, .ref o_toldNumbers, .int o_place, .int o_fail, .int o_found, .int o_symbolCount, .int o_distanceCount, .int o_lengthCount])), (o_loaded, .inl (o_loaded_c, o_loaded_n, .inl o_loaded_v)), (o_out, .inl (o_out_c, o_out_n, .inl o_out_v))] sz) := by
  refine fb_metv (by decide) (Nat.le_of_ble_eq_true rfl) (fun p e s m args below meth c A Q ls H hx hb hml hown hts hP hK hN hZ hD hA hS hret hl => ?_)
  replace hl : lv_has ls 5 [(0, .ref o)] := hl
  have wB51 : ∀ n : Nat, ∀ (o_outSize : Int32) (o_place : Int32) (o_fail : Int32) (o_out_v : Nat → Int32) (x1 : Int32) (x3 : Int32) (H : Heap) (locs : List Loc) (ls : Array Slot), va_P (dC, dI) fb_cl [(o, .inr (11, [.int o_textRoom, .int o_byteRoom, .int o_chain, .ref o_text, .int o_textSize, .ref o_packed, .int o_packedSize, .int o_matches, .ref o_loaded, .int o_loadedSize, .ref o_out, .int o_outSize, .int o_bits, .int o_tokens, .ref o_lengths, .ref o_distances, .ref o_heads, .ref o_earlier, .ref o_often, .ref o_symbolLengths, .ref o_distanceLengths, .ref o_lengthLengths, .ref o_symbolCodes, .ref o_distanceCodes, .ref o_lengthCodes, .ref o_counts, .ref o_parents, .ref o_alone, .ref o_row, .int o_told, .ref o_toldSymbols, .ref o_toldNumbers, .int o_place, .int o_fail, .int o_found, .int o_symbolCount, .int o_distanceCount, .int o_lengthCount])), (o_loaded, .inl (o_loaded_c, o_loaded_n, .inl o_loaded_v)), (o_out, .inl (o_out_c, o_out_n, .inl o_out_v))] H → va_D A [(o, .inr (11, [.int o_textRoom, .int o_byteRoom, .int o_chain, .ref o_text, .int o_textSize, .ref o_packed, .int o_packedSize, .int o_matches, .ref o_loaded, .int o_loadedSize, .ref o_out, .int o_outSize, .int o_bits, .int o_tokens, .ref o_lengths, .ref o_distances, .ref o_heads, .ref o_earlier, .ref o_often, .ref o_symbolLengths, .ref o_distanceLengths, .ref o_lengthLengths, .ref o_symbolCodes, .ref o_distanceCodes, .ref o_lengthCodes, .ref o_counts, .ref o_parents, .ref o_alone, .ref o_row, .int o_told, .ref o_toldSymbols, .ref o_toldNumbers, .int o_place, .int o_fail, .int o_found, .int o_symbolCount, .int o_distanceCount, .int o_lengthCount])), (o_loaded, .inl (o_loaded_c, o_loaded_n, .inl o_loaded_v)), (o_out, .inl (o_out_c, o_out_n, .inl o_out_v))] → va_S A s.heap H locs → lv_has ls 5 [(0, .ref o), (1, .int x1), (3, .int x3)] → pX11_kept_b51 o_loaded_n o_out_n o_textRoom o_loadedSize o_loaded_v n o_outSize o_place o_fail o_out_v x1 x3 = some u → W p l e ({ frames := 2, cells := 0, slots := 0, locals := 43 }) s m args below meth c H locs 0 0 Q (F0 m 51 ls []) := by
    intro n
    induction n with
    | zero => intro o_outSize o_place o_fail o_out_v x1 x3 H locs ls hP hD hS hl h; cases h
    | succ n ih =>
      intro o_outSize o_place o_fail o_out_v x1 x3 H locs ls hP hD hS hl h
      rw [pX11_kept_b51] at h
      refine lv_iload_n hx hb dX11_kept_51 rfl (lv_at hl 2 rfl) ?_
      refine lv_iload_n hx hb dX11_kept_52 rfl (lv_at hl 1 rfl) ?_
      refine lv_icmp_ge (tgt := 83) hx hb dX11_kept_53 (by decide) (fun c1 => ?_) (fun c1 => ?_)
      · replace h := fb_t c1 h
        have hu := Option.some.inj h
        exact hret _ _ _ _ dX11_kept_83 (by rw [← hu]; exact hP) (by rw [← hu]; exact hD) hS
      · replace h := fb_f c1 h
        refine lv_aload_n hx hb dX11_kept_56 rfl (lv_at hl 0 rfl) ?_
        refine va_get (D := (dC, dI)) (ci := 11) (v := .int o_fail) (C := RX11) (T := TX11) (N := 38) hx hb hts i_X11 hown hK hP 0 rfl rfl 33 (by decide) (hts _ k_870) (fun _ h9 => h9) rfl dX11_kept_57 ?_
        refine lv_if_ne (tgt := 83) hx hb dX11_kept_60 (by decide) (fun c2 => ?_) (fun c2 => ?_)
        · replace h := fb_f c2 h
          have hu := Option.some.inj h
          exact hret _ _ _ _ dX11_kept_83 (by rw [← hu]; exact hP) (by rw [← hu]; exact hD) hS
        · replace h := fb_t c2 h
          refine lv_aload_n hx hb dX11_kept_63 rfl (lv_at hl 0 rfl) ?_
          refine lv_bipush (v := (8 : Int32)) hx hb dX11_kept_64 (by decide) ?_
          obtain ⟨u3, e3, h⟩ := fb_b h
          refine fb_ci (wc := [(o, .inr (11, [.int o_textRoom, .int o_byteRoom, .int o_chain, .ref o_text, .int o_textSize, .ref o_packed, .int o_packedSize, .int o_matches, .ref o_loaded, .int o_loadedSize, .ref o_out, .int o_outSize, .int o_bits, .int o_tokens, .ref o_lengths, .ref o_distances, .ref o_heads, .ref o_earlier, .ref o_often, .ref o_symbolLengths, .ref o_distanceLengths, .ref o_lengthLengths, .ref o_symbolCodes, .ref o_distanceCodes, .ref o_lengthCodes, .ref o_counts, .ref o_parents, .ref o_alone, .ref o_row, .int o_told, .ref o_toldSymbols, .ref o_toldNumbers, .int o_place, .int o_fail, .int o_found, .int o_symbolCount, .int o_distanceCount, .int o_lengthCount])), (o_loaded, .inl (o_loaded_c, o_loaded_n, .inl o_loaded_v))]) (wr := [(o_out, .inl (o_out_c, o_out_n, .inl o_out_v))]) (w1 := [(o, .inr (11, [.int o_textRoom, .int o_byteRoom, .int o_chain, .ref o_text, .int o_textSize, .ref o_packed, .int o_packedSize, .int o_matches, .ref o_loaded, .int o_loadedSize, .ref o_out, .int o_outSize, .int o_bits, .int o_tokens, .ref o_lengths, .ref o_distances, .ref o_heads, .ref o_earlier, .ref o_often, .ref o_symbolLengths, .ref o_distanceLengths, .ref o_lengthLengths, .ref o_symbolCodes, .ref o_distanceCodes, .ref o_lengthCodes, .ref o_counts, .ref o_parents, .ref o_alone, .ref o_row, .int o_told, .ref o_toldSymbols, .ref o_toldNumbers, .int u3.2.1, .int u3.2.2, .int o_found, .int o_symbolCount, .int o_distanceCount, .int o_lengthCount])), (o_loaded, .inl (o_loaded_c, o_loaded_n, .inl o_loaded_v))]) (ws' := [(o, .inr (11, [.int o_textRoom, .int o_byteRoom, .int o_chain, .ref o_text, .int o_textSize, .ref o_packed, .int o_packedSize, .int o_matches, .ref o_loaded, .int o_loadedSize, .ref o_out, .int o_outSize, .int o_bits, .int o_tokens, .ref o_lengths, .ref o_distances, .ref o_heads, .ref o_earlier, .ref o_often, .ref o_symbolLengths, .ref o_distanceLengths, .ref o_lengthLengths, .ref o_symbolCodes, .ref o_distanceCodes, .ref o_lengthCodes, .ref o_counts, .ref o_parents, .ref o_alone, .ref o_row, .int o_told, .ref o_toldSymbols, .ref o_toldNumbers, .int u3.2.1, .int u3.2.2, .int o_found, .int o_symbolCount, .int o_distanceCount, .int o_lengthCount])), (o_loaded, .inl (o_loaded_c, o_loaded_n, .inl o_loaded_v)), (o_out, .inl (o_out_c, o_out_n, .inl o_out_v))]) (va_runV (As := [.int (8 : Int32)]) (rest := []) ⟨hx, hb, hml, hown, hts⟩ (mX11_take_ l dC dI o o_loaded o_text o_packed o_out o_lengths o_distances o_heads o_earlier o_often o_symbolLengths o_distanceLengths o_lengthLengths o_symbolCodes o_distanceCodes o_lengthCodes o_counts o_parents o_alone o_row o_toldSymbols o_toldNumbers o_loaded_c o_loaded_n o_textRoom o_byteRoom o_chain o_textSize o_packedSize o_matches o_loadedSize o_outSize o_bits o_tokens o_told o_place o_fail o_found o_symbolCount o_distanceCount o_lengthCount o_loaded_v (8 : Int32) H.size u3 e3) (cwV 1 hts (fb_GV k_1113 k_1115 k_52 k_74 k_1116) rfl rfl rfl hdX11_take_ ⟨Nat.le_of_ble_eq_true rfl, Nat.le_of_ble_eq_true rfl⟩) (fb_pV hP hD hS hA hK hN hZ [0, 1] rfl rfl [0] rfl (q0 := 0) (ci := 11) rfl rfl) rfl rfl hl.1 rfl (lv_room (Nat.le_of_ble_eq_true rfl)) dX11_kept_66 ⟨Nat.le_of_ble_eq_true rfl, Nat.le_of_ble_eq_true rfl⟩) hP hD hS hA [0, 1] [2] rfl rfl rfl (by decide) [1, 2, 0] rfl rfl (fun H locs hP hD hS => ?_)
          refine lv_istore (lv' := [(4, .int u3.1), (0, .ref o), (1, .int x1), (3, .int x3)]) hx hb dX11_kept_69 hl (by decide) rfl (fun ls hl => ?_)
          refine lv_aload_n hx hb dX11_kept_71 rfl (lv_at hl 1 rfl) ?_
          refine lv_iload hx hb dX11_kept_72 (lv_at hl 0 rfl) ?_
          obtain ⟨u4, e4, h⟩ := fb_b h
          refine fb_cv (wc := [(o, .inr (11, [.int o_textRoom, .int o_byteRoom, .int o_chain, .ref o_text, .int o_textSize, .ref o_packed, .int o_packedSize, .int o_matches, .ref o_loaded, .int o_loadedSize, .ref o_out, .int o_outSize, .int o_bits, .int o_tokens, .ref o_lengths, .ref o_distances, .ref o_heads, .ref o_earlier, .ref o_often, .ref o_symbolLengths, .ref o_distanceLengths, .ref o_lengthLengths, .ref o_symbolCodes, .ref o_distanceCodes, .ref o_lengthCodes, .ref o_counts, .ref o_parents, .ref o_alone, .ref o_row, .int o_told, .ref o_toldSymbols, .ref o_toldNumbers, .int u3.2.1, .int u3.2.2, .int o_found, .int o_symbolCount, .int o_distanceCount, .int o_lengthCount])), (o_out, .inl (o_out_c, o_out_n, .inl o_out_v))]) (wr := [(o_loaded, .inl (o_loaded_c, o_loaded_n, .inl o_loaded_v))]) (w1 := [(o, .inr (11, [.int o_textRoom, .int o_byteRoom, .int o_chain, .ref o_text, .int o_textSize, .ref o_packed, .int o_packedSize, .int o_matches, .ref o_loaded, .int o_loadedSize, .ref o_out, .int u4.1, .int o_bits, .int o_tokens, .ref o_lengths, .ref o_distances, .ref o_heads, .ref o_earlier, .ref o_often, .ref o_symbolLengths, .ref o_distanceLengths, .ref o_lengthLengths, .ref o_symbolCodes, .ref o_distanceCodes, .ref o_lengthCodes, .ref o_counts, .ref o_parents, .ref o_alone, .ref o_row, .int o_told, .ref o_toldSymbols, .ref o_toldNumbers, .int u3.2.1, .int u4.2.1, .int o_found, .int o_symbolCount, .int o_distanceCount, .int o_lengthCount])), (o_out, .inl (o_out_c, o_out_n, .inl u4.2.2))]) (ws' := [(o, .inr (11, [.int o_textRoom, .int o_byteRoom, .int o_chain, .ref o_text, .int o_textSize, .ref o_packed, .int o_packedSize, .int o_matches, .ref o_loaded, .int o_loadedSize, .ref o_out, .int u4.1, .int o_bits, .int o_tokens, .ref o_lengths, .ref o_distances, .ref o_heads, .ref o_earlier, .ref o_often, .ref o_symbolLengths, .ref o_distanceLengths, .ref o_lengthLengths, .ref o_symbolCodes, .ref o_distanceCodes, .ref o_lengthCodes, .ref o_counts, .ref o_parents, .ref o_alone, .ref o_row, .int o_told, .ref o_toldSymbols, .ref o_toldNumbers, .int u3.2.1, .int u4.2.1, .int o_found, .int o_symbolCount, .int o_distanceCount, .int o_lengthCount])), (o_loaded, .inl (o_loaded_c, o_loaded_n, .inl o_loaded_v)), (o_out, .inl (o_out_c, o_out_n, .inl u4.2.2))]) (va_runV (As := [.int u3.1]) (rest := []) ⟨hx, hb, hml, hown, hts⟩ (mX11_putOut l dC dI o o_out o_text o_packed o_loaded o_lengths o_distances o_heads o_earlier o_often o_symbolLengths o_distanceLengths o_lengthLengths o_symbolCodes o_distanceCodes o_lengthCodes o_counts o_parents o_alone o_row o_toldSymbols o_toldNumbers o_out_c o_out_n o_textRoom o_byteRoom o_chain o_textSize o_packedSize o_matches o_loadedSize o_outSize o_bits o_tokens o_told u3.2.1 u3.2.2 o_found o_symbolCount o_distanceCount o_lengthCount o_out_v u3.1 H.size u4 e4) (cwV 1 hts (fb_GV k_1125 k_1127 k_55 k_74 k_1128) rfl rfl rfl hdX11_putOut ⟨Nat.le_of_ble_eq_true rfl, Nat.le_of_ble_eq_true rfl⟩) (fb_pV hP hD hS hA hK hN hZ [0, 2] rfl rfl [1] rfl (q0 := 0) (ci := 11) rfl rfl) rfl rfl hl.1 rfl (lv_room (Nat.le_of_ble_eq_true rfl)) dX11_kept_74 ⟨Nat.le_of_ble_eq_true rfl, Nat.le_of_ble_eq_true rfl⟩) hP hD hS hA [0, 2] [1] rfl rfl rfl (by decide) [1, 0, 2] rfl rfl (fun H locs hP hD hS => ?_)
          refine lv_iinc (v := (x3 + (1 : Int32))) (lv' := [(3, .int (x3 + (1 : Int32))), (4, .int u3.1), (0, .ref o), (1, .int x1)]) hx hb dX11_kept_77 hl (k := 3) rfl rfl (by decide) rfl (fun ls hl => ?_)
          refine lv_goto (tgt := 51) hx hb dX11_kept_80 (by decide) ?_
          exact ih u4.1 u3.2.1 u4.2.1 u4.2.2 x1 (x3 + (1 : Int32)) _ _ _ hP hD hS (lv_sub hl [2, 3, 0] rfl) h
  have wB45 : ∀ (o_outSize : Int32) (o_place : Int32) (o_fail : Int32) (o_out_v : Nat → Int32) (x1 : Int32) (t0 : Int32) (H : Heap) (locs : List Loc) (ls : Array Slot), va_P (dC, dI) fb_cl [(o, .inr (11, [.int o_textRoom, .int o_byteRoom, .int o_chain, .ref o_text, .int o_textSize, .ref o_packed, .int o_packedSize, .int o_matches, .ref o_loaded, .int o_loadedSize, .ref o_out, .int o_outSize, .int o_bits, .int o_tokens, .ref o_lengths, .ref o_distances, .ref o_heads, .ref o_earlier, .ref o_often, .ref o_symbolLengths, .ref o_distanceLengths, .ref o_lengthLengths, .ref o_symbolCodes, .ref o_distanceCodes, .ref o_lengthCodes, .ref o_counts, .ref o_parents, .ref o_alone, .ref o_row, .int o_told, .ref o_toldSymbols, .ref o_toldNumbers, .int o_place, .int o_fail, .int o_found, .int o_symbolCount, .int o_distanceCount, .int o_lengthCount])), (o_loaded, .inl (o_loaded_c, o_loaded_n, .inl o_loaded_v)), (o_out, .inl (o_out_c, o_out_n, .inl o_out_v))] H → va_D A [(o, .inr (11, [.int o_textRoom, .int o_byteRoom, .int o_chain, .ref o_text, .int o_textSize, .ref o_packed, .int o_packedSize, .int o_matches, .ref o_loaded, .int o_loadedSize, .ref o_out, .int o_outSize, .int o_bits, .int o_tokens, .ref o_lengths, .ref o_distances, .ref o_heads, .ref o_earlier, .ref o_often, .ref o_symbolLengths, .ref o_distanceLengths, .ref o_lengthLengths, .ref o_symbolCodes, .ref o_distanceCodes, .ref o_lengthCodes, .ref o_counts, .ref o_parents, .ref o_alone, .ref o_row, .int o_told, .ref o_toldSymbols, .ref o_toldNumbers, .int o_place, .int o_fail, .int o_found, .int o_symbolCount, .int o_distanceCount, .int o_lengthCount])), (o_loaded, .inl (o_loaded_c, o_loaded_n, .inl o_loaded_v)), (o_out, .inl (o_out_c, o_out_n, .inl o_out_v))] → va_S A s.heap H locs → lv_has ls 5 [(0, .ref o), (1, .int x1)] → pX11_kept_b45 o_loaded_n o_out_n o_textRoom o_loadedSize o_loaded_v o_outSize o_place o_fail o_out_v x1 t0 = some u → W p l e ({ frames := 2, cells := 0, slots := 0, locals := 43 }) s m args below meth c H locs 0 0 Q (F0 m 45 ls [.int t0, .ref o]) := by
    intro  o_outSize o_place o_fail o_out_v x1 t0 H locs ls hP hD hS hl h
    unfold pX11_kept_b45 at h
    refine lv_iconst (v := (3 : Int32)) hx hb dX11_kept_45 (by decide) ?_
    obtain ⟨u5, e5, h⟩ := fb_b h
    refine fb_cv (wc := [(o, .inr (11, [.int o_textRoom, .int o_byteRoom, .int o_chain, .ref o_text, .int o_textSize, .ref o_packed, .int o_packedSize, .int o_matches, .ref o_loaded, .int o_loadedSize, .ref o_out, .int o_outSize, .int o_bits, .int o_tokens, .ref o_lengths, .ref o_distances, .ref o_heads, .ref o_earlier, .ref o_often, .ref o_symbolLengths, .ref o_distanceLengths, .ref o_lengthLengths, .ref o_symbolCodes, .ref o_distanceCodes, .ref o_lengthCodes, .ref o_counts, .ref o_parents, .ref o_alone, .ref o_row, .int o_told, .ref o_toldSymbols, .ref o_toldNumbers, .int o_place, .int o_fail, .int o_found, .int o_symbolCount, .int o_distanceCount, .int o_lengthCount]))]) (wr := [(o_loaded, .inl (o_loaded_c, o_loaded_n, .inl o_loaded_v)), (o_out, .inl (o_out_c, o_out_n, .inl o_out_v))]) (w1 := [(o, .inr (11, [.int o_textRoom, .int o_byteRoom, .int o_chain, .ref o_text, .int o_textSize, .ref o_packed, .int o_packedSize, .int o_matches, .ref o_loaded, .int o_loadedSize, .ref o_out, .int o_outSize, .int o_bits, .int o_tokens, .ref o_lengths, .ref o_distances, .ref o_heads, .ref o_earlier, .ref o_often, .ref o_symbolLengths, .ref o_distanceLengths, .ref o_lengthLengths, .ref o_symbolCodes, .ref o_distanceCodes, .ref o_lengthCodes, .ref o_counts, .ref o_parents, .ref o_alone, .ref o_row, .int o_told, .ref o_toldSymbols, .ref o_toldNumbers, .int o_place, .int u5, .int o_found, .int o_symbolCount, .int o_distanceCount, .int o_lengthCount]))]) (ws' := [(o, .inr (11, [.int o_textRoom, .int o_byteRoom, .int o_chain, .ref o_text, .int o_textSize, .ref o_packed, .int o_packedSize, .int o_matches, .ref o_loaded, .int o_loadedSize, .ref o_out, .int o_outSize, .int o_bits, .int o_tokens, .ref o_lengths, .ref o_distances, .ref o_heads, .ref o_earlier, .ref o_often, .ref o_symbolLengths, .ref o_distanceLengths, .ref o_lengthLengths, .ref o_symbolCodes, .ref o_distanceCodes, .ref o_lengthCodes, .ref o_counts, .ref o_parents, .ref o_alone, .ref o_row, .int o_told, .ref o_toldSymbols, .ref o_toldNumbers, .int o_place, .int u5, .int o_found, .int o_symbolCount, .int o_distanceCount, .int o_lengthCount])), (o_loaded, .inl (o_loaded_c, o_loaded_n, .inl o_loaded_v)), (o_out, .inl (o_out_c, o_out_n, .inl o_out_v))]) (va_runV (As := [.int t0, .int (3 : Int32)]) (rest := []) ⟨hx, hb, hml, hown, hts⟩ (mX11_cannot l dC dI o o_text o_packed o_loaded o_out o_lengths o_distances o_heads o_earlier o_often o_symbolLengths o_distanceLengths o_lengthLengths o_symbolCodes o_distanceCodes o_lengthCodes o_counts o_parents o_alone o_row o_toldSymbols o_toldNumbers o_textRoom o_byteRoom o_chain o_textSize o_packedSize o_matches o_loadedSize o_outSize o_bits o_tokens o_told o_place o_fail o_found o_symbolCount o_distanceCount o_lengthCount t0 (3 : Int32) H.size u5 e5) (cwV 2 hts (fb_GV k_1117 k_1119 k_53 k_74 k_1120) rfl rfl rfl hdX11_cannot ⟨Nat.le_of_ble_eq_true rfl, Nat.le_of_ble_eq_true rfl⟩) (fb_pV hP hD hS hA hK hN hZ [0] rfl rfl [] rfl (q0 := 0) (ci := 11) rfl rfl) rfl rfl hl.1 rfl (lv_room (Nat.le_of_ble_eq_true rfl)) dX11_kept_46 ⟨Nat.le_of_ble_eq_true rfl, Nat.le_of_ble_eq_true rfl⟩) hP hD hS hA [0] [1, 2] rfl rfl rfl (by decide) [2, 0, 1] rfl rfl (fun H locs hP hD hS => ?_)
    refine lv_iconst (v := (0 : Int32)) hx hb dX11_kept_49 (by decide) ?_
    refine lv_istore_n (lv' := [(3, .int (0 : Int32)), (0, .ref o), (1, .int x1)]) hx hb dX11_kept_50 rfl hl (by decide) rfl (fun ls hl => ?_)
    exact wB51 fb_F o_outSize o_place u5 o_out_v x1 (0 : Int32) _ _ _ hP hD hS (lv_sub hl [1, 2, 0] rfl) h
  unfold pX11_kept at h
  refine lv_aload_n hx hb dX11_kept_0 rfl (lv_at hl 0 rfl) ?_
  refine lv_aload_n hx hb dX11_kept_1 rfl (lv_at hl 0 rfl) ?_
  refine va_get (D := (dC, dI)) (ci := 11) (v := .int o_place) (C := RX11) (T := TX11) (N := 38) hx hb hts i_X11 hown hK hP 0 rfl rfl 32 (by decide) (hts _ k_869) (fun _ h9 => h9) rfl dX11_kept_2 ?_
  refine lv_bipush (v := (7 : Int32)) hx hb dX11_kept_5 (by decide) ?_
  refine lv_iadd hx hb dX11_kept_7 ?_
  refine lv_bipush (v := (8 : Int32)) hx hb dX11_kept_8 (by decide) ?_
  refine lv_idiv hx hb dX11_kept_10 (by decide) ?_
  refine lv_bipush (v := (8 : Int32)) hx hb dX11_kept_11 (by decide) ?_
  refine lv_imul hx hb dX11_kept_13 ?_
  refine va_put (D := (dC, dI)) (ci := 11) (v := .int (((o_place + (7 : Int32)) / (8 : Int32)) * (8 : Int32))) (ty := .int) (C := RX11) (T := TX11) (N := 38) hx hb hts i_X11 tyX11 tyX11_ok nmX11 hown hK hP hD hS 0 rfl rfl 32 (by decide) (hts _ k_869) (fun _ h9 => h9) rfl (by decide +kernel) rfl rfl (Nat.le_of_ble_eq_true rfl) dX11_kept_14 (fun H locs hP hD hS => ?_)
  replace hP : va_P (dC, dI) fb_cl [(o, .inr (11, [.int o_textRoom, .int o_byteRoom, .int o_chain, .ref o_text, .int o_textSize, .ref o_packed, .int o_packedSize, .int o_matches, .ref o_loaded, .int o_loadedSize, .ref o_out, .int o_outSize, .int o_bits, .int o_tokens, .ref o_lengths, .ref o_distances, .ref o_heads, .ref o_earlier, .ref o_often, .ref o_symbolLengths, .ref o_distanceLengths, .ref o_lengthLengths, .ref o_symbolCodes, .ref o_distanceCodes, .ref o_lengthCodes, .ref o_counts, .ref o_parents, .ref o_alone, .ref o_row, .int o_told, .ref o_toldSymbols, .ref o_toldNumbers, .int (((o_place + (7 : Int32)) / (8 : Int32)) * (8 : Int32)), .int o_fail, .int o_found, .int o_symbolCount, .int o_distanceCount, .int o_lengthCount])), (o_loaded, .inl (o_loaded_c, o_loaded_n, .inl o_loaded_v)), (o_out, .inl (o_out_c, o_out_n, .inl o_out_v))] H := hP
  replace hD : va_D A [(o, .inr (11, [.int o_textRoom, .int o_byteRoom, .int o_chain, .ref o_text, .int o_textSize, .ref o_packed, .int o_packedSize, .int o_matches, .ref o_loaded, .int o_loadedSize, .ref o_out, .int o_outSize, .int o_bits, .int o_tokens, .ref o_lengths, .ref o_distances, .ref o_heads, .ref o_earlier, .ref o_often, .ref o_symbolLengths, .ref o_distanceLengths, .ref o_lengthLengths, .ref o_symbolCodes, .ref o_distanceCodes, .ref o_lengthCodes, .ref o_counts, .ref o_parents, .ref o_alone, .ref o_row, .int o_told, .ref o_toldSymbols, .ref o_toldNumbers, .int (((o_place + (7 : Int32)) / (8 : Int32)) * (8 : Int32)), .int o_fail, .int o_found, .int o_symbolCount, .int o_distanceCount, .int o_lengthCount])), (o_loaded, .inl (o_loaded_c, o_loaded_n, .inl o_loaded_v)), (o_out, .inl (o_out_c, o_out_n, .inl o_out_v))] := hD
  refine lv_aload_n hx hb dX11_kept_17 rfl (lv_at hl 0 rfl) ?_
  refine lv_bipush (v := (16 : Int32)) hx hb dX11_kept_18 (by decide) ?_
  obtain ⟨u6, e6, h⟩ := fb_b h
  refine fb_ci (wc := [(o, .inr (11, [.int o_textRoom, .int o_byteRoom, .int o_chain, .ref o_text, .int o_textSize, .ref o_packed, .int o_packedSize, .int o_matches, .ref o_loaded, .int o_loadedSize, .ref o_out, .int o_outSize, .int o_bits, .int o_tokens, .ref o_lengths, .ref o_distances, .ref o_heads, .ref o_earlier, .ref o_often, .ref o_symbolLengths, .ref o_distanceLengths, .ref o_lengthLengths, .ref o_symbolCodes, .ref o_distanceCodes, .ref o_lengthCodes, .ref o_counts, .ref o_parents, .ref o_alone, .ref o_row, .int o_told, .ref o_toldSymbols, .ref o_toldNumbers, .int (((o_place + (7 : Int32)) / (8 : Int32)) * (8 : Int32)), .int o_fail, .int o_found, .int o_symbolCount, .int o_distanceCount, .int o_lengthCount])), (o_loaded, .inl (o_loaded_c, o_loaded_n, .inl o_loaded_v))]) (wr := [(o_out, .inl (o_out_c, o_out_n, .inl o_out_v))]) (w1 := [(o, .inr (11, [.int o_textRoom, .int o_byteRoom, .int o_chain, .ref o_text, .int o_textSize, .ref o_packed, .int o_packedSize, .int o_matches, .ref o_loaded, .int o_loadedSize, .ref o_out, .int o_outSize, .int o_bits, .int o_tokens, .ref o_lengths, .ref o_distances, .ref o_heads, .ref o_earlier, .ref o_often, .ref o_symbolLengths, .ref o_distanceLengths, .ref o_lengthLengths, .ref o_symbolCodes, .ref o_distanceCodes, .ref o_lengthCodes, .ref o_counts, .ref o_parents, .ref o_alone, .ref o_row, .int o_told, .ref o_toldSymbols, .ref o_toldNumbers, .int u6.2.1, .int u6.2.2, .int o_found, .int o_symbolCount, .int o_distanceCount, .int o_lengthCount])), (o_loaded, .inl (o_loaded_c, o_loaded_n, .inl o_loaded_v))]) (ws' := [(o, .inr (11, [.int o_textRoom, .int o_byteRoom, .int o_chain, .ref o_text, .int o_textSize, .ref o_packed, .int o_packedSize, .int o_matches, .ref o_loaded, .int o_loadedSize, .ref o_out, .int o_outSize, .int o_bits, .int o_tokens, .ref o_lengths, .ref o_distances, .ref o_heads, .ref o_earlier, .ref o_often, .ref o_symbolLengths, .ref o_distanceLengths, .ref o_lengthLengths, .ref o_symbolCodes, .ref o_distanceCodes, .ref o_lengthCodes, .ref o_counts, .ref o_parents, .ref o_alone, .ref o_row, .int o_told, .ref o_toldSymbols, .ref o_toldNumbers, .int u6.2.1, .int u6.2.2, .int o_found, .int o_symbolCount, .int o_distanceCount, .int o_lengthCount])), (o_loaded, .inl (o_loaded_c, o_loaded_n, .inl o_loaded_v)), (o_out, .inl (o_out_c, o_out_n, .inl o_out_v))]) (va_runV (As := [.int (16 : Int32)]) (rest := []) ⟨hx, hb, hml, hown, hts⟩ (mX11_take_ l dC dI o o_loaded o_text o_packed o_out o_lengths o_distances o_heads o_earlier o_often o_symbolLengths o_distanceLengths o_lengthLengths o_symbolCodes o_distanceCodes o_lengthCodes o_counts o_parents o_alone o_row o_toldSymbols o_toldNumbers o_loaded_c o_loaded_n o_textRoom o_byteRoom o_chain o_textSize o_packedSize o_matches o_loadedSize o_outSize o_bits o_tokens o_told (((o_place + (7 : Int32)) / (8 : Int32)) * (8 : Int32)) o_fail o_found o_symbolCount o_distanceCount o_lengthCount o_loaded_v (16 : Int32) H.size u6 e6) (cwV 1 hts (fb_GV k_1113 k_1115 k_52 k_74 k_1116) rfl rfl rfl hdX11_take_ ⟨Nat.le_of_ble_eq_true rfl, Nat.le_of_ble_eq_true rfl⟩) (fb_pV hP hD hS hA hK hN hZ [0, 1] rfl rfl [0] rfl (q0 := 0) (ci := 11) rfl rfl) rfl rfl hl.1 rfl (lv_room (Nat.le_of_ble_eq_true rfl)) dX11_kept_20 ⟨Nat.le_of_ble_eq_true rfl, Nat.le_of_ble_eq_true rfl⟩) hP hD hS hA [0, 1] [2] rfl rfl rfl (by decide) [1, 2, 0] rfl rfl (fun H locs hP hD hS => ?_)
  refine lv_istore_n (lv' := [(1, .int u6.1), (0, .ref o)]) hx hb dX11_kept_23 rfl hl (by decide) rfl (fun ls hl => ?_)
  refine lv_aload_n hx hb dX11_kept_24 rfl (lv_at hl 1 rfl) ?_
  refine lv_bipush (v := (16 : Int32)) hx hb dX11_kept_25 (by decide) ?_
  obtain ⟨u7, e7, h⟩ := fb_b h
  refine fb_ci (wc := [(o, .inr (11, [.int o_textRoom, .int o_byteRoom, .int o_chain, .ref o_text, .int o_textSize, .ref o_packed, .int o_packedSize, .int o_matches, .ref o_loaded, .int o_loadedSize, .ref o_out, .int o_outSize, .int o_bits, .int o_tokens, .ref o_lengths, .ref o_distances, .ref o_heads, .ref o_earlier, .ref o_often, .ref o_symbolLengths, .ref o_distanceLengths, .ref o_lengthLengths, .ref o_symbolCodes, .ref o_distanceCodes, .ref o_lengthCodes, .ref o_counts, .ref o_parents, .ref o_alone, .ref o_row, .int o_told, .ref o_toldSymbols, .ref o_toldNumbers, .int u6.2.1, .int u6.2.2, .int o_found, .int o_symbolCount, .int o_distanceCount, .int o_lengthCount])), (o_loaded, .inl (o_loaded_c, o_loaded_n, .inl o_loaded_v))]) (wr := [(o_out, .inl (o_out_c, o_out_n, .inl o_out_v))]) (w1 := [(o, .inr (11, [.int o_textRoom, .int o_byteRoom, .int o_chain, .ref o_text, .int o_textSize, .ref o_packed, .int o_packedSize, .int o_matches, .ref o_loaded, .int o_loadedSize, .ref o_out, .int o_outSize, .int o_bits, .int o_tokens, .ref o_lengths, .ref o_distances, .ref o_heads, .ref o_earlier, .ref o_often, .ref o_symbolLengths, .ref o_distanceLengths, .ref o_lengthLengths, .ref o_symbolCodes, .ref o_distanceCodes, .ref o_lengthCodes, .ref o_counts, .ref o_parents, .ref o_alone, .ref o_row, .int o_told, .ref o_toldSymbols, .ref o_toldNumbers, .int u7.2.1, .int u7.2.2, .int o_found, .int o_symbolCount, .int o_distanceCount, .int o_lengthCount])), (o_loaded, .inl (o_loaded_c, o_loaded_n, .inl o_loaded_v))]) (ws' := [(o, .inr (11, [.int o_textRoom, .int o_byteRoom, .int o_chain, .ref o_text, .int o_textSize, .ref o_packed, .int o_packedSize, .int o_matches, .ref o_loaded, .int o_loadedSize, .ref o_out, .int o_outSize, .int o_bits, .int o_tokens, .ref o_lengths, .ref o_distances, .ref o_heads, .ref o_earlier, .ref o_often, .ref o_symbolLengths, .ref o_distanceLengths, .ref o_lengthLengths, .ref o_symbolCodes, .ref o_distanceCodes, .ref o_lengthCodes, .ref o_counts, .ref o_parents, .ref o_alone, .ref o_row, .int o_told, .ref o_toldSymbols, .ref o_toldNumbers, .int u7.2.1, .int u7.2.2, .int o_found, .int o_symbolCount, .int o_distanceCount, .int o_lengthCount])), (o_loaded, .inl (o_loaded_c, o_loaded_n, .inl o_loaded_v)), (o_out, .inl (o_out_c, o_out_n, .inl o_out_v))]) (va_runV (As := [.int (16 : Int32)]) (rest := []) ⟨hx, hb, hml, hown, hts⟩ (mX11_take_ l dC dI o o_loaded o_text o_packed o_out o_lengths o_distances o_heads o_earlier o_often o_symbolLengths o_distanceLengths o_lengthLengths o_symbolCodes o_distanceCodes o_lengthCodes o_counts o_parents o_alone o_row o_toldSymbols o_toldNumbers o_loaded_c o_loaded_n o_textRoom o_byteRoom o_chain o_textSize o_packedSize o_matches o_loadedSize o_outSize o_bits o_tokens o_told u6.2.1 u6.2.2 o_found o_symbolCount o_distanceCount o_lengthCount o_loaded_v (16 : Int32) H.size u7 e7) (cwV 1 hts (fb_GV k_1113 k_1115 k_52 k_74 k_1116) rfl rfl rfl hdX11_take_ ⟨Nat.le_of_ble_eq_true rfl, Nat.le_of_ble_eq_true rfl⟩) (fb_pV hP hD hS hA hK hN hZ [0, 1] rfl rfl [0] rfl (q0 := 0) (ci := 11) rfl rfl) rfl rfl hl.1 rfl (lv_room (Nat.le_of_ble_eq_true rfl)) dX11_kept_27 ⟨Nat.le_of_ble_eq_true rfl, Nat.le_of_ble_eq_true rfl⟩) hP hD hS hA [0, 1] [2] rfl rfl rfl (by decide) [1, 2, 0] rfl rfl (fun H locs hP hD hS => ?_)
  refine lv_istore_n (lv' := [(2, .int u7.1), (1, .int u6.1), (0, .ref o)]) hx hb dX11_kept_30 rfl hl (by decide) rfl (fun ls hl => ?_)
  refine lv_aload_n hx hb dX11_kept_31 rfl (lv_at hl 2 rfl) ?_
  refine lv_iload_n hx hb dX11_kept_32 rfl (lv_at hl 0 rfl) ?_
  refine lv_ldc (v := (65535 : Int32)) hx hb hown (hts _ k_1088) dX11_kept_33 ?_
  refine lv_iload_n hx hb dX11_kept_35 rfl (lv_at hl 1 rfl) ?_
  refine lv_isub hx hb dX11_kept_36 ?_
  refine lv_icmp_eq (tgt := 44) hx hb dX11_kept_37 (by decide) (fun c8 => ?_) (fun c8 => ?_)
  · replace h := fb_t c8 h
    refine lv_iconst (v := (0 : Int32)) hx hb dX11_kept_44 (by decide) ?_
    exact wB45 o_outSize u7.2.1 u7.2.2 o_out_v u6.1 (0 : Int32) _ _ _ hP hD hS (lv_sub hl [2, 1] rfl) h
  · replace h := fb_f c8 h
    refine lv_iconst (v := (1 : Int32)) hx hb dX11_kept_40 (by decide) ?_
    refine lv_goto (tgt := 45) hx hb dX11_kept_41 (by decide) ?_
    exact wB45 o_outSize u7.2.1 u7.2.2 o_out_v u6.1 (1 : Int32) _ _ _ hP hD hS (lv_sub hl [2, 1] rfl) h
