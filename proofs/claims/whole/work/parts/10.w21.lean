theorem dX11_findTokens_0 : decode cX11_findTokens 0 = .ok (.iconst 0, 1) := by decide +kernel
theorem dX11_findTokens_1 : decode cX11_findTokens 1 = .ok (.istore_n 1, 1) := by decide +kernel
theorem dX11_findTokens_2 : decode cX11_findTokens 2 = .ok (.iload_n 1, 1) := by decide +kernel
theorem dX11_findTokens_3 : decode cX11_findTokens 3 = .ok (.sipush 4096, 3) := by decide +kernel
theorem dX11_findTokens_6 : decode cX11_findTokens 6 = .ok (.if_icmp .ge 16, 3) := by decide +kernel
theorem dX11_findTokens_9 : decode cX11_findTokens 9 = .ok (.aload_n 0, 1) := by decide +kernel
theorem dX11_findTokens_10 : decode cX11_findTokens 10 = .ok (.getfield 30, 3) := by decide +kernel
theorem dX11_findTokens_13 : decode cX11_findTokens 13 = .ok (.iload_n 1, 1) := by decide +kernel
theorem dX11_findTokens_14 : decode cX11_findTokens 14 = .ok (.iconst (-1), 1) := by decide +kernel
theorem dX11_findTokens_15 : decode cX11_findTokens 15 = .ok (.iastore, 1) := by decide +kernel
theorem dX11_findTokens_16 : decode cX11_findTokens 16 = .ok (.iinc 1 1, 3) := by decide +kernel
theorem dX11_findTokens_19 : decode cX11_findTokens 19 = .ok (.goto (-17), 3) := by decide +kernel
theorem dX11_findTokens_22 : decode cX11_findTokens 22 = .ok (.aload_n 0, 1) := by decide +kernel
theorem dX11_findTokens_23 : decode cX11_findTokens 23 = .ok (.iconst 0, 1) := by decide +kernel
theorem dX11_findTokens_24 : decode cX11_findTokens 24 = .ok (.putfield 127, 3) := by decide +kernel
theorem dX11_findTokens_27 : decode cX11_findTokens 27 = .ok (.iconst 0, 1) := by decide +kernel
theorem dX11_findTokens_28 : decode cX11_findTokens 28 = .ok (.istore_n 1, 1) := by decide +kernel
theorem dX11_findTokens_29 : decode cX11_findTokens 29 = .ok (.iload_n 1, 1) := by decide +kernel
theorem dX11_findTokens_30 : decode cX11_findTokens 30 = .ok (.aload_n 0, 1) := by decide +kernel
theorem dX11_findTokens_31 : decode cX11_findTokens 31 = .ok (.getfield 90, 3) := by decide +kernel
theorem dX11_findTokens_34 : decode cX11_findTokens 34 = .ok (.if_icmp .ge 105, 3) := by decide +kernel
theorem dX11_findTokens_37 : decode cX11_findTokens 37 = .ok (.aload_n 0, 1) := by decide +kernel
theorem dX11_findTokens_38 : decode cX11_findTokens 38 = .ok (.iload_n 1, 1) := by decide +kernel
theorem dX11_findTokens_39 : decode cX11_findTokens 39 = .ok (.invokevirtual 130, 3) := by decide +kernel
theorem dX11_findTokens_42 : decode cX11_findTokens 42 = .ok (.istore_n 2, 1) := by decide +kernel
theorem dX11_findTokens_43 : decode cX11_findTokens 43 = .ok (.iload_n 2, 1) := by decide +kernel
theorem dX11_findTokens_44 : decode cX11_findTokens 44 = .ok (.ifCond .ge 7, 3) := by decide +kernel
theorem dX11_findTokens_47 : decode cX11_findTokens 47 = .ok (.iconst 1, 1) := by decide +kernel
theorem dX11_findTokens_48 : decode cX11_findTokens 48 = .ok (.goto 7, 3) := by decide +kernel
theorem dX11_findTokens_51 : decode cX11_findTokens 51 = .ok (.aload_n 0, 1) := by decide +kernel
theorem dX11_findTokens_52 : decode cX11_findTokens 52 = .ok (.getfield 116, 3) := by decide +kernel
theorem dX11_findTokens_55 : decode cX11_findTokens 55 = .ok (.istore_n 3, 1) := by decide +kernel
theorem dX11_findTokens_56 : decode cX11_findTokens 56 = .ok (.aload_n 0, 1) := by decide +kernel
theorem dX11_findTokens_57 : decode cX11_findTokens 57 = .ok (.getfield 24, 3) := by decide +kernel
theorem dX11_findTokens_60 : decode cX11_findTokens 60 = .ok (.aload_n 0, 1) := by decide +kernel
theorem dX11_findTokens_61 : decode cX11_findTokens 61 = .ok (.getfield 127, 3) := by decide +kernel
theorem dX11_findTokens_64 : decode cX11_findTokens 64 = .ok (.iload_n 2, 1) := by decide +kernel
theorem dX11_findTokens_65 : decode cX11_findTokens 65 = .ok (.ifCond .ge 7, 3) := by decide +kernel
theorem dX11_findTokens_68 : decode cX11_findTokens 68 = .ok (.iconst 0, 1) := by decide +kernel
theorem dX11_findTokens_69 : decode cX11_findTokens 69 = .ok (.goto 4, 3) := by decide +kernel
theorem dX11_findTokens_72 : decode cX11_findTokens 72 = .ok (.iload_n 3, 1) := by decide +kernel
theorem dX11_findTokens_73 : decode cX11_findTokens 73 = .ok (.iastore, 1) := by decide +kernel
theorem dX11_findTokens_74 : decode cX11_findTokens 74 = .ok (.aload_n 0, 1) := by decide +kernel
theorem dX11_findTokens_75 : decode cX11_findTokens 75 = .ok (.getfield 27, 3) := by decide +kernel
theorem dX11_findTokens_78 : decode cX11_findTokens 78 = .ok (.aload_n 0, 1) := by decide +kernel
theorem dX11_findTokens_79 : decode cX11_findTokens 79 = .ok (.getfield 127, 3) := by decide +kernel
theorem dX11_findTokens_82 : decode cX11_findTokens 82 = .ok (.iload_n 2, 1) := by decide +kernel
theorem dX11_findTokens_83 : decode cX11_findTokens 83 = .ok (.ifCond .ge 12, 3) := by decide +kernel
theorem dX11_findTokens_86 : decode cX11_findTokens 86 = .ok (.aload_n 0, 1) := by decide +kernel
theorem dX11_findTokens_87 : decode cX11_findTokens 87 = .ok (.getfield 8, 3) := by decide +kernel
theorem dX11_findTokens_90 : decode cX11_findTokens 90 = .ok (.iload_n 1, 1) := by decide +kernel
theorem dX11_findTokens_91 : decode cX11_findTokens 91 = .ok (.iaload, 1) := by decide +kernel
theorem dX11_findTokens_92 : decode cX11_findTokens 92 = .ok (.goto 6, 3) := by decide +kernel
theorem dX11_findTokens_95 : decode cX11_findTokens 95 = .ok (.iload_n 1, 1) := by decide +kernel
theorem dX11_findTokens_96 : decode cX11_findTokens 96 = .ok (.iload_n 2, 1) := by decide +kernel
theorem dX11_findTokens_97 : decode cX11_findTokens 97 = .ok (.isub, 1) := by decide +kernel
theorem dX11_findTokens_98 : decode cX11_findTokens 98 = .ok (.iastore, 1) := by decide +kernel
theorem dX11_findTokens_99 : decode cX11_findTokens 99 = .ok (.aload_n 0, 1) := by decide +kernel
theorem dX11_findTokens_100 : decode cX11_findTokens 100 = .ok (.dup, 1) := by decide +kernel
theorem dX11_findTokens_101 : decode cX11_findTokens 101 = .ok (.getfield 127, 3) := by decide +kernel
theorem dX11_findTokens_104 : decode cX11_findTokens 104 = .ok (.iconst 1, 1) := by decide +kernel
theorem dX11_findTokens_105 : decode cX11_findTokens 105 = .ok (.iadd, 1) := by decide +kernel
theorem dX11_findTokens_106 : decode cX11_findTokens 106 = .ok (.putfield 127, 3) := by decide +kernel
theorem dX11_findTokens_109 : decode cX11_findTokens 109 = .ok (.iconst 0, 1) := by decide +kernel
theorem dX11_findTokens_110 : decode cX11_findTokens 110 = .ok (.istore 4, 2) := by decide +kernel
theorem dX11_findTokens_112 : decode cX11_findTokens 112 = .ok (.iload 4, 2) := by decide +kernel
theorem dX11_findTokens_114 : decode cX11_findTokens 114 = .ok (.iload_n 3, 1) := by decide +kernel
theorem dX11_findTokens_115 : decode cX11_findTokens 115 = .ok (.if_icmp .ge 17, 3) := by decide +kernel
theorem dX11_findTokens_118 : decode cX11_findTokens 118 = .ok (.aload_n 0, 1) := by decide +kernel
theorem dX11_findTokens_119 : decode cX11_findTokens 119 = .ok (.iload_n 1, 1) := by decide +kernel
theorem dX11_findTokens_120 : decode cX11_findTokens 120 = .ok (.iload 4, 2) := by decide +kernel
theorem dX11_findTokens_122 : decode cX11_findTokens 122 = .ok (.iadd, 1) := by decide +kernel
theorem dX11_findTokens_123 : decode cX11_findTokens 123 = .ok (.invokevirtual 133, 3) := by decide +kernel
theorem dX11_findTokens_126 : decode cX11_findTokens 126 = .ok (.iinc 4 1, 3) := by decide +kernel
theorem dX11_findTokens_129 : decode cX11_findTokens 129 = .ok (.goto (-17), 3) := by decide +kernel
theorem dX11_findTokens_132 : decode cX11_findTokens 132 = .ok (.iload_n 1, 1) := by decide +kernel
theorem dX11_findTokens_133 : decode cX11_findTokens 133 = .ok (.iload_n 3, 1) := by decide +kernel
theorem dX11_findTokens_134 : decode cX11_findTokens 134 = .ok (.iadd, 1) := by decide +kernel
theorem dX11_findTokens_135 : decode cX11_findTokens 135 = .ok (.istore_n 1, 1) := by decide +kernel
theorem dX11_findTokens_136 : decode cX11_findTokens 136 = .ok (.goto (-107), 3) := by decide +kernel
theorem dX11_findTokens_139 : decode cX11_findTokens 139 = .ok (.return_, 1) := by decide +kernel
def pX11_findTokens_b112 (o_heads_n : Nat) (o_text_n : Nat) (o_earlier_n : Nat) (o_textSize : Int32) (o_text_v : Nat → Int32) (K29 : Int32 → Int32 → (Nat → Int32) → (Nat → Int32) → (Nat → Int32) → (Nat → Int32) → Int32 → Option (Int32 × Int32 × (Nat → Int32) × (Nat → Int32) × (Nat → Int32) × (Nat → Int32))) : Nat → Int32 → Int32 → (Nat → Int32) → (Nat → Int32) → (Nat → Int32) → (Nat → Int32) → Int32 → Int32 → Int32 → Option (Int32 × Int32 × (Nat → Int32) × (Nat → Int32) × (Nat → Int32) × (Nat → Int32))
  | 0 => fun _ _ _ _ _ _ _ _ _ => none
  | n + 1 => fun o_tokens o_found o_heads_v o_earlier_v o_lengths_v o_distances_v x1 x3 x4 =>
  if x3 ≤ x4 then
  (K29 o_tokens o_found o_heads_v o_earlier_v o_lengths_v o_distances_v (x1 + x3))
  else
  ((pX11_note o_text_n o_heads_n o_earlier_n o_textSize o_text_v (x1 + x4) o_heads_v o_earlier_v).bind (fun u2 =>
  (pX11_findTokens_b112 o_heads_n o_text_n o_earlier_n o_textSize o_text_v K29 n) o_tokens o_found u2.1 u2.2 o_lengths_v o_distances_v x1 x3 (x4 + (1 : Int32))))
def pX11_findTokens_b98 (o_heads_n : Nat) (o_text_n : Nat) (o_earlier_n : Nat) (o_distances_n : Nat) (o_textSize : Int32) (o_text_v : Nat → Int32) (K29 : Int32 → Int32 → (Nat → Int32) → (Nat → Int32) → (Nat → Int32) → (Nat → Int32) → Int32 → Option (Int32 × Int32 × (Nat → Int32) × (Nat → Int32) × (Nat → Int32) × (Nat → Int32))) (o_tokens : Int32) (o_found : Int32) (o_heads_v : Nat → Int32) (o_earlier_v : Nat → Int32) (o_lengths_v : Nat → Int32) (o_distances_v : Nat → Int32) (x1 : Int32) (x3 : Int32) (t0 : Int32) (t1 : Int32) : Option (Int32 × Int32 × (Nat → Int32) × (Nat → Int32) × (Nat → Int32) × (Nat → Int32)) :=
  if t1 < 0 ∨ o_distances_n ≤ (t1).toNatClampNeg then none else
  pX11_findTokens_b112 o_heads_n o_text_n o_earlier_n o_textSize o_text_v K29 fb_F (o_tokens + (1 : Int32)) o_found o_heads_v o_earlier_v o_lengths_v (upd o_distances_v (t1).toNatClampNeg t0) x1 x3 (0 : Int32)
def pX11_findTokens_b73 (o_heads_n : Nat) (o_text_n : Nat) (o_earlier_n : Nat) (o_lengths_n : Nat) (o_distances_n : Nat) (o_textSize : Int32) (o_text_v : Nat → Int32) (K29 : Int32 → Int32 → (Nat → Int32) → (Nat → Int32) → (Nat → Int32) → (Nat → Int32) → Int32 → Option (Int32 × Int32 × (Nat → Int32) × (Nat → Int32) × (Nat → Int32) × (Nat → Int32))) (o_tokens : Int32) (o_found : Int32) (o_heads_v : Nat → Int32) (o_earlier_v : Nat → Int32) (o_lengths_v : Nat → Int32) (o_distances_v : Nat → Int32) (x1 : Int32) (x2 : Int32) (x3 : Int32) (t0 : Int32) (t1 : Int32) : Option (Int32 × Int32 × (Nat → Int32) × (Nat → Int32) × (Nat → Int32) × (Nat → Int32)) :=
  if t1 < 0 ∨ o_lengths_n ≤ (t1).toNatClampNeg then none else
  if 0 ≤ x2 then
  (pX11_findTokens_b98 o_heads_n o_text_n o_earlier_n o_distances_n o_textSize o_text_v K29 o_tokens o_found o_heads_v o_earlier_v (upd o_lengths_v (t1).toNatClampNeg t0) o_distances_v x1 x3 (x1 - x2) o_tokens)
  else
  (if x1 < 0 ∨ o_text_n ≤ (x1).toNatClampNeg then none else
  pX11_findTokens_b98 o_heads_n o_text_n o_earlier_n o_distances_n o_textSize o_text_v K29 o_tokens o_found o_heads_v o_earlier_v (upd o_lengths_v (t1).toNatClampNeg t0) o_distances_v x1 x3 (o_text_v (x1).toNatClampNeg) o_tokens)
def pX11_findTokens_b55 (o_heads_n : Nat) (o_text_n : Nat) (o_earlier_n : Nat) (o_lengths_n : Nat) (o_distances_n : Nat) (o_textSize : Int32) (o_text_v : Nat → Int32) (K29 : Int32 → Int32 → (Nat → Int32) → (Nat → Int32) → (Nat → Int32) → (Nat → Int32) → Int32 → Option (Int32 × Int32 × (Nat → Int32) × (Nat → Int32) × (Nat → Int32) × (Nat → Int32))) (o_tokens : Int32) (o_found : Int32) (o_heads_v : Nat → Int32) (o_earlier_v : Nat → Int32) (o_lengths_v : Nat → Int32) (o_distances_v : Nat → Int32) (x1 : Int32) (x2 : Int32) (t0 : Int32) : Option (Int32 × Int32 × (Nat → Int32) × (Nat → Int32) × (Nat → Int32) × (Nat → Int32)) :=
  if 0 ≤ x2 then
  (pX11_findTokens_b73 o_heads_n o_text_n o_earlier_n o_lengths_n o_distances_n o_textSize o_text_v K29 o_tokens o_found o_heads_v o_earlier_v o_lengths_v o_distances_v x1 x2 t0 t0 o_tokens)
  else
  (pX11_findTokens_b73 o_heads_n o_text_n o_earlier_n o_lengths_n o_distances_n o_textSize o_text_v K29 o_tokens o_found o_heads_v o_earlier_v o_lengths_v o_distances_v x1 x2 t0 (0 : Int32) o_tokens)
def pX11_findTokens_b29 (o_heads_n : Nat) (o_text_n : Nat) (o_earlier_n : Nat) (o_lengths_n : Nat) (o_distances_n : Nat) (o_chain : Int32) (o_textSize : Int32) (o_text_v : Nat → Int32)  : Nat → Int32 → Int32 → (Nat → Int32) → (Nat → Int32) → (Nat → Int32) → (Nat → Int32) → Int32 → Option (Int32 × Int32 × (Nat → Int32) × (Nat → Int32) × (Nat → Int32) × (Nat → Int32))
  | 0 => fun _ _ _ _ _ _ _ => none
  | n + 1 => fun o_tokens o_found o_heads_v o_earlier_v o_lengths_v o_distances_v x1 =>
  if o_textSize ≤ x1 then
  (some (o_tokens, o_found, o_heads_v, o_earlier_v, o_lengths_v, o_distances_v))
  else
  ((pX11_longest o_text_n o_heads_n o_earlier_n o_chain o_textSize o_text_v o_heads_v o_earlier_v x1).bind (fun u9 =>
  if 0 ≤ u9.1 then
  (pX11_findTokens_b55 o_heads_n o_text_n o_earlier_n o_lengths_n o_distances_n o_textSize o_text_v (pX11_findTokens_b29 o_heads_n o_text_n o_earlier_n o_lengths_n o_distances_n o_chain o_textSize o_text_v n) o_tokens u9.2 o_heads_v o_earlier_v o_lengths_v o_distances_v x1 u9.1 u9.2)
  else
  (pX11_findTokens_b55 o_heads_n o_text_n o_earlier_n o_lengths_n o_distances_n o_textSize o_text_v (pX11_findTokens_b29 o_heads_n o_text_n o_earlier_n o_lengths_n o_distances_n o_chain o_textSize o_text_v n) o_tokens u9.2 o_heads_v o_earlier_v o_lengths_v o_distances_v x1 u9.1 (1 : Int32))))
def pX11_findTokens_b2 (o_heads_n : Nat) (o_text_n : Nat) (o_earlier_n : Nat) (o_lengths_n : Nat) (o_distances_n : Nat) (o_chain : Int32) (o_textSize : Int32) (o_text_v : Nat → Int32)  : Nat → Int32 → (Nat → Int32) → (Nat → Int32) → (Nat → Int32) → (Nat → Int32) → Int32 → Option (Int32 × Int32 × (Nat → Int32) × (Nat → Int32) × (Nat → Int32) × (Nat → Int32))
  | 0 => fun _ _ _ _ _ _ => none
  | n + 1 => fun o_found o_heads_v o_earlier_v o_lengths_v o_distances_v x1 =>
  if (4096 : Int32) ≤ x1 then
  (pX11_findTokens_b29 o_heads_n o_text_n o_earlier_n o_lengths_n o_distances_n o_chain o_textSize o_text_v fb_F (0 : Int32) o_found o_heads_v o_earlier_v o_lengths_v o_distances_v (0 : Int32))
  else
  (if x1 < 0 ∨ o_heads_n ≤ (x1).toNatClampNeg then none else
  (pX11_findTokens_b2 o_heads_n o_text_n o_earlier_n o_lengths_n o_distances_n o_chain o_textSize o_text_v n) o_found (upd o_heads_v (x1).toNatClampNeg (-1 : Int32)) o_earlier_v o_lengths_v o_distances_v (x1 + (1 : Int32)))
def pX11_findTokens (o_heads_n : Nat) (o_text_n : Nat) (o_earlier_n : Nat) (o_lengths_n : Nat) (o_distances_n : Nat) (o_chain : Int32) (o_textSize : Int32) (o_text_v : Nat → Int32)  (o_found : Int32) (o_heads_v : Nat → Int32) (o_earlier_v : Nat → Int32) (o_lengths_v : Nat → Int32) (o_distances_v : Nat → Int32) : Option (Int32 × Int32 × (Nat → Int32) × (Nat → Int32) × (Nat → Int32) × (Nat → Int32)) :=
  pX11_findTokens_b2 o_heads_n o_text_n o_earlier_n o_lengths_n o_distances_n o_chain o_textSize o_text_v fb_F o_found o_heads_v o_earlier_v o_lengths_v o_distances_v (0 : Int32)
theorem hdX11_findTokens : yX11_findTokens.cls = RX11 ∧ yX11_findTokens.cls ≠ "java/lang/invoke/MethodHandle" ∧ yX11_findTokens.cls ≠ "java/lang/invoke/VarHandle" ∧ (parseMethodDescriptor yX11_findTokens.desc).map (fun d => d.parameters.length) = some 0 := by decide +kernel
set_option maxHeartbeats 8000000 in
set_option maxRecDepth 100000 in
theorem mX11_findTokens (l : Launch) (dC : Nat → ClassId) (dI : Nat → Nat → Nat) (o : Nat) (o_heads : Nat) (o_text : Nat) (o_earlier : Nat) (o_lengths : Nat) (o_distances : Nat) (o_packed : Nat) (o_loaded : Nat) (o_out : Nat) (o_often : Nat) (o_symbolLengths : Nat) (o_distanceLengths : Nat) (o_lengthLengths : Nat) (o_symbolCodes : Nat) (o_distanceCodes : Nat) (o_lengthCodes : Nat) (o_counts : Nat) (o_parents : Nat) (o_alone : Nat) (o_row : Nat) (o_toldSymbols : Nat) (o_toldNumbers : Nat) (o_heads_c : ClassId) (o_text_c : ClassId) (o_earlier_c : ClassId) (o_lengths_c : ClassId) (o_distances_c : ClassId) (o_heads_n : Nat) (o_text_n : Nat) (o_earlier_n : Nat) (o_lengths_n : Nat) (o_distances_n : Nat) (o_textRoom : Int32) (o_byteRoom : Int32) (o_chain : Int32) (o_textSize : Int32) (o_packedSize : Int32) (o_matches : Int32) (o_loadedSize : Int32) (o_outSize : Int32) (o_bits : Int32) (o_tokens : Int32) (o_told : Int32) (o_place : Int32) (o_fail : Int32) (o_found : Int32) (o_symbolCount : Int32) (o_distanceCount : Int32) (o_lengthCount : Int32) (o_heads_v : Nat → Int32) (o_text_v : Nat → Int32) (o_earlier_v : Nat → Int32) (o_lengths_v : Nat → Int32) (o_distances_v : Nat → Int32)  (sz : Nat) (u : Int32 × Int32 × (Nat → Int32) × (Nat → Int32) × (Nat → Int32) × (Nat → Int32)) (h : pX11_findTokens o_heads_n o_text_n o_earlier_n o_lengths_n o_distances_n o_chain o_textSize o_text_v o_found o_heads_v o_earlier_v o_lengths_v o_distances_v = some u) : Met l yX11_findTokens (Cond.code yX11_findTokens cX11_findTokens 5 none :: fb_tb) ({ frames := 3, cells := 0, slots := 0, locals := 70 }) (fb_Pc (dC, dI) [.ref o] sz [(o_heads_c, .int), (o_text_c, .int), (o_earlier_c, .int), (o_lengths_c, .int), (o_distances_c, .int)] [(o, .inr (11, [.int o_textRoom, .int o_byteRoom, .int o_chain, .ref o_text, .int o_textSize, .ref o_packed, .int o_packedSize, .int o_matches, .ref o_loaded, .int o_loadedSize, .ref o_out, .int o_outSize, .int o_bits, .int o_tokens, .ref o_lengths, .ref o_distances, .ref o_heads, .ref o_earlier, .ref o_often, .ref o_symbolLengths, .ref o_distanceLengths, .ref o_lengthLengths, .ref o_symbolCodes, .ref o_distanceCodes, .ref o_lengthCodes, .ref o_counts, .ref o_parents, .ref o_alone, .ref o_row, .int o_told, .ref o_toldSymbols, .ref o_toldNumbers, .int o_place, .int o_fail, .int o_found, .int o_symbolCount, .int o_distanceCount, .int o_lengthCount])), (o_heads, .inl (o_heads_c, o_heads_n, .inl o_heads_v)), (o_text, .inl (o_text_c, o_text_n, .inl o_text_v)), (o_earlier, .inl (o_earlier_c, o_earlier_n, .inl o_earlier_v)), (o_lengths, .inl (o_lengths_c, o_lengths_n, .inl o_lengths_v)), (o_distances, .inl (o_distances_c, o_distances_n, .inl o_distances_v))]) (fb_Qv (dC, dI) [(o, .inr (11, [.int o_textRoom, .int o_byteRoom, .int o_chain, .ref o_text, .int o_textSize, .ref o_packed, .int o_packedSize, .int o_matches, .ref o_loaded, .int o_loadedSize, .ref o_out, .int o_outSize, .int o_bits, .int u.1, .ref o_lengths, .ref o_distances, .ref o_heads, .ref o_earlier, .ref o_often, .ref o_symbolLengths, .ref o_distanceLengths, .ref o_lengthLengths, .ref o_symbolCodes, .ref o_distanceCodes, .ref o_lengthCodes, .ref o_counts, .ref o_parents, .ref o_alone, .ref o_row, .int o_told, .ref o_toldSymbols, .ref o_toldNumbers, .int o_place, .int o_fail, .int u.2.1, .int o_symbolCount, .int o_distanceCount, .int o_lengthCount])), (o_heads, .inl (o_heads_c, o_heads_n, .inl u.2.2.1)), (o_text, .inl (o_text_c, o_text_n, .inl o_text_v)), (o_earlier, .inl (o_earlier_c, o_earlier_n, .inl u.2.2.2.1)), (o_lengths, .inl (o_lengths_c, o_lengths_n, .inl u.2.2.2.2.1)), (o_distances, .inl (o_distances_c, o_distances_n, .inl u.2.2.2.2.2))] (va_A [(o, .inr (11, [.int o_textRoom, .int o_byteRoom, .int o_chain, .ref o_text, .int o_textSize, .ref o_packed, .int o_packedSize, .int o_matches, .ref o_loaded, .int o_loadedSize, .ref o_out, .int o_outSize, .int o_bits, .int o_tokens, .ref o_lengths, .ref o_distances, .ref o_heads, .ref o_earlier, .ref o_often, .ref o_symbolLengths, .ref o_distanceLengths, .ref o_lengthLengths, .ref o_symbolCodes, .ref o_distanceCodes, .ref o_lengthCodes, .ref o_counts, .ref o_parents, .ref o_alone, .ref o_row, .int o_told, .ref o_toldSymbols, .ref o_toldNumbers, .int o_place, .int o_fail, .int o_found, .int o_symbolCount, .int o_distanceCount, .int o_lengthCount])), (o_heads, .inl (o_heads_c, o_heads_n, .inl o_heads_v)), (o_text, .inl (o_text_c, o_text_n, .inl o_text_v)), (o_earlier, .inl (o_earlier_c, o_earlier_n, .inl o_earlier_v)), (o_lengths, .inl (o_lengths_c, o_lengths_n, .inl o_lengths_v)), (o_distances, .inl (o_distances_c, o_distances_n, .inl o_distances_v))] sz)) 0 0 (va_A [(o, .inr (11, [.int o_textRoom, .int o_byteRoom, .int o_chain, .ref o_text, .int o_textSize, .ref o_packed, .int o_packedSize, .int o_matches, .ref o_loaded, .int o_loadedSize, .ref o_out, .int o_outSize, .int o_bits, .int o_tokens, .ref o_lengths, .ref o_distances, .ref o_heads, .ref o_earlier, .ref o_often, .ref o_symbolLengths, .ref o_distanceLengths, .ref o_lengthLengths, .ref o_symbolCodes, .ref o_distanceCodes, .ref o_lengthCodes, .ref o_counts, .ref o_parents, .ref o_alone, .ref o_row, .int o_told, .ref o_toldSymbols, .ref o_toldNumbers, .int o_place, .int o_fail, .int o_found, .int o_symbolCount, .int o_distanceCount, .int o_lengthCount])), (o_heads, .inl (o_heads_c, o_heads_n, .inl o_heads_v)), (o_text, .inl (o_text_c, o_text_n, .inl o_text_v)), (o_earlier, .inl (o_earlier_c, o_earlier_n, .inl o_earlier_v)), (o_lengths, .inl (o_lengths_c, o_lengths_n, .inl o_lengths_v)), (o_distances, .inl (o_distances_c, o_distances_n, .inl o_distances_v))] sz) := by
  refine fb_metv (by decide) (Nat.le_of_ble_eq_true rfl) (fun p e s m args below meth c A Q ls H hx hb hml hown hts hP hK hN hZ hD hA hS hret hl => ?_)
  replace hl : lv_has ls 5 [(0, .ref o)] := hl
  have wB112 : ∀ (K29 : Int32 → Int32 → (Nat → Int32) → (Nat → Int32) → (Nat → Int32) → (Nat → Int32) → Int32 → Option (Int32 × Int32 × (Nat → Int32) × (Nat → Int32) × (Nat → Int32) × (Nat → Int32))), (∀ (o_tokens : Int32) (o_found : Int32) (o_heads_v : Nat → Int32) (o_earlier_v : Nat → Int32) (o_lengths_v : Nat → Int32) (o_distances_v : Nat → Int32) (x1 : Int32) (H : Heap) (locs : List Loc) (ls : Array Slot), va_P (dC, dI) fb_cl [(o, .inr (11, [.int o_textRoom, .int o_byteRoom, .int o_chain, .ref o_text, .int o_textSize, .ref o_packed, .int o_packedSize, .int o_matches, .ref o_loaded, .int o_loadedSize, .ref o_out, .int o_outSize, .int o_bits, .int o_tokens, .ref o_lengths, .ref o_distances, .ref o_heads, .ref o_earlier, .ref o_often, .ref o_symbolLengths, .ref o_distanceLengths, .ref o_lengthLengths, .ref o_symbolCodes, .ref o_distanceCodes, .ref o_lengthCodes, .ref o_counts, .ref o_parents, .ref o_alone, .ref o_row, .int o_told, .ref o_toldSymbols, .ref o_toldNumbers, .int o_place, .int o_fail, .int o_found, .int o_symbolCount, .int o_distanceCount, .int o_lengthCount])), (o_heads, .inl (o_heads_c, o_heads_n, .inl o_heads_v)), (o_text, .inl (o_text_c, o_text_n, .inl o_text_v)), (o_earlier, .inl (o_earlier_c, o_earlier_n, .inl o_earlier_v)), (o_lengths, .inl (o_lengths_c, o_lengths_n, .inl o_lengths_v)), (o_distances, .inl (o_distances_c, o_distances_n, .inl o_distances_v))] H → va_D A [(o, .inr (11, [.int o_textRoom, .int o_byteRoom, .int o_chain, .ref o_text, .int o_textSize, .ref o_packed, .int o_packedSize, .int o_matches, .ref o_loaded, .int o_loadedSize, .ref o_out, .int o_outSize, .int o_bits, .int o_tokens, .ref o_lengths, .ref o_distances, .ref o_heads, .ref o_earlier, .ref o_often, .ref o_symbolLengths, .ref o_distanceLengths, .ref o_lengthLengths, .ref o_symbolCodes, .ref o_distanceCodes, .ref o_lengthCodes, .ref o_counts, .ref o_parents, .ref o_alone, .ref o_row, .int o_told, .ref o_toldSymbols, .ref o_toldNumbers, .int o_place, .int o_fail, .int o_found, .int o_symbolCount, .int o_distanceCount, .int o_lengthCount])), (o_heads, .inl (o_heads_c, o_heads_n, .inl o_heads_v)), (o_text, .inl (o_text_c, o_text_n, .inl o_text_v)), (o_earlier, .inl (o_earlier_c, o_earlier_n, .inl o_earlier_v)), (o_lengths, .inl (o_lengths_c, o_lengths_n, .inl o_lengths_v)), (o_distances, .inl (o_distances_c, o_distances_n, .inl o_distances_v))] → va_S A s.heap H locs → lv_has ls 5 [(0, .ref o), (1, .int x1)] → K29 o_tokens o_found o_heads_v o_earlier_v o_lengths_v o_distances_v x1 = some u → W p l e ({ frames := 3, cells := 0, slots := 0, locals := 70 }) s m args below meth c H locs 0 0 Q (F0 m 29 ls [])) → ∀ n : Nat, ∀ (o_tokens : Int32) (o_found : Int32) (o_heads_v : Nat → Int32) (o_earlier_v : Nat → Int32) (o_lengths_v : Nat → Int32) (o_distances_v : Nat → Int32) (x1 : Int32) (x3 : Int32) (x4 : Int32) (H : Heap) (locs : List Loc) (ls : Array Slot), va_P (dC, dI) fb_cl [(o, .inr (11, [.int o_textRoom, .int o_byteRoom, .int o_chain, .ref o_text, .int o_textSize, .ref o_packed, .int o_packedSize, .int o_matches, .ref o_loaded, .int o_loadedSize, .ref o_out, .int o_outSize, .int o_bits, .int o_tokens, .ref o_lengths, .ref o_distances, .ref o_heads, .ref o_earlier, .ref o_often, .ref o_symbolLengths, .ref o_distanceLengths, .ref o_lengthLengths, .ref o_symbolCodes, .ref o_distanceCodes, .ref o_lengthCodes, .ref o_counts, .ref o_parents, .ref o_alone, .ref o_row, .int o_told, .ref o_toldSymbols, .ref o_toldNumbers, .int o_place, .int o_fail, .int o_found, .int o_symbolCount, .int o_distanceCount, .int o_lengthCount])), (o_heads, .inl (o_heads_c, o_heads_n, .inl o_heads_v)), (o_text, .inl (o_text_c, o_text_n, .inl o_text_v)), (o_earlier, .inl (o_earlier_c, o_earlier_n, .inl o_earlier_v)), (o_lengths, .inl (o_lengths_c, o_lengths_n, .inl o_lengths_v)), (o_distances, .inl (o_distances_c, o_distances_n, .inl o_distances_v))] H → va_D A [(o, .inr (11, [.int o_textRoom, .int o_byteRoom, .int o_chain, .ref o_text, .int o_textSize, .ref o_packed, .int o_packedSize, .int o_matches, .ref o_loaded, .int o_loadedSize, .ref o_out, .int o_outSize, .int o_bits, .int o_tokens, .ref o_lengths, .ref o_distances, .ref o_heads, .ref o_earlier, .ref o_often, .ref o_symbolLengths, .ref o_distanceLengths, .ref o_lengthLengths, .ref o_symbolCodes, .ref o_distanceCodes, .ref o_lengthCodes, .ref o_counts, .ref o_parents, .ref o_alone, .ref o_row, .int o_told, .ref o_toldSymbols, .ref o_toldNumbers, .int o_place, .int o_fail, .int o_found, .int o_symbolCount, .int o_distanceCount, .int o_lengthCount])), (o_heads, .inl (o_heads_c, o_heads_n, .inl o_heads_v)), (o_text, .inl (o_text_c, o_text_n, .inl o_text_v)), (o_earlier, .inl (o_earlier_c, o_earlier_n, .inl o_earlier_v)), (o_lengths, .inl (o_lengths_c, o_lengths_n, .inl o_lengths_v)), (o_distances, .inl (o_distances_c, o_distances_n, .inl o_distances_v))] → va_S A s.heap H locs → lv_has ls 5 [(0, .ref o), (1, .int x1), (3, .int x3), (4, .int x4)] → pX11_findTokens_b112 o_heads_n o_text_n o_earlier_n o_textSize o_text_v K29 n o_tokens o_found o_heads_v o_earlier_v o_lengths_v o_distances_v x1 x3 x4 = some u → W p l e ({ frames := 3, cells := 0, slots := 0, locals := 70 }) s m args below meth c H locs 0 0 Q (F0 m 112 ls []) := by
    intro K29 hK29 n
    induction n with
    | zero => intro o_tokens o_found o_heads_v o_earlier_v o_lengths_v o_distances_v x1 x3 x4 H locs ls hP hD hS hl h; cases h
    | succ n ih =>
      intro o_tokens o_found o_heads_v o_earlier_v o_lengths_v o_distances_v x1 x3 x4 H locs ls hP hD hS hl h
      rw [pX11_findTokens_b112] at h
      refine lv_iload hx hb dX11_findTokens_112 (lv_at hl 3 rfl) ?_
      refine lv_iload_n hx hb dX11_findTokens_114 rfl (lv_at hl 2 rfl) ?_
      refine lv_icmp_ge (tgt := 132) hx hb dX11_findTokens_115 (by decide) (fun c1 => ?_) (fun c1 => ?_)
      · replace h := fb_t c1 h
        refine lv_iload_n hx hb dX11_findTokens_132 rfl (lv_at hl 1 rfl) ?_
        refine lv_iload_n hx hb dX11_findTokens_133 rfl (lv_at hl 2 rfl) ?_
        refine lv_iadd hx hb dX11_findTokens_134 ?_
        refine lv_istore_n (lv' := [(1, .int (x1 + x3)), (0, .ref o), (3, .int x3), (4, .int x4)]) hx hb dX11_findTokens_135 rfl hl (by decide) rfl (fun ls hl => ?_)
        refine lv_goto (tgt := 29) hx hb dX11_findTokens_136 (by decide) ?_
        exact hK29 o_tokens o_found o_heads_v o_earlier_v o_lengths_v o_distances_v (x1 + x3) _ _ _ hP hD hS (lv_sub hl [1, 0] rfl) h
      · replace h := fb_f c1 h
        refine lv_aload_n hx hb dX11_findTokens_118 rfl (lv_at hl 0 rfl) ?_
        refine lv_iload_n hx hb dX11_findTokens_119 rfl (lv_at hl 1 rfl) ?_
        refine lv_iload hx hb dX11_findTokens_120 (lv_at hl 3 rfl) ?_
        refine lv_iadd hx hb dX11_findTokens_122 ?_
        obtain ⟨u2, e2, h⟩ := fb_b h
        refine fb_cv (wc := [(o, .inr (11, [.int o_textRoom, .int o_byteRoom, .int o_chain, .ref o_text, .int o_textSize, .ref o_packed, .int o_packedSize, .int o_matches, .ref o_loaded, .int o_loadedSize, .ref o_out, .int o_outSize, .int o_bits, .int o_tokens, .ref o_lengths, .ref o_distances, .ref o_heads, .ref o_earlier, .ref o_often, .ref o_symbolLengths, .ref o_distanceLengths, .ref o_lengthLengths, .ref o_symbolCodes, .ref o_distanceCodes, .ref o_lengthCodes, .ref o_counts, .ref o_parents, .ref o_alone, .ref o_row, .int o_told, .ref o_toldSymbols, .ref o_toldNumbers, .int o_place, .int o_fail, .int o_found, .int o_symbolCount, .int o_distanceCount, .int o_lengthCount])), (o_text, .inl (o_text_c, o_text_n, .inl o_text_v)), (o_heads, .inl (o_heads_c, o_heads_n, .inl o_heads_v)), (o_earlier, .inl (o_earlier_c, o_earlier_n, .inl o_earlier_v))]) (wr := [(o_lengths, .inl (o_lengths_c, o_lengths_n, .inl o_lengths_v)), (o_distances, .inl (o_distances_c, o_distances_n, .inl o_distances_v))]) (w1 := [(o, .inr (11, [.int o_textRoom, .int o_byteRoom, .int o_chain, .ref o_text, .int o_textSize, .ref o_packed, .int o_packedSize, .int o_matches, .ref o_loaded, .int o_loadedSize, .ref o_out, .int o_outSize, .int o_bits, .int o_tokens, .ref o_lengths, .ref o_distances, .ref o_heads, .ref o_earlier, .ref o_often, .ref o_symbolLengths, .ref o_distanceLengths, .ref o_lengthLengths, .ref o_symbolCodes, .ref o_distanceCodes, .ref o_lengthCodes, .ref o_counts, .ref o_parents, .ref o_alone, .ref o_row, .int o_told, .ref o_toldSymbols, .ref o_toldNumbers, .int o_place, .int o_fail, .int o_found, .int o_symbolCount, .int o_distanceCount, .int o_lengthCount])), (o_text, .inl (o_text_c, o_text_n, .inl o_text_v)), (o_heads, .inl (o_heads_c, o_heads_n, .inl u2.1)), (o_earlier, .inl (o_earlier_c, o_earlier_n, .inl u2.2))]) (ws' := [(o, .inr (11, [.int o_textRoom, .int o_byteRoom, .int o_chain, .ref o_text, .int o_textSize, .ref o_packed, .int o_packedSize, .int o_matches, .ref o_loaded, .int o_loadedSize, .ref o_out, .int o_outSize, .int o_bits, .int o_tokens, .ref o_lengths, .ref o_distances, .ref o_heads, .ref o_earlier, .ref o_often, .ref o_symbolLengths, .ref o_distanceLengths, .ref o_lengthLengths, .ref o_symbolCodes, .ref o_distanceCodes, .ref o_lengthCodes, .ref o_counts, .ref o_parents, .ref o_alone, .ref o_row, .int o_told, .ref o_toldSymbols, .ref o_toldNumbers, .int o_place, .int o_fail, .int o_found, .int o_symbolCount, .int o_distanceCount, .int o_lengthCount])), (o_heads, .inl (o_heads_c, o_heads_n, .inl u2.1)), (o_text, .inl (o_text_c, o_text_n, .inl o_text_v)), (o_earlier, .inl (o_earlier_c, o_earlier_n, .inl u2.2)), (o_lengths, .inl (o_lengths_c, o_lengths_n, .inl o_lengths_v)), (o_distances, .inl (o_distances_c, o_distances_n, .inl o_distances_v))]) (va_runV (As := [.int (x1 + x4)]) (rest := []) ⟨hx, hb, hml, hown, hts⟩ (mX11_note l dC dI o o_text o_heads o_earlier o_packed o_loaded o_out o_lengths o_distances o_often o_symbolLengths o_distanceLengths o_lengthLengths o_symbolCodes o_distanceCodes o_lengthCodes o_counts o_parents o_alone o_row o_toldSymbols o_toldNumbers o_text_c o_heads_c o_earlier_c o_text_n o_heads_n o_earlier_n o_textRoom o_byteRoom o_chain o_textSize o_packedSize o_matches o_loadedSize o_outSize o_bits o_tokens o_told o_place o_fail o_found o_symbolCount o_distanceCount o_lengthCount o_text_v o_heads_v o_earlier_v (x1 + x4) H.size u2 e2) (cwV 1 hts (fb_GV k_1025 k_1027 k_38 k_74 k_1028) rfl rfl rfl hdX11_note ⟨Nat.le_of_ble_eq_true rfl, Nat.le_of_ble_eq_true rfl⟩) (fb_pV hP hD hS hA hK hN hZ [0, 2, 1, 3] rfl rfl [1, 0, 2] rfl (q0 := 0) (ci := 11) rfl rfl) rfl rfl hl.1 rfl (lv_room (Nat.le_of_ble_eq_true rfl)) dX11_findTokens_123 ⟨Nat.le_of_ble_eq_true rfl, Nat.le_of_ble_eq_true rfl⟩) hP hD hS hA [0, 2, 1, 3] [4, 5] rfl rfl rfl (by decide) [2, 4, 3, 5, 0, 1] rfl rfl (fun H locs hP hD hS => ?_)
        refine lv_iinc (v := (x4 + (1 : Int32))) (lv' := [(4, .int (x4 + (1 : Int32))), (0, .ref o), (1, .int x1), (3, .int x3)]) hx hb dX11_findTokens_126 hl (k := 3) rfl rfl (by decide) rfl (fun ls hl => ?_)
        refine lv_goto (tgt := 112) hx hb dX11_findTokens_129 (by decide) ?_
        exact ih o_tokens o_found u2.1 u2.2 o_lengths_v o_distances_v x1 x3 (x4 + (1 : Int32)) _ _ _ hP hD hS (lv_sub hl [1, 2, 3, 0] rfl) h
  have wB98 : ∀ (K29 : Int32 → Int32 → (Nat → Int32) → (Nat → Int32) → (Nat → Int32) → (Nat → Int32) → Int32 → Option (Int32 × Int32 × (Nat → Int32) × (Nat → Int32) × (Nat → Int32) × (Nat → Int32))), (∀ (o_tokens : Int32) (o_found : Int32) (o_heads_v : Nat → Int32) (o_earlier_v : Nat → Int32) (o_lengths_v : Nat → Int32) (o_distances_v : Nat → Int32) (x1 : Int32) (H : Heap) (locs : List Loc) (ls : Array Slot), va_P (dC, dI) fb_cl [(o, .inr (11, [.int o_textRoom, .int o_byteRoom, .int o_chain, .ref o_text, .int o_textSize, .ref o_packed, .int o_packedSize, .int o_matches, .ref o_loaded, .int o_loadedSize, .ref o_out, .int o_outSize, .int o_bits, .int o_tokens, .ref o_lengths, .ref o_distances, .ref o_heads, .ref o_earlier, .ref o_often, .ref o_symbolLengths, .ref o_distanceLengths, .ref o_lengthLengths, .ref o_symbolCodes, .ref o_distanceCodes, .ref o_lengthCodes, .ref o_counts, .ref o_parents, .ref o_alone, .ref o_row, .int o_told, .ref o_toldSymbols, .ref o_toldNumbers, .int o_place, .int o_fail, .int o_found, .int o_symbolCount, .int o_distanceCount, .int o_lengthCount])), (o_heads, .inl (o_heads_c, o_heads_n, .inl o_heads_v)), (o_text, .inl (o_text_c, o_text_n, .inl o_text_v)), (o_earlier, .inl (o_earlier_c, o_earlier_n, .inl o_earlier_v)), (o_lengths, .inl (o_lengths_c, o_lengths_n, .inl o_lengths_v)), (o_distances, .inl (o_distances_c, o_distances_n, .inl o_distances_v))] H → va_D A [(o, .inr (11, [.int o_textRoom, .int o_byteRoom, .int o_chain, .ref o_text, .int o_textSize, .ref o_packed, .int o_packedSize, .int o_matches, .ref o_loaded, .int o_loadedSize, .ref o_out, .int o_outSize, .int o_bits, .int o_tokens, .ref o_lengths, .ref o_distances, .ref o_heads, .ref o_earlier, .ref o_often, .ref o_symbolLengths, .ref o_distanceLengths, .ref o_lengthLengths, .ref o_symbolCodes, .ref o_distanceCodes, .ref o_lengthCodes, .ref o_counts, .ref o_parents, .ref o_alone, .ref o_row, .int o_told, .ref o_toldSymbols, .ref o_toldNumbers, .int o_place, .int o_fail, .int o_found, .int o_symbolCount, .int o_distanceCount, .int o_lengthCount])), (o_heads, .inl (o_heads_c, o_heads_n, .inl o_heads_v)), (o_text, .inl (o_text_c, o_text_n, .inl o_text_v)), (o_earlier, .inl (o_earlier_c, o_earlier_n, .inl o_earlier_v)), (o_lengths, .inl (o_lengths_c, o_lengths_n, .inl o_lengths_v)), (o_distances, .inl (o_distances_c, o_distances_n, .inl o_distances_v))] → va_S A s.heap H locs → lv_has ls 5 [(0, .ref o), (1, .int x1)] → K29 o_tokens o_found o_heads_v o_earlier_v o_lengths_v o_distances_v x1 = some u → W p l e ({ frames := 3, cells := 0, slots := 0, locals := 70 }) s m args below meth c H locs 0 0 Q (F0 m 29 ls [])) → ∀ (o_tokens : Int32) (o_found : Int32) (o_heads_v : Nat → Int32) (o_earlier_v : Nat → Int32) (o_lengths_v : Nat → Int32) (o_distances_v : Nat → Int32) (x1 : Int32) (x3 : Int32) (t0 : Int32) (t1 : Int32) (H : Heap) (locs : List Loc) (ls : Array Slot), va_P (dC, dI) fb_cl [(o, .inr (11, [.int o_textRoom, .int o_byteRoom, .int o_chain, .ref o_text, .int o_textSize, .ref o_packed, .int o_packedSize, .int o_matches, .ref o_loaded, .int o_loadedSize, .ref o_out, .int o_outSize, .int o_bits, .int o_tokens, .ref o_lengths, .ref o_distances, .ref o_heads, .ref o_earlier, .ref o_often, .ref o_symbolLengths, .ref o_distanceLengths, .ref o_lengthLengths, .ref o_symbolCodes, .ref o_distanceCodes, .ref o_lengthCodes, .ref o_counts, .ref o_parents, .ref o_alone, .ref o_row, .int o_told, .ref o_toldSymbols, .ref o_toldNumbers, .int o_place, .int o_fail, .int o_found, .int o_symbolCount, .int o_distanceCount, .int o_lengthCount])), (o_heads, .inl (o_heads_c, o_heads_n, .inl o_heads_v)), (o_text, .inl (o_text_c, o_text_n, .inl o_text_v)), (o_earlier, .inl (o_earlier_c, o_earlier_n, .inl o_earlier_v)), (o_lengths, .inl (o_lengths_c, o_lengths_n, .inl o_lengths_v)), (o_distances, .inl (o_distances_c, o_distances_n, .inl o_distances_v))] H → va_D A [(o, .inr (11, [.int o_textRoom, .int o_byteRoom, .int o_chain, .ref o_text, .int o_textSize, .ref o_packed, .int o_packedSize, .int o_matches, .ref o_loaded, .int o_loadedSize, .ref o_out, .int o_outSize, .int o_bits, .int o_tokens, .ref o_lengths, .ref o_distances, .ref o_heads, .ref o_earlier, .ref o_often, .ref o_symbolLengths, .ref o_distanceLengths, .ref o_lengthLengths, .ref o_symbolCodes, .ref o_distanceCodes, .ref o_lengthCodes, .ref o_counts, .ref o_parents, .ref o_alone, .ref o_row, .int o_told, .ref o_toldSymbols, .ref o_toldNumbers, .int o_place, .int o_fail, .int o_found, .int o_symbolCount, .int o_distanceCount, .int o_lengthCount])), (o_heads, .inl (o_heads_c, o_heads_n, .inl o_heads_v)), (o_text, .inl (o_text_c, o_text_n, .inl o_text_v)), (o_earlier, .inl (o_earlier_c, o_earlier_n, .inl o_earlier_v)), (o_lengths, .inl (o_lengths_c, o_lengths_n, .inl o_lengths_v)), (o_distances, .inl (o_distances_c, o_distances_n, .inl o_distances_v))] → va_S A s.heap H locs → lv_has ls 5 [(0, .ref o), (1, .int x1), (3, .int x3)] → pX11_findTokens_b98 o_heads_n o_text_n o_earlier_n o_distances_n o_textSize o_text_v K29 o_tokens o_found o_heads_v o_earlier_v o_lengths_v o_distances_v x1 x3 t0 t1 = some u → W p l e ({ frames := 3, cells := 0, slots := 0, locals := 70 }) s m args below meth c H locs 0 0 Q (F0 m 98 ls [.int t0, .int t1, .ref o_distances]) := by
    intro K29 hK29 o_tokens o_found o_heads_v o_earlier_v o_lengths_v o_distances_v x1 x3 t0 t1 H locs ls hP hD hS hl h
    unfold pX11_findTokens_b98 at h
    obtain ⟨g3, h⟩ := fb_g h
    refine va_iast hx hb hK hP hD hS 5 4 rfl rfl g3 dX11_findTokens_98 (fun H locs hP hD hS => ?_)
    replace hP : va_P (dC, dI) fb_cl [(o, .inr (11, [.int o_textRoom, .int o_byteRoom, .int o_chain, .ref o_text, .int o_textSize, .ref o_packed, .int o_packedSize, .int o_matches, .ref o_loaded, .int o_loadedSize, .ref o_out, .int o_outSize, .int o_bits, .int o_tokens, .ref o_lengths, .ref o_distances, .ref o_heads, .ref o_earlier, .ref o_often, .ref o_symbolLengths, .ref o_distanceLengths, .ref o_lengthLengths, .ref o_symbolCodes, .ref o_distanceCodes, .ref o_lengthCodes, .ref o_counts, .ref o_parents, .ref o_alone, .ref o_row, .int o_told, .ref o_toldSymbols, .ref o_toldNumbers, .int o_place, .int o_fail, .int o_found, .int o_symbolCount, .int o_distanceCount, .int o_lengthCount])), (o_heads, .inl (o_heads_c, o_heads_n, .inl o_heads_v)), (o_text, .inl (o_text_c, o_text_n, .inl o_text_v)), (o_earlier, .inl (o_earlier_c, o_earlier_n, .inl o_earlier_v)), (o_lengths, .inl (o_lengths_c, o_lengths_n, .inl o_lengths_v)), (o_distances, .inl (o_distances_c, o_distances_n, .inl (upd o_distances_v (t1).toNatClampNeg t0)))] H := hP
    replace hD : va_D A [(o, .inr (11, [.int o_textRoom, .int o_byteRoom, .int o_chain, .ref o_text, .int o_textSize, .ref o_packed, .int o_packedSize, .int o_matches, .ref o_loaded, .int o_loadedSize, .ref o_out, .int o_outSize, .int o_bits, .int o_tokens, .ref o_lengths, .ref o_distances, .ref o_heads, .ref o_earlier, .ref o_often, .ref o_symbolLengths, .ref o_distanceLengths, .ref o_lengthLengths, .ref o_symbolCodes, .ref o_distanceCodes, .ref o_lengthCodes, .ref o_counts, .ref o_parents, .ref o_alone, .ref o_row, .int o_told, .ref o_toldSymbols, .ref o_toldNumbers, .int o_place, .int o_fail, .int o_found, .int o_symbolCount, .int o_distanceCount, .int o_lengthCount])), (o_heads, .inl (o_heads_c, o_heads_n, .inl o_heads_v)), (o_text, .inl (o_text_c, o_text_n, .inl o_text_v)), (o_earlier, .inl (o_earlier_c, o_earlier_n, .inl o_earlier_v)), (o_lengths, .inl (o_lengths_c, o_lengths_n, .inl o_lengths_v)), (o_distances, .inl (o_distances_c, o_distances_n, .inl (upd o_distances_v (t1).toNatClampNeg t0)))] := hD
    refine lv_aload_n hx hb dX11_findTokens_99 rfl (lv_at hl 0 rfl) ?_
    refine lv_dup hx hb dX11_findTokens_100 rfl ?_
    refine va_get (D := (dC, dI)) (ci := 11) (v := .int o_tokens) (C := RX11) (T := TX11) (N := 38) hx hb hts i_X11 hown hK hP 0 rfl rfl 13 (by decide) (hts _ k_850) (fun _ h9 => h9) rfl dX11_findTokens_101 ?_
    refine lv_iconst (v := (1 : Int32)) hx hb dX11_findTokens_104 (by decide) ?_
    refine lv_iadd hx hb dX11_findTokens_105 ?_
    refine va_put (D := (dC, dI)) (ci := 11) (v := .int (o_tokens + (1 : Int32))) (ty := .int) (C := RX11) (T := TX11) (N := 38) hx hb hts i_X11 tyX11 tyX11_ok nmX11 hown hK hP hD hS 0 rfl rfl 13 (by decide) (hts _ k_850) (fun _ h9 => h9) rfl (by decide +kernel) rfl rfl (Nat.le_of_ble_eq_true rfl) dX11_findTokens_106 (fun H locs hP hD hS => ?_)
    replace hP : va_P (dC, dI) fb_cl [(o, .inr (11, [.int o_textRoom, .int o_byteRoom, .int o_chain, .ref o_text, .int o_textSize, .ref o_packed, .int o_packedSize, .int o_matches, .ref o_loaded, .int o_loadedSize, .ref o_out, .int o_outSize, .int o_bits, .int (o_tokens + (1 : Int32)), .ref o_lengths, .ref o_distances, .ref o_heads, .ref o_earlier, .ref o_often, .ref o_symbolLengths, .ref o_distanceLengths, .ref o_lengthLengths, .ref o_symbolCodes, .ref o_distanceCodes, .ref o_lengthCodes, .ref o_counts, .ref o_parents, .ref o_alone, .ref o_row, .int o_told, .ref o_toldSymbols, .ref o_toldNumbers, .int o_place, .int o_fail, .int o_found, .int o_symbolCount, .int o_distanceCount, .int o_lengthCount])), (o_heads, .inl (o_heads_c, o_heads_n, .inl o_heads_v)), (o_text, .inl (o_text_c, o_text_n, .inl o_text_v)), (o_earlier, .inl (o_earlier_c, o_earlier_n, .inl o_earlier_v)), (o_lengths, .inl (o_lengths_c, o_lengths_n, .inl o_lengths_v)), (o_distances, .inl (o_distances_c, o_distances_n, .inl (upd o_distances_v (t1).toNatClampNeg t0)))] H := hP
    replace hD : va_D A [(o, .inr (11, [.int o_textRoom, .int o_byteRoom, .int o_chain, .ref o_text, .int o_textSize, .ref o_packed, .int o_packedSize, .int o_matches, .ref o_loaded, .int o_loadedSize, .ref o_out, .int o_outSize, .int o_bits, .int (o_tokens + (1 : Int32)), .ref o_lengths, .ref o_distances, .ref o_heads, .ref o_earlier, .ref o_often, .ref o_symbolLengths, .ref o_distanceLengths, .ref o_lengthLengths, .ref o_symbolCodes, .ref o_distanceCodes, .ref o_lengthCodes, .ref o_counts, .ref o_parents, .ref o_alone, .ref o_row, .int o_told, .ref o_toldSymbols, .ref o_toldNumbers, .int o_place, .int o_fail, .int o_found, .int o_symbolCount, .int o_distanceCount, .int o_lengthCount])), (o_heads, .inl (o_heads_c, o_heads_n, .inl o_heads_v)), (o_text, .inl (o_text_c, o_text_n, .inl o_text_v)), (o_earlier, .inl (o_earlier_c, o_earlier_n, .inl o_earlier_v)), (o_lengths, .inl (o_lengths_c, o_lengths_n, .inl o_lengths_v)), (o_distances, .inl (o_distances_c, o_distances_n, .inl (upd o_distances_v (t1).toNatClampNeg t0)))] := hD
    refine lv_iconst (v := (0 : Int32)) hx hb dX11_findTokens_109 (by decide) ?_
    refine lv_istore (lv' := [(4, .int (0 : Int32)), (0, .ref o), (1, .int x1), (3, .int x3)]) hx hb dX11_findTokens_110 hl (by decide) rfl (fun ls hl => ?_)
    exact wB112 K29 hK29 fb_F (o_tokens + (1 : Int32)) o_found o_heads_v o_earlier_v o_lengths_v (upd o_distances_v (t1).toNatClampNeg t0) x1 x3 (0 : Int32) _ _ _ hP hD hS (lv_sub hl [1, 2, 3, 0] rfl) h
  have wB73 : ∀ (K29 : Int32 → Int32 → (Nat → Int32) → (Nat → Int32) → (Nat → Int32) → (Nat → Int32) → Int32 → Option (Int32 × Int32 × (Nat → Int32) × (Nat → Int32) × (Nat → Int32) × (Nat → Int32))), (∀ (o_tokens : Int32) (o_found : Int32) (o_heads_v : Nat → Int32) (o_earlier_v : Nat → Int32) (o_lengths_v : Nat → Int32) (o_distances_v : Nat → Int32) (x1 : Int32) (H : Heap) (locs : List Loc) (ls : Array Slot), va_P (dC, dI) fb_cl [(o, .inr (11, [.int o_textRoom, .int o_byteRoom, .int o_chain, .ref o_text, .int o_textSize, .ref o_packed, .int o_packedSize, .int o_matches, .ref o_loaded, .int o_loadedSize, .ref o_out, .int o_outSize, .int o_bits, .int o_tokens, .ref o_lengths, .ref o_distances, .ref o_heads, .ref o_earlier, .ref o_often, .ref o_symbolLengths, .ref o_distanceLengths, .ref o_lengthLengths, .ref o_symbolCodes, .ref o_distanceCodes, .ref o_lengthCodes, .ref o_counts, .ref o_parents, .ref o_alone, .ref o_row, .int o_told, .ref o_toldSymbols, .ref o_toldNumbers, .int o_place, .int o_fail, .int o_found, .int o_symbolCount, .int o_distanceCount, .int o_lengthCount])), (o_heads, .inl (o_heads_c, o_heads_n, .inl o_heads_v)), (o_text, .inl (o_text_c, o_text_n, .inl o_text_v)), (o_earlier, .inl (o_earlier_c, o_earlier_n, .inl o_earlier_v)), (o_lengths, .inl (o_lengths_c, o_lengths_n, .inl o_lengths_v)), (o_distances, .inl (o_distances_c, o_distances_n, .inl o_distances_v))] H → va_D A [(o, .inr (11, [.int o_textRoom, .int o_byteRoom, .int o_chain, .ref o_text, .int o_textSize, .ref o_packed, .int o_packedSize, .int o_matches, .ref o_loaded, .int o_loadedSize, .ref o_out, .int o_outSize, .int o_bits, .int o_tokens, .ref o_lengths, .ref o_distances, .ref o_heads, .ref o_earlier, .ref o_often, .ref o_symbolLengths, .ref o_distanceLengths, .ref o_lengthLengths, .ref o_symbolCodes, .ref o_distanceCodes, .ref o_lengthCodes, .ref o_counts, .ref o_parents, .ref o_alone, .ref o_row, .int o_told, .ref o_toldSymbols, .ref o_toldNumbers, .int o_place, .int o_fail, .int o_found, .int o_symbolCount, .int o_distanceCount, .int o_lengthCount])), (o_heads, .inl (o_heads_c, o_heads_n, .inl o_heads_v)), (o_text, .inl (o_text_c, o_text_n, .inl o_text_v)), (o_earlier, .inl (o_earlier_c, o_earlier_n, .inl o_earlier_v)), (o_lengths, .inl (o_lengths_c, o_lengths_n, .inl o_lengths_v)), (o_distances, .inl (o_distances_c, o_distances_n, .inl o_distances_v))] → va_S A s.heap H locs → lv_has ls 5 [(0, .ref o), (1, .int x1)] → K29 o_tokens o_found o_heads_v o_earlier_v o_lengths_v o_distances_v x1 = some u → W p l e ({ frames := 3, cells := 0, slots := 0, locals := 70 }) s m args below meth c H locs 0 0 Q (F0 m 29 ls [])) → ∀ (o_tokens : Int32) (o_found : Int32) (o_heads_v : Nat → Int32) (o_earlier_v : Nat → Int32) (o_lengths_v : Nat → Int32) (o_distances_v : Nat → Int32) (x1 : Int32) (x2 : Int32) (x3 : Int32) (t0 : Int32) (t1 : Int32) (H : Heap) (locs : List Loc) (ls : Array Slot), va_P (dC, dI) fb_cl [(o, .inr (11, [.int o_textRoom, .int o_byteRoom, .int o_chain, .ref o_text, .int o_textSize, .ref o_packed, .int o_packedSize, .int o_matches, .ref o_loaded, .int o_loadedSize, .ref o_out, .int o_outSize, .int o_bits, .int o_tokens, .ref o_lengths, .ref o_distances, .ref o_heads, .ref o_earlier, .ref o_often, .ref o_symbolLengths, .ref o_distanceLengths, .ref o_lengthLengths, .ref o_symbolCodes, .ref o_distanceCodes, .ref o_lengthCodes, .ref o_counts, .ref o_parents, .ref o_alone, .ref o_row, .int o_told, .ref o_toldSymbols, .ref o_toldNumbers, .int o_place, .int o_fail, .int o_found, .int o_symbolCount, .int o_distanceCount, .int o_lengthCount])), (o_heads, .inl (o_heads_c, o_heads_n, .inl o_heads_v)), (o_text, .inl (o_text_c, o_text_n, .inl o_text_v)), (o_earlier, .inl (o_earlier_c, o_earlier_n, .inl o_earlier_v)), (o_lengths, .inl (o_lengths_c, o_lengths_n, .inl o_lengths_v)), (o_distances, .inl (o_distances_c, o_distances_n, .inl o_distances_v))] H → va_D A [(o, .inr (11, [.int o_textRoom, .int o_byteRoom, .int o_chain, .ref o_text, .int o_textSize, .ref o_packed, .int o_packedSize, .int o_matches, .ref o_loaded, .int o_loadedSize, .ref o_out, .int o_outSize, .int o_bits, .int o_tokens, .ref o_lengths, .ref o_distances, .ref o_heads, .ref o_earlier, .ref o_often, .ref o_symbolLengths, .ref o_distanceLengths, .ref o_lengthLengths, .ref o_symbolCodes, .ref o_distanceCodes, .ref o_lengthCodes, .ref o_counts, .ref o_parents, .ref o_alone, .ref o_row, .int o_told, .ref o_toldSymbols, .ref o_toldNumbers, .int o_place, .int o_fail, .int o_found, .int o_symbolCount, .int o_distanceCount, .int o_lengthCount])), (o_heads, .inl (o_heads_c, o_heads_n, .inl o_heads_v)), (o_text, .inl (o_text_c, o_text_n, .inl o_text_v)), (o_earlier, .inl (o_earlier_c, o_earlier_n, .inl o_earlier_v)), (o_lengths, .inl (o_lengths_c, o_lengths_n, .inl o_lengths_v)), (o_distances, .inl (o_distances_c, o_distances_n, .inl o_distances_v))] → va_S A s.heap H locs → lv_has ls 5 [(0, .ref o), (1, .int x1), (2, .int x2), (3, .int x3)] → pX11_findTokens_b73 o_heads_n o_text_n o_earlier_n o_lengths_n o_distances_n o_textSize o_text_v K29 o_tokens o_found o_heads_v o_earlier_v o_lengths_v o_distances_v x1 x2 x3 t0 t1 = some u → W p l e ({ frames := 3, cells := 0, slots := 0, locals := 70 }) s m args below meth c H locs 0 0 Q (F0 m 73 ls [.int t0, .int t1, .ref o_lengths]) := by
    intro K29 hK29 o_tokens o_found o_heads_v o_earlier_v o_lengths_v o_distances_v x1 x2 x3 t0 t1 H locs ls hP hD hS hl h
    unfold pX11_findTokens_b73 at h
    obtain ⟨g4, h⟩ := fb_g h
    refine va_iast hx hb hK hP hD hS 4 3 rfl rfl g4 dX11_findTokens_73 (fun H locs hP hD hS => ?_)
    replace hP : va_P (dC, dI) fb_cl [(o, .inr (11, [.int o_textRoom, .int o_byteRoom, .int o_chain, .ref o_text, .int o_textSize, .ref o_packed, .int o_packedSize, .int o_matches, .ref o_loaded, .int o_loadedSize, .ref o_out, .int o_outSize, .int o_bits, .int o_tokens, .ref o_lengths, .ref o_distances, .ref o_heads, .ref o_earlier, .ref o_often, .ref o_symbolLengths, .ref o_distanceLengths, .ref o_lengthLengths, .ref o_symbolCodes, .ref o_distanceCodes, .ref o_lengthCodes, .ref o_counts, .ref o_parents, .ref o_alone, .ref o_row, .int o_told, .ref o_toldSymbols, .ref o_toldNumbers, .int o_place, .int o_fail, .int o_found, .int o_symbolCount, .int o_distanceCount, .int o_lengthCount])), (o_heads, .inl (o_heads_c, o_heads_n, .inl o_heads_v)), (o_text, .inl (o_text_c, o_text_n, .inl o_text_v)), (o_earlier, .inl (o_earlier_c, o_earlier_n, .inl o_earlier_v)), (o_lengths, .inl (o_lengths_c, o_lengths_n, .inl (upd o_lengths_v (t1).toNatClampNeg t0))), (o_distances, .inl (o_distances_c, o_distances_n, .inl o_distances_v))] H := hP
    replace hD : va_D A [(o, .inr (11, [.int o_textRoom, .int o_byteRoom, .int o_chain, .ref o_text, .int o_textSize, .ref o_packed, .int o_packedSize, .int o_matches, .ref o_loaded, .int o_loadedSize, .ref o_out, .int o_outSize, .int o_bits, .int o_tokens, .ref o_lengths, .ref o_distances, .ref o_heads, .ref o_earlier, .ref o_often, .ref o_symbolLengths, .ref o_distanceLengths, .ref o_lengthLengths, .ref o_symbolCodes, .ref o_distanceCodes, .ref o_lengthCodes, .ref o_counts, .ref o_parents, .ref o_alone, .ref o_row, .int o_told, .ref o_toldSymbols, .ref o_toldNumbers, .int o_place, .int o_fail, .int o_found, .int o_symbolCount, .int o_distanceCount, .int o_lengthCount])), (o_heads, .inl (o_heads_c, o_heads_n, .inl o_heads_v)), (o_text, .inl (o_text_c, o_text_n, .inl o_text_v)), (o_earlier, .inl (o_earlier_c, o_earlier_n, .inl o_earlier_v)), (o_lengths, .inl (o_lengths_c, o_lengths_n, .inl (upd o_lengths_v (t1).toNatClampNeg t0))), (o_distances, .inl (o_distances_c, o_distances_n, .inl o_distances_v))] := hD
    refine lv_aload_n hx hb dX11_findTokens_74 rfl (lv_at hl 0 rfl) ?_
    refine va_get (D := (dC, dI)) (ci := 11) (v := .ref o_distances) (C := RX11) (T := TX11) (N := 38) hx hb hts i_X11 hown hK hP 0 rfl rfl 15 (by decide) (hts _ k_852) (fun _ h9 => h9) rfl dX11_findTokens_75 ?_
    refine lv_aload_n hx hb dX11_findTokens_78 rfl (lv_at hl 0 rfl) ?_
    refine va_get (D := (dC, dI)) (ci := 11) (v := .int o_tokens) (C := RX11) (T := TX11) (N := 38) hx hb hts i_X11 hown hK hP 0 rfl rfl 13 (by decide) (hts _ k_850) (fun _ h9 => h9) rfl dX11_findTokens_79 ?_
    refine lv_iload_n hx hb dX11_findTokens_82 rfl (lv_at hl 2 rfl) ?_
    refine lv_if_ge (tgt := 95) hx hb dX11_findTokens_83 (by decide) (fun c5 => ?_) (fun c5 => ?_)
    · replace h := fb_t c5 h
      refine lv_iload_n hx hb dX11_findTokens_95 rfl (lv_at hl 1 rfl) ?_
      refine lv_iload_n hx hb dX11_findTokens_96 rfl (lv_at hl 2 rfl) ?_
      refine lv_isub hx hb dX11_findTokens_97 ?_
      exact wB98 K29 hK29 o_tokens o_found o_heads_v o_earlier_v (upd o_lengths_v (t1).toNatClampNeg t0) o_distances_v x1 x3 (x1 - x2) o_tokens _ _ _ hP hD hS (lv_sub hl [0, 1, 3] rfl) h
    · replace h := fb_f c5 h
      refine lv_aload_n hx hb dX11_findTokens_86 rfl (lv_at hl 0 rfl) ?_
      refine va_get (D := (dC, dI)) (ci := 11) (v := .ref o_text) (C := RX11) (T := TX11) (N := 38) hx hb hts i_X11 hown hK hP 0 rfl rfl 3 (by decide) (hts _ k_840) (fun _ h9 => h9) rfl dX11_findTokens_87 ?_
      refine lv_iload_n hx hb dX11_findTokens_90 rfl (lv_at hl 1 rfl) ?_
      obtain ⟨g6, h⟩ := fb_g h
      refine va_iald hx hb hK hP 2 1 rfl rfl g6 dX11_findTokens_91 ?_
      refine lv_goto (tgt := 98) hx hb dX11_findTokens_92 (by decide) ?_
      exact wB98 K29 hK29 o_tokens o_found o_heads_v o_earlier_v (upd o_lengths_v (t1).toNatClampNeg t0) o_distances_v x1 x3 (o_text_v (x1).toNatClampNeg) o_tokens _ _ _ hP hD hS (lv_sub hl [0, 1, 3] rfl) h
  have wB55 : ∀ (K29 : Int32 → Int32 → (Nat → Int32) → (Nat → Int32) → (Nat → Int32) → (Nat → Int32) → Int32 → Option (Int32 × Int32 × (Nat → Int32) × (Nat → Int32) × (Nat → Int32) × (Nat → Int32))), (∀ (o_tokens : Int32) (o_found : Int32) (o_heads_v : Nat → Int32) (o_earlier_v : Nat → Int32) (o_lengths_v : Nat → Int32) (o_distances_v : Nat → Int32) (x1 : Int32) (H : Heap) (locs : List Loc) (ls : Array Slot), va_P (dC, dI) fb_cl [(o, .inr (11, [.int o_textRoom, .int o_byteRoom, .int o_chain, .ref o_text, .int o_textSize, .ref o_packed, .int o_packedSize, .int o_matches, .ref o_loaded, .int o_loadedSize, .ref o_out, .int o_outSize, .int o_bits, .int o_tokens, .ref o_lengths, .ref o_distances, .ref o_heads, .ref o_earlier, .ref o_often, .ref o_symbolLengths, .ref o_distanceLengths, .ref o_lengthLengths, .ref o_symbolCodes, .ref o_distanceCodes, .ref o_lengthCodes, .ref o_counts, .ref o_parents, .ref o_alone, .ref o_row, .int o_told, .ref o_toldSymbols, .ref o_toldNumbers, .int o_place, .int o_fail, .int o_found, .int o_symbolCount, .int o_distanceCount, .int o_lengthCount])), (o_heads, .inl (o_heads_c, o_heads_n, .inl o_heads_v)), (o_text, .inl (o_text_c, o_text_n, .inl o_text_v)), (o_earlier, .inl (o_earlier_c, o_earlier_n, .inl o_earlier_v)), (o_lengths, .inl (o_lengths_c, o_lengths_n, .inl o_lengths_v)), (o_distances, .inl (o_distances_c, o_distances_n, .inl o_distances_v))] H → va_D A [(o, .inr (11, [.int o_textRoom, .int o_byteRoom, .int o_chain, .ref o_text, .int o_textSize, .ref o_packed, .int o_packedSize, .int o_matches, .ref o_loaded, .int o_loadedSize, .ref o_out, .int o_outSize, .int o_bits, .int o_tokens, .ref o_lengths, .ref o_distances, .ref o_heads, .ref o_earlier, .ref o_often, .ref o_symbolLengths, .ref o_distanceLengths, .ref o_lengthLengths, .ref o_symbolCodes, .ref o_distanceCodes, .ref o_lengthCodes, .ref o_counts, .ref o_parents, .ref o_alone, .ref o_row, .int o_told, .ref o_toldSymbols, .ref o_toldNumbers, .int o_place, .int o_fail, .int o_found, .int o_symbolCount, .int o_distanceCount, .int o_lengthCount])), (o_heads, .inl (o_heads_c, o_heads_n, .inl o_heads_v)), (o_text, .inl (o_text_c, o_text_n, .inl o_text_v)), (o_earlier, .inl (o_earlier_c, o_earlier_n, .inl o_earlier_v)), (o_lengths, .inl (o_lengths_c, o_lengths_n, .inl o_lengths_v)), (o_distances, .inl (o_distances_c, o_distances_n, .inl o_distances_v))] → va_S A s.heap H locs → lv_has ls 5 [(0, .ref o), (1, .int x1)] → K29 o_tokens o_found o_heads_v o_earlier_v o_lengths_v o_distances_v x1 = some u → W p l e ({ frames := 3, cells := 0, slots := 0, locals := 70 }) s m args below meth c H locs 0 0 Q (F0 m 29 ls [])) → ∀ (o_tokens : Int32) (o_found : Int32) (o_heads_v : Nat → Int32) (o_earlier_v : Nat → Int32) (o_lengths_v : Nat → Int32) (o_distances_v : Nat → Int32) (x1 : Int32) (x2 : Int32) (t0 : Int32) (H : Heap) (locs : List Loc) (ls : Array Slot), va_P (dC, dI) fb_cl [(o, .inr (11, [.int o_textRoom, .int o_byteRoom, .int o_chain, .ref o_text, .int o_textSize, .ref o_packed, .int o_packedSize, .int o_matches, .ref o_loaded, .int o_loadedSize, .ref o_out, .int o_outSize, .int o_bits, .int o_tokens, .ref o_lengths, .ref o_distances, .ref o_heads, .ref o_earlier, .ref o_often, .ref o_symbolLengths, .ref o_distanceLengths, .ref o_lengthLengths, .ref o_symbolCodes, .ref o_distanceCodes, .ref o_lengthCodes, .ref o_counts, .ref o_parents, .ref o_alone, .ref o_row, .int o_told, .ref o_toldSymbols, .ref o_toldNumbers, .int o_place, .int o_fail, .int o_found, .int o_symbolCount, .int o_distanceCount, .int o_lengthCount])), (o_heads, .inl (o_heads_c, o_heads_n, .inl o_heads_v)), (o_text, .inl (o_text_c, o_text_n, .inl o_text_v)), (o_earlier, .inl (o_earlier_c, o_earlier_n, .inl o_earlier_v)), (o_lengths, .inl (o_lengths_c, o_lengths_n, .inl o_lengths_v)), (o_distances, .inl (o_distances_c, o_distances_n, .inl o_distances_v))] H → va_D A [(o, .inr (11, [.int o_textRoom, .int o_byteRoom, .int o_chain, .ref o_text, .int o_textSize, .ref o_packed, .int o_packedSize, .int o_matches, .ref o_loaded, .int o_loadedSize, .ref o_out, .int o_outSize, .int o_bits, .int o_tokens, .ref o_lengths, .ref o_distances, .ref o_heads, .ref o_earlier, .ref o_often, .ref o_symbolLengths, .ref o_distanceLengths, .ref o_lengthLengths, .ref o_symbolCodes, .ref o_distanceCodes, .ref o_lengthCodes, .ref o_counts, .ref o_parents, .ref o_alone, .ref o_row, .int o_told, .ref o_toldSymbols, .ref o_toldNumbers, .int o_place, .int o_fail, .int o_found, .int o_symbolCount, .int o_distanceCount, .int o_lengthCount])), (o_heads, .inl (o_heads_c, o_heads_n, .inl o_heads_v)), (o_text, .inl (o_text_c, o_text_n, .inl o_text_v)), (o_earlier, .inl (o_earlier_c, o_earlier_n, .inl o_earlier_v)), (o_lengths, .inl (o_lengths_c, o_lengths_n, .inl o_lengths_v)), (o_distances, .inl (o_distances_c, o_distances_n, .inl o_distances_v))] → va_S A s.heap H locs → lv_has ls 5 [(0, .ref o), (1, .int x1), (2, .int x2)] → pX11_findTokens_b55 o_heads_n o_text_n o_earlier_n o_lengths_n o_distances_n o_textSize o_text_v K29 o_tokens o_found o_heads_v o_earlier_v o_lengths_v o_distances_v x1 x2 t0 = some u → W p l e ({ frames := 3, cells := 0, slots := 0, locals := 70 }) s m args below meth c H locs 0 0 Q (F0 m 55 ls [.int t0]) := by
    intro K29 hK29 o_tokens o_found o_heads_v o_earlier_v o_lengths_v o_distances_v x1 x2 t0 H locs ls hP hD hS hl h
    unfold pX11_findTokens_b55 at h
    refine lv_istore_n (lv' := [(3, .int t0), (0, .ref o), (1, .int x1), (2, .int x2)]) hx hb dX11_findTokens_55 rfl hl (by decide) rfl (fun ls hl => ?_)
    refine lv_aload_n hx hb dX11_findTokens_56 rfl (lv_at hl 1 rfl) ?_
    refine va_get (D := (dC, dI)) (ci := 11) (v := .ref o_lengths) (C := RX11) (T := TX11) (N := 38) hx hb hts i_X11 hown hK hP 0 rfl rfl 14 (by decide) (hts _ k_851) (fun _ h9 => h9) rfl dX11_findTokens_57 ?_
    refine lv_aload_n hx hb dX11_findTokens_60 rfl (lv_at hl 1 rfl) ?_
    refine va_get (D := (dC, dI)) (ci := 11) (v := .int o_tokens) (C := RX11) (T := TX11) (N := 38) hx hb hts i_X11 hown hK hP 0 rfl rfl 13 (by decide) (hts _ k_850) (fun _ h9 => h9) rfl dX11_findTokens_61 ?_
    refine lv_iload_n hx hb dX11_findTokens_64 rfl (lv_at hl 3 rfl) ?_
    refine lv_if_ge (tgt := 72) hx hb dX11_findTokens_65 (by decide) (fun c7 => ?_) (fun c7 => ?_)
    · replace h := fb_t c7 h
      refine lv_iload_n hx hb dX11_findTokens_72 rfl (lv_at hl 0 rfl) ?_
      exact wB73 K29 hK29 o_tokens o_found o_heads_v o_earlier_v o_lengths_v o_distances_v x1 x2 t0 t0 o_tokens _ _ _ hP hD hS (lv_sub hl [1, 2, 3, 0] rfl) h
    · replace h := fb_f c7 h
      refine lv_iconst (v := (0 : Int32)) hx hb dX11_findTokens_68 (by decide) ?_
      refine lv_goto (tgt := 73) hx hb dX11_findTokens_69 (by decide) ?_
      exact wB73 K29 hK29 o_tokens o_found o_heads_v o_earlier_v o_lengths_v o_distances_v x1 x2 t0 (0 : Int32) o_tokens _ _ _ hP hD hS (lv_sub hl [1, 2, 3, 0] rfl) h
  have wB29 : ∀ n : Nat, ∀ (o_tokens : Int32) (o_found : Int32) (o_heads_v : Nat → Int32) (o_earlier_v : Nat → Int32) (o_lengths_v : Nat → Int32) (o_distances_v : Nat → Int32) (x1 : Int32) (H : Heap) (locs : List Loc) (ls : Array Slot), va_P (dC, dI) fb_cl [(o, .inr (11, [.int o_textRoom, .int o_byteRoom, .int o_chain, .ref o_text, .int o_textSize, .ref o_packed, .int o_packedSize, .int o_matches, .ref o_loaded, .int o_loadedSize, .ref o_out, .int o_outSize, .int o_bits, .int o_tokens, .ref o_lengths, .ref o_distances, .ref o_heads, .ref o_earlier, .ref o_often, .ref o_symbolLengths, .ref o_distanceLengths, .ref o_lengthLengths, .ref o_symbolCodes, .ref o_distanceCodes, .ref o_lengthCodes, .ref o_counts, .ref o_parents, .ref o_alone, .ref o_row, .int o_told, .ref o_toldSymbols, .ref o_toldNumbers, .int o_place, .int o_fail, .int o_found, .int o_symbolCount, .int o_distanceCount, .int o_lengthCount])), (o_heads, .inl (o_heads_c, o_heads_n, .inl o_heads_v)), (o_text, .inl (o_text_c, o_text_n, .inl o_text_v)), (o_earlier, .inl (o_earlier_c, o_earlier_n, .inl o_earlier_v)), (o_lengths, .inl (o_lengths_c, o_lengths_n, .inl o_lengths_v)), (o_distances, .inl (o_distances_c, o_distances_n, .inl o_distances_v))] H → va_D A [(o, .inr (11, [.int o_textRoom, .int o_byteRoom, .int o_chain, .ref o_text, .int o_textSize, .ref o_packed, .int o_packedSize, .int o_matches, .ref o_loaded, .int o_loadedSize, .ref o_out, .int o_outSize, .int o_bits, .int o_tokens, .ref o_lengths, .ref o_distances, .ref o_heads, .ref o_earlier, .ref o_often, .ref o_symbolLengths, .ref o_distanceLengths, .ref o_lengthLengths, .ref o_symbolCodes, .ref o_distanceCodes, .ref o_lengthCodes, .ref o_counts, .ref o_parents, .ref o_alone, .ref o_row, .int o_told, .ref o_toldSymbols, .ref o_toldNumbers, .int o_place, .int o_fail, .int o_found, .int o_symbolCount, .int o_distanceCount, .int o_lengthCount])), (o_heads, .inl (o_heads_c, o_heads_n, .inl o_heads_v)), (o_text, .inl (o_text_c, o_text_n, .inl o_text_v)), (o_earlier, .inl (o_earlier_c, o_earlier_n, .inl o_earlier_v)), (o_lengths, .inl (o_lengths_c, o_lengths_n, .inl o_lengths_v)), (o_distances, .inl (o_distances_c, o_distances_n, .inl o_distances_v))] → va_S A s.heap H locs → lv_has ls 5 [(0, .ref o), (1, .int x1)] → pX11_findTokens_b29 o_heads_n o_text_n o_earlier_n o_lengths_n o_distances_n o_chain o_textSize o_text_v n o_tokens o_found o_heads_v o_earlier_v o_lengths_v o_distances_v x1 = some u → W p l e ({ frames := 3, cells := 0, slots := 0, locals := 70 }) s m args below meth c H locs 0 0 Q (F0 m 29 ls []) := by
    intro n
    induction n with
    | zero => intro o_tokens o_found o_heads_v o_earlier_v o_lengths_v o_distances_v x1 H locs ls hP hD hS hl h; cases h
    | succ n ih =>
      intro o_tokens o_found o_heads_v o_earlier_v o_lengths_v o_distances_v x1 H locs ls hP hD hS hl h
      rw [pX11_findTokens_b29] at h
      refine lv_iload_n hx hb dX11_findTokens_29 rfl (lv_at hl 1 rfl) ?_
      refine lv_aload_n hx hb dX11_findTokens_30 rfl (lv_at hl 0 rfl) ?_
      refine va_get (D := (dC, dI)) (ci := 11) (v := .int o_textSize) (C := RX11) (T := TX11) (N := 38) hx hb hts i_X11 hown hK hP 0 rfl rfl 4 (by decide) (hts _ k_841) (fun _ h9 => h9) rfl dX11_findTokens_31 ?_
      refine lv_icmp_ge (tgt := 139) hx hb dX11_findTokens_34 (by decide) (fun c8 => ?_) (fun c8 => ?_)
      · replace h := fb_t c8 h
        have hu := Option.some.inj h
        exact hret _ _ _ _ dX11_findTokens_139 (by rw [← hu]; exact hP) (by rw [← hu]; exact hD) hS
      · replace h := fb_f c8 h
        refine lv_aload_n hx hb dX11_findTokens_37 rfl (lv_at hl 0 rfl) ?_
        refine lv_iload_n hx hb dX11_findTokens_38 rfl (lv_at hl 1 rfl) ?_
        obtain ⟨u9, e9, h⟩ := fb_b h
        refine fb_ci (wc := [(o, .inr (11, [.int o_textRoom, .int o_byteRoom, .int o_chain, .ref o_text, .int o_textSize, .ref o_packed, .int o_packedSize, .int o_matches, .ref o_loaded, .int o_loadedSize, .ref o_out, .int o_outSize, .int o_bits, .int o_tokens, .ref o_lengths, .ref o_distances, .ref o_heads, .ref o_earlier, .ref o_often, .ref o_symbolLengths, .ref o_distanceLengths, .ref o_lengthLengths, .ref o_symbolCodes, .ref o_distanceCodes, .ref o_lengthCodes, .ref o_counts, .ref o_parents, .ref o_alone, .ref o_row, .int o_told, .ref o_toldSymbols, .ref o_toldNumbers, .int o_place, .int o_fail, .int o_found, .int o_symbolCount, .int o_distanceCount, .int o_lengthCount])), (o_text, .inl (o_text_c, o_text_n, .inl o_text_v)), (o_heads, .inl (o_heads_c, o_heads_n, .inl o_heads_v)), (o_earlier, .inl (o_earlier_c, o_earlier_n, .inl o_earlier_v))]) (wr := [(o_lengths, .inl (o_lengths_c, o_lengths_n, .inl o_lengths_v)), (o_distances, .inl (o_distances_c, o_distances_n, .inl o_distances_v))]) (w1 := [(o, .inr (11, [.int o_textRoom, .int o_byteRoom, .int o_chain, .ref o_text, .int o_textSize, .ref o_packed, .int o_packedSize, .int o_matches, .ref o_loaded, .int o_loadedSize, .ref o_out, .int o_outSize, .int o_bits, .int o_tokens, .ref o_lengths, .ref o_distances, .ref o_heads, .ref o_earlier, .ref o_often, .ref o_symbolLengths, .ref o_distanceLengths, .ref o_lengthLengths, .ref o_symbolCodes, .ref o_distanceCodes, .ref o_lengthCodes, .ref o_counts, .ref o_parents, .ref o_alone, .ref o_row, .int o_told, .ref o_toldSymbols, .ref o_toldNumbers, .int o_place, .int o_fail, .int u9.2, .int o_symbolCount, .int o_distanceCount, .int o_lengthCount])), (o_text, .inl (o_text_c, o_text_n, .inl o_text_v)), (o_heads, .inl (o_heads_c, o_heads_n, .inl o_heads_v)), (o_earlier, .inl (o_earlier_c, o_earlier_n, .inl o_earlier_v))]) (ws' := [(o, .inr (11, [.int o_textRoom, .int o_byteRoom, .int o_chain, .ref o_text, .int o_textSize, .ref o_packed, .int o_packedSize, .int o_matches, .ref o_loaded, .int o_loadedSize, .ref o_out, .int o_outSize, .int o_bits, .int o_tokens, .ref o_lengths, .ref o_distances, .ref o_heads, .ref o_earlier, .ref o_often, .ref o_symbolLengths, .ref o_distanceLengths, .ref o_lengthLengths, .ref o_symbolCodes, .ref o_distanceCodes, .ref o_lengthCodes, .ref o_counts, .ref o_parents, .ref o_alone, .ref o_row, .int o_told, .ref o_toldSymbols, .ref o_toldNumbers, .int o_place, .int o_fail, .int u9.2, .int o_symbolCount, .int o_distanceCount, .int o_lengthCount])), (o_heads, .inl (o_heads_c, o_heads_n, .inl o_heads_v)), (o_text, .inl (o_text_c, o_text_n, .inl o_text_v)), (o_earlier, .inl (o_earlier_c, o_earlier_n, .inl o_earlier_v)), (o_lengths, .inl (o_lengths_c, o_lengths_n, .inl o_lengths_v)), (o_distances, .inl (o_distances_c, o_distances_n, .inl o_distances_v))]) (va_runV (As := [.int x1]) (rest := []) ⟨hx, hb, hml, hown, hts⟩ (mX11_longest l dC dI o o_text o_heads o_earlier o_packed o_loaded o_out o_lengths o_distances o_often o_symbolLengths o_distanceLengths o_lengthLengths o_symbolCodes o_distanceCodes o_lengthCodes o_counts o_parents o_alone o_row o_toldSymbols o_toldNumbers o_text_c o_heads_c o_earlier_c o_text_n o_heads_n o_earlier_n o_textRoom o_byteRoom o_chain o_textSize o_packedSize o_matches o_loadedSize o_outSize o_bits o_tokens o_told o_place o_fail o_found o_symbolCount o_distanceCount o_lengthCount o_text_v o_heads_v o_earlier_v x1 H.size u9 e9) (cwV 1 hts (fb_GV k_1005 k_1007 k_34 k_74 k_1008) rfl rfl rfl hdX11_longest ⟨Nat.le_of_ble_eq_true rfl, Nat.le_of_ble_eq_true rfl⟩) (fb_pV hP hD hS hA hK hN hZ [0, 2, 1, 3] rfl rfl [1, 0, 2] rfl (q0 := 0) (ci := 11) rfl rfl) rfl rfl hl.1 rfl (lv_room (Nat.le_of_ble_eq_true rfl)) dX11_findTokens_39 ⟨Nat.le_of_ble_eq_true rfl, Nat.le_of_ble_eq_true rfl⟩) hP hD hS hA [0, 2, 1, 3] [4, 5] rfl rfl rfl (by decide) [2, 4, 3, 5, 0, 1] rfl rfl (fun H locs hP hD hS => ?_)
        refine lv_istore_n (lv' := [(2, .int u9.1), (0, .ref o), (1, .int x1)]) hx hb dX11_findTokens_42 rfl hl (by decide) rfl (fun ls hl => ?_)
        refine lv_iload_n hx hb dX11_findTokens_43 rfl (lv_at hl 0 rfl) ?_
        refine lv_if_ge (tgt := 51) hx hb dX11_findTokens_44 (by decide) (fun c10 => ?_) (fun c10 => ?_)
        · replace h := fb_t c10 h
          refine lv_aload_n hx hb dX11_findTokens_51 rfl (lv_at hl 1 rfl) ?_
          refine va_get (D := (dC, dI)) (ci := 11) (v := .int u9.2) (C := RX11) (T := TX11) (N := 38) hx hb hts i_X11 hown hK hP 0 rfl rfl 34 (by decide) (hts _ k_871) (fun _ h9 => h9) rfl dX11_findTokens_52 ?_
          exact wB55 (pX11_findTokens_b29 o_heads_n o_text_n o_earlier_n o_lengths_n o_distances_n o_chain o_textSize o_text_v n) ih o_tokens u9.2 o_heads_v o_earlier_v o_lengths_v o_distances_v x1 u9.1 u9.2 _ _ _ hP hD hS (lv_sub hl [1, 2, 0] rfl) h
        · replace h := fb_f c10 h
          refine lv_iconst (v := (1 : Int32)) hx hb dX11_findTokens_47 (by decide) ?_
          refine lv_goto (tgt := 55) hx hb dX11_findTokens_48 (by decide) ?_
          exact wB55 (pX11_findTokens_b29 o_heads_n o_text_n o_earlier_n o_lengths_n o_distances_n o_chain o_textSize o_text_v n) ih o_tokens u9.2 o_heads_v o_earlier_v o_lengths_v o_distances_v x1 u9.1 (1 : Int32) _ _ _ hP hD hS (lv_sub hl [1, 2, 0] rfl) h
  have wB2 : ∀ n : Nat, ∀ (o_tokens : Int32) (o_found : Int32) (o_heads_v : Nat → Int32) (o_earlier_v : Nat → Int32) (o_lengths_v : Nat → Int32) (o_distances_v : Nat → Int32) (x1 : Int32) (H : Heap) (locs : List Loc) (ls : Array Slot), va_P (dC, dI) fb_cl [(o, .inr (11, [.int o_textRoom, .int o_byteRoom, .int o_chain, .ref o_text, .int o_textSize, .ref o_packed, .int o_packedSize, .int o_matches, .ref o_loaded, .int o_loadedSize, .ref o_out, .int o_outSize, .int o_bits, .int o_tokens, .ref o_lengths, .ref o_distances, .ref o_heads, .ref o_earlier, .ref o_often, .ref o_symbolLengths, .ref o_distanceLengths, .ref o_lengthLengths, .ref o_symbolCodes, .ref o_distanceCodes, .ref o_lengthCodes, .ref o_counts, .ref o_parents, .ref o_alone, .ref o_row, .int o_told, .ref o_toldSymbols, .ref o_toldNumbers, .int o_place, .int o_fail, .int o_found, .int o_symbolCount, .int o_distanceCount, .int o_lengthCount])), (o_heads, .inl (o_heads_c, o_heads_n, .inl o_heads_v)), (o_text, .inl (o_text_c, o_text_n, .inl o_text_v)), (o_earlier, .inl (o_earlier_c, o_earlier_n, .inl o_earlier_v)), (o_lengths, .inl (o_lengths_c, o_lengths_n, .inl o_lengths_v)), (o_distances, .inl (o_distances_c, o_distances_n, .inl o_distances_v))] H → va_D A [(o, .inr (11, [.int o_textRoom, .int o_byteRoom, .int o_chain, .ref o_text, .int o_textSize, .ref o_packed, .int o_packedSize, .int o_matches, .ref o_loaded, .int o_loadedSize, .ref o_out, .int o_outSize, .int o_bits, .int o_tokens, .ref o_lengths, .ref o_distances, .ref o_heads, .ref o_earlier, .ref o_often, .ref o_symbolLengths, .ref o_distanceLengths, .ref o_lengthLengths, .ref o_symbolCodes, .ref o_distanceCodes, .ref o_lengthCodes, .ref o_counts, .ref o_parents, .ref o_alone, .ref o_row, .int o_told, .ref o_toldSymbols, .ref o_toldNumbers, .int o_place, .int o_fail, .int o_found, .int o_symbolCount, .int o_distanceCount, .int o_lengthCount])), (o_heads, .inl (o_heads_c, o_heads_n, .inl o_heads_v)), (o_text, .inl (o_text_c, o_text_n, .inl o_text_v)), (o_earlier, .inl (o_earlier_c, o_earlier_n, .inl o_earlier_v)), (o_lengths, .inl (o_lengths_c, o_lengths_n, .inl o_lengths_v)), (o_distances, .inl (o_distances_c, o_distances_n, .inl o_distances_v))] → va_S A s.heap H locs → lv_has ls 5 [(0, .ref o), (1, .int x1)] → pX11_findTokens_b2 o_heads_n o_text_n o_earlier_n o_lengths_n o_distances_n o_chain o_textSize o_text_v n o_found o_heads_v o_earlier_v o_lengths_v o_distances_v x1 = some u → W p l e ({ frames := 3, cells := 0, slots := 0, locals := 70 }) s m args below meth c H locs 0 0 Q (F0 m 2 ls []) := by
    intro n
    induction n with
    | zero => intro o_tokens o_found o_heads_v o_earlier_v o_lengths_v o_distances_v x1 H locs ls hP hD hS hl h; cases h
    | succ n ih =>
      intro o_tokens o_found o_heads_v o_earlier_v o_lengths_v o_distances_v x1 H locs ls hP hD hS hl h
      rw [pX11_findTokens_b2] at h
      refine lv_iload_n hx hb dX11_findTokens_2 rfl (lv_at hl 1 rfl) ?_
      refine lv_sipush (v := (4096 : Int32)) hx hb dX11_findTokens_3 (by decide) ?_
      refine lv_icmp_ge (tgt := 22) hx hb dX11_findTokens_6 (by decide) (fun c11 => ?_) (fun c11 => ?_)
      · replace h := fb_t c11 h
        refine lv_aload_n hx hb dX11_findTokens_22 rfl (lv_at hl 0 rfl) ?_
        refine lv_iconst (v := (0 : Int32)) hx hb dX11_findTokens_23 (by decide) ?_
        refine va_put (D := (dC, dI)) (ci := 11) (v := .int (0 : Int32)) (ty := .int) (C := RX11) (T := TX11) (N := 38) hx hb hts i_X11 tyX11 tyX11_ok nmX11 hown hK hP hD hS 0 rfl rfl 13 (by decide) (hts _ k_850) (fun _ h9 => h9) rfl (by decide +kernel) rfl rfl (Nat.le_of_ble_eq_true rfl) dX11_findTokens_24 (fun H locs hP hD hS => ?_)
        replace hP : va_P (dC, dI) fb_cl [(o, .inr (11, [.int o_textRoom, .int o_byteRoom, .int o_chain, .ref o_text, .int o_textSize, .ref o_packed, .int o_packedSize, .int o_matches, .ref o_loaded, .int o_loadedSize, .ref o_out, .int o_outSize, .int o_bits, .int (0 : Int32), .ref o_lengths, .ref o_distances, .ref o_heads, .ref o_earlier, .ref o_often, .ref o_symbolLengths, .ref o_distanceLengths, .ref o_lengthLengths, .ref o_symbolCodes, .ref o_distanceCodes, .ref o_lengthCodes, .ref o_counts, .ref o_parents, .ref o_alone, .ref o_row, .int o_told, .ref o_toldSymbols, .ref o_toldNumbers, .int o_place, .int o_fail, .int o_found, .int o_symbolCount, .int o_distanceCount, .int o_lengthCount])), (o_heads, .inl (o_heads_c, o_heads_n, .inl o_heads_v)), (o_text, .inl (o_text_c, o_text_n, .inl o_text_v)), (o_earlier, .inl (o_earlier_c, o_earlier_n, .inl o_earlier_v)), (o_lengths, .inl (o_lengths_c, o_lengths_n, .inl o_lengths_v)), (o_distances, .inl (o_distances_c, o_distances_n, .inl o_distances_v))] H := hP
        replace hD : va_D A [(o, .inr (11, [.int o_textRoom, .int o_byteRoom, .int o_chain, .ref o_text, .int o_textSize, .ref o_packed, .int o_packedSize, .int o_matches, .ref o_loaded, .int o_loadedSize, .ref o_out, .int o_outSize, .int o_bits, .int (0 : Int32), .ref o_lengths, .ref o_distances, .ref o_heads, .ref o_earlier, .ref o_often, .ref o_symbolLengths, .ref o_distanceLengths, .ref o_lengthLengths, .ref o_symbolCodes, .ref o_distanceCodes, .ref o_lengthCodes, .ref o_counts, .ref o_parents, .ref o_alone, .ref o_row, .int o_told, .ref o_toldSymbols, .ref o_toldNumbers, .int o_place, .int o_fail, .int o_found, .int o_symbolCount, .int o_distanceCount, .int o_lengthCount])), (o_heads, .inl (o_heads_c, o_heads_n, .inl o_heads_v)), (o_text, .inl (o_text_c, o_text_n, .inl o_text_v)), (o_earlier, .inl (o_earlier_c, o_earlier_n, .inl o_earlier_v)), (o_lengths, .inl (o_lengths_c, o_lengths_n, .inl o_lengths_v)), (o_distances, .inl (o_distances_c, o_distances_n, .inl o_distances_v))] := hD
        refine lv_iconst (v := (0 : Int32)) hx hb dX11_findTokens_27 (by decide) ?_
        refine lv_istore_n (lv' := [(1, .int (0 : Int32)), (0, .ref o)]) hx hb dX11_findTokens_28 rfl hl (by decide) rfl (fun ls hl => ?_)
        exact wB29 fb_F (0 : Int32) o_found o_heads_v o_earlier_v o_lengths_v o_distances_v (0 : Int32) _ _ _ hP hD hS (lv_sub hl [1, 0] rfl) h
      · replace h := fb_f c11 h
        refine lv_aload_n hx hb dX11_findTokens_9 rfl (lv_at hl 0 rfl) ?_
        refine va_get (D := (dC, dI)) (ci := 11) (v := .ref o_heads) (C := RX11) (T := TX11) (N := 38) hx hb hts i_X11 hown hK hP 0 rfl rfl 16 (by decide) (hts _ k_853) (fun _ h9 => h9) rfl dX11_findTokens_10 ?_
        refine lv_iload_n hx hb dX11_findTokens_13 rfl (lv_at hl 1 rfl) ?_
        refine lv_iconst (v := (-1 : Int32)) hx hb dX11_findTokens_14 (by decide) ?_
        obtain ⟨g12, h⟩ := fb_g h
        refine va_iast hx hb hK hP hD hS 1 0 rfl rfl g12 dX11_findTokens_15 (fun H locs hP hD hS => ?_)
        replace hP : va_P (dC, dI) fb_cl [(o, .inr (11, [.int o_textRoom, .int o_byteRoom, .int o_chain, .ref o_text, .int o_textSize, .ref o_packed, .int o_packedSize, .int o_matches, .ref o_loaded, .int o_loadedSize, .ref o_out, .int o_outSize, .int o_bits, .int o_tokens, .ref o_lengths, .ref o_distances, .ref o_heads, .ref o_earlier, .ref o_often, .ref o_symbolLengths, .ref o_distanceLengths, .ref o_lengthLengths, .ref o_symbolCodes, .ref o_distanceCodes, .ref o_lengthCodes, .ref o_counts, .ref o_parents, .ref o_alone, .ref o_row, .int o_told, .ref o_toldSymbols, .ref o_toldNumbers, .int o_place, .int o_fail, .int o_found, .int o_symbolCount, .int o_distanceCount, .int o_lengthCount])), (o_heads, .inl (o_heads_c, o_heads_n, .inl (upd o_heads_v (x1).toNatClampNeg (-1 : Int32)))), (o_text, .inl (o_text_c, o_text_n, .inl o_text_v)), (o_earlier, .inl (o_earlier_c, o_earlier_n, .inl o_earlier_v)), (o_lengths, .inl (o_lengths_c, o_lengths_n, .inl o_lengths_v)), (o_distances, .inl (o_distances_c, o_distances_n, .inl o_distances_v))] H := hP
        replace hD : va_D A [(o, .inr (11, [.int o_textRoom, .int o_byteRoom, .int o_chain, .ref o_text, .int o_textSize, .ref o_packed, .int o_packedSize, .int o_matches, .ref o_loaded, .int o_loadedSize, .ref o_out, .int o_outSize, .int o_bits, .int o_tokens, .ref o_lengths, .ref o_distances, .ref o_heads, .ref o_earlier, .ref o_often, .ref o_symbolLengths, .ref o_distanceLengths, .ref o_lengthLengths, .ref o_symbolCodes, .ref o_distanceCodes, .ref o_lengthCodes, .ref o_counts, .ref o_parents, .ref o_alone, .ref o_row, .int o_told, .ref o_toldSymbols, .ref o_toldNumbers, .int o_place, .int o_fail, .int o_found, .int o_symbolCount, .int o_distanceCount, .int o_lengthCount])), (o_heads, .inl (o_heads_c, o_heads_n, .inl (upd o_heads_v (x1).toNatClampNeg (-1 : Int32)))), (o_text, .inl (o_text_c, o_text_n, .inl o_text_v)), (o_earlier, .inl (o_earlier_c, o_earlier_n, .inl o_earlier_v)), (o_lengths, .inl (o_lengths_c, o_lengths_n, .inl o_lengths_v)), (o_distances, .inl (o_distances_c, o_distances_n, .inl o_distances_v))] := hD
        refine lv_iinc (v := (x1 + (1 : Int32))) (lv' := [(1, .int (x1 + (1 : Int32))), (0, .ref o)]) hx hb dX11_findTokens_16 hl (k := 1) rfl rfl (by decide) rfl (fun ls hl => ?_)
        refine lv_goto (tgt := 2) hx hb dX11_findTokens_19 (by decide) ?_
        exact ih o_tokens o_found (upd o_heads_v (x1).toNatClampNeg (-1 : Int32)) o_earlier_v o_lengths_v o_distances_v (x1 + (1 : Int32)) _ _ _ hP hD hS (lv_sub hl [1, 0] rfl) h
  unfold pX11_findTokens at h
  refine lv_iconst (v := (0 : Int32)) hx hb dX11_findTokens_0 (by decide) ?_
  refine lv_istore_n (lv' := [(1, .int (0 : Int32)), (0, .ref o)]) hx hb dX11_findTokens_1 rfl hl (by decide) rfl (fun ls hl => ?_)
  exact wB2 fb_F o_tokens o_found o_heads_v o_earlier_v o_lengths_v o_distances_v (0 : Int32) _ _ _ hP hD hS (lv_sub hl [1, 0] rfl) h
theorem dX11_lengthBits_0 : decode cX11_lengthBits 0 = .ok (.iload_n 0, 1) := by decide +kernel
theorem dX11_lengthBits_1 : decode cX11_lengthBits 1 = .ok (.bipush 8, 2) := by decide +kernel
theorem dX11_lengthBits_3 : decode cX11_lengthBits 3 = .ok (.if_icmp .lt 9, 3) := by decide +kernel
theorem dX11_lengthBits_6 : decode cX11_lengthBits 6 = .ok (.iload_n 0, 1) := by decide +kernel
theorem dX11_lengthBits_7 : decode cX11_lengthBits 7 = .ok (.bipush 28, 2) := by decide +kernel
theorem dX11_lengthBits_9 : decode cX11_lengthBits 9 = .ok (.if_icmp .ne 7, 3) := by decide +kernel
theorem dX11_lengthBits_12 : decode cX11_lengthBits 12 = .ok (.iconst 0, 1) := by decide +kernel
theorem dX11_lengthBits_13 : decode cX11_lengthBits 13 = .ok (.goto 8, 3) := by decide +kernel
theorem dX11_lengthBits_16 : decode cX11_lengthBits 16 = .ok (.iload_n 0, 1) := by decide +kernel
theorem dX11_lengthBits_17 : decode cX11_lengthBits 17 = .ok (.iconst 4, 1) := by decide +kernel
theorem dX11_lengthBits_18 : decode cX11_lengthBits 18 = .ok (.idiv, 1) := by decide +kernel
theorem dX11_lengthBits_19 : decode cX11_lengthBits 19 = .ok (.iconst 1, 1) := by decide +kernel
theorem dX11_lengthBits_20 : decode cX11_lengthBits 20 = .ok (.isub, 1) := by decide +kernel
theorem dX11_lengthBits_21 : decode cX11_lengthBits 21 = .ok (.ireturn, 1) := by decide +kernel
def pX11_lengthBits (x0 : Int32)   : Option (Int32) :=
  if x0 < (8 : Int32) then
  (some ((0 : Int32)))
  else
  (if x0 = (28 : Int32) then
  (some ((0 : Int32)))
  else
  (some (((x0 / (4 : Int32)) - (1 : Int32)))))
theorem hdX11_lengthBits : yX11_lengthBits.cls ≠ "java/lang/invoke/MethodHandle" ∧ yX11_lengthBits.cls ≠ "java/lang/invoke/VarHandle" ∧ (parseMethodDescriptor yX11_lengthBits.desc).map (fun d => d.parameters.length) = some 1 := by decide +kernel
set_option maxHeartbeats 8000000 in
set_option maxRecDepth 100000 in
theorem mX11_lengthBits (l : Launch) (dC : Nat → ClassId) (dI : Nat → Nat → Nat)     (x0 : Int32) (sz : Nat) (u : Int32) (h : pX11_lengthBits x0 = some u) : Met l yX11_lengthBits (Cond.code yX11_lengthBits cX11_lengthBits 1 (some .int) :: fb_tb) ({ frames := 0, cells := 0, slots := 0, locals := 0 }) (fb_Pc (dC, dI) [.int x0] sz [] []) (fb_Qi (dC, dI) u [] (va_A [] sz)) 0 0 (va_A [] sz) := by
  refine fb_meti (ty := .int) (by decide) (Nat.le_of_ble_eq_true rfl) (fun p e s m args below meth c A Q ls H hx hb hml hown hts hP hK hN hZ hD hA hS hret hl => ?_)
  replace hl : lv_has ls 1 [(0, .int x0)] := hl
  unfold pX11_lengthBits at h
  refine lv_iload_n hx hb dX11_lengthBits_0 rfl (lv_at hl 0 rfl) ?_
  refine lv_bipush (v := (8 : Int32)) hx hb dX11_lengthBits_1 (by decide) ?_
  refine lv_icmp_lt (tgt := 12) hx hb dX11_lengthBits_3 (by decide) (fun c1 => ?_) (fun c1 => ?_)
  · replace h := fb_t c1 h
    refine lv_iconst (v := (0 : Int32)) hx hb dX11_lengthBits_12 (by decide) ?_
    refine lv_goto (tgt := 21) hx hb dX11_lengthBits_13 (by decide) ?_
    have hu := Option.some.inj h
    exact hret _ _ _ _ _ dX11_lengthBits_21 rfl (by rw [← hu]) hP hD hS
  · replace h := fb_f c1 h
    refine lv_iload_n hx hb dX11_lengthBits_6 rfl (lv_at hl 0 rfl) ?_
    refine lv_bipush (v := (28 : Int32)) hx hb dX11_lengthBits_7 (by decide) ?_
    refine lv_icmp_ne (tgt := 16) hx hb dX11_lengthBits_9 (by decide) (fun c2 => ?_) (fun c2 => ?_)
    · replace h := fb_f c2 h
      refine lv_iload_n hx hb dX11_lengthBits_16 rfl (lv_at hl 0 rfl) ?_
      refine lv_iconst (v := (4 : Int32)) hx hb dX11_lengthBits_17 (by decide) ?_
      refine lv_idiv hx hb dX11_lengthBits_18 (by decide) ?_
      refine lv_iconst (v := (1 : Int32)) hx hb dX11_lengthBits_19 (by decide) ?_
      refine lv_isub hx hb dX11_lengthBits_20 ?_
      have hu := Option.some.inj h
      exact hret _ _ _ _ _ dX11_lengthBits_21 rfl (by rw [← hu]) hP hD hS
    · replace h := fb_t c2 h
      refine lv_iconst (v := (0 : Int32)) hx hb dX11_lengthBits_12 (by decide) ?_
      refine lv_goto (tgt := 21) hx hb dX11_lengthBits_13 (by decide) ?_
      have hu := Option.some.inj h
      exact hret _ _ _ _ _ dX11_lengthBits_21 rfl (by rw [← hu]) hP hD hS
theorem dX11_lengthFrom_0 : decode cX11_lengthFrom 0 = .ok (.iload_n 0, 1) := by decide +kernel
theorem dX11_lengthFrom_1 : decode cX11_lengthFrom 1 = .ok (.bipush 8, 2) := by decide +kernel
theorem dX11_lengthFrom_3 : decode cX11_lengthFrom 3 = .ok (.if_icmp .ge 9, 3) := by decide +kernel
theorem dX11_lengthFrom_6 : decode cX11_lengthFrom 6 = .ok (.iconst 3, 1) := by decide +kernel
theorem dX11_lengthFrom_7 : decode cX11_lengthFrom 7 = .ok (.iload_n 0, 1) := by decide +kernel
theorem dX11_lengthFrom_8 : decode cX11_lengthFrom 8 = .ok (.iadd, 1) := by decide +kernel
theorem dX11_lengthFrom_9 : decode cX11_lengthFrom 9 = .ok (.goto 30, 3) := by decide +kernel
theorem dX11_lengthFrom_12 : decode cX11_lengthFrom 12 = .ok (.iload_n 0, 1) := by decide +kernel
theorem dX11_lengthFrom_13 : decode cX11_lengthFrom 13 = .ok (.bipush 28, 2) := by decide +kernel
theorem dX11_lengthFrom_15 : decode cX11_lengthFrom 15 = .ok (.if_icmp .ne 9, 3) := by decide +kernel
theorem dX11_lengthFrom_18 : decode cX11_lengthFrom 18 = .ok (.sipush 258, 3) := by decide +kernel
theorem dX11_lengthFrom_21 : decode cX11_lengthFrom 21 = .ok (.goto 18, 3) := by decide +kernel
theorem dX11_lengthFrom_24 : decode cX11_lengthFrom 24 = .ok (.iconst 3, 1) := by decide +kernel
theorem dX11_lengthFrom_25 : decode cX11_lengthFrom 25 = .ok (.iconst 4, 1) := by decide +kernel
theorem dX11_lengthFrom_26 : decode cX11_lengthFrom 26 = .ok (.iload_n 0, 1) := by decide +kernel
theorem dX11_lengthFrom_27 : decode cX11_lengthFrom 27 = .ok (.iconst 4, 1) := by decide +kernel
theorem dX11_lengthFrom_28 : decode cX11_lengthFrom 28 = .ok (.irem, 1) := by decide +kernel
theorem dX11_lengthFrom_29 : decode cX11_lengthFrom 29 = .ok (.iadd, 1) := by decide +kernel
theorem dX11_lengthFrom_30 : decode cX11_lengthFrom 30 = .ok (.iconst 1, 1) := by decide +kernel
theorem dX11_lengthFrom_31 : decode cX11_lengthFrom 31 = .ok (.iload_n 0, 1) := by decide +kernel
theorem dX11_lengthFrom_32 : decode cX11_lengthFrom 32 = .ok (.iconst 4, 1) := by decide +kernel
theorem dX11_lengthFrom_33 : decode cX11_lengthFrom 33 = .ok (.idiv, 1) := by decide +kernel
theorem dX11_lengthFrom_34 : decode cX11_lengthFrom 34 = .ok (.iconst 1, 1) := by decide +kernel
theorem dX11_lengthFrom_35 : decode cX11_lengthFrom 35 = .ok (.isub, 1) := by decide +kernel
theorem dX11_lengthFrom_36 : decode cX11_lengthFrom 36 = .ok (.ishl, 1) := by decide +kernel
theorem dX11_lengthFrom_37 : decode cX11_lengthFrom 37 = .ok (.imul, 1) := by decide +kernel
theorem dX11_lengthFrom_38 : decode cX11_lengthFrom 38 = .ok (.iadd, 1) := by decide +kernel
theorem dX11_lengthFrom_39 : decode cX11_lengthFrom 39 = .ok (.ireturn, 1) := by decide +kernel
def pX11_lengthFrom (x0 : Int32)   : Option (Int32) :=
  if (8 : Int32) ≤ x0 then
  (if x0 = (28 : Int32) then
  (some ((258 : Int32)))
  else
  (some (((3 : Int32) + (((4 : Int32) + (x0 - x0 / (4 : Int32) * (4 : Int32))) * ((1 : Int32) <<< (((x0 / (4 : Int32)) - (1 : Int32)) &&& 31)))))))
  else
  (some (((3 : Int32) + x0)))
theorem hdX11_lengthFrom : yX11_lengthFrom.cls ≠ "java/lang/invoke/MethodHandle" ∧ yX11_lengthFrom.cls ≠ "java/lang/invoke/VarHandle" ∧ (parseMethodDescriptor yX11_lengthFrom.desc).map (fun d => d.parameters.length) = some 1 := by decide +kernel
set_option maxHeartbeats 8000000 in
set_option maxRecDepth 100000 in
theorem mX11_lengthFrom (l : Launch) (dC : Nat → ClassId) (dI : Nat → Nat → Nat)     (x0 : Int32) (sz : Nat) (u : Int32) (h : pX11_lengthFrom x0 = some u) : Met l yX11_lengthFrom (Cond.code yX11_lengthFrom cX11_lengthFrom 1 (some .int) :: fb_tb) ({ frames := 0, cells := 0, slots := 0, locals := 0 }) (fb_Pc (dC, dI) [.int x0] sz [] []) (fb_Qi (dC, dI) u [] (va_A [] sz)) 0 0 (va_A [] sz) := by
  refine fb_meti (ty := .int) (by decide) (Nat.le_of_ble_eq_true rfl) (fun p e s m args below meth c A Q ls H hx hb hml hown hts hP hK hN hZ hD hA hS hret hl => ?_)
  replace hl : lv_has ls 1 [(0, .int x0)] := hl
  unfold pX11_lengthFrom at h
  refine lv_iload_n hx hb dX11_lengthFrom_0 rfl (lv_at hl 0 rfl) ?_
  refine lv_bipush (v := (8 : Int32)) hx hb dX11_lengthFrom_1 (by decide) ?_
  refine lv_icmp_ge (tgt := 12) hx hb dX11_lengthFrom_3 (by decide) (fun c1 => ?_) (fun c1 => ?_)
  · replace h := fb_t c1 h
    refine lv_iload_n hx hb dX11_lengthFrom_12 rfl (lv_at hl 0 rfl) ?_
    refine lv_bipush (v := (28 : Int32)) hx hb dX11_lengthFrom_13 (by decide) ?_
    refine lv_icmp_ne (tgt := 24) hx hb dX11_lengthFrom_15 (by decide) (fun c2 => ?_) (fun c2 => ?_)
    · replace h := fb_f c2 h
      refine lv_iconst (v := (3 : Int32)) hx hb dX11_lengthFrom_24 (by decide) ?_
      refine lv_iconst (v := (4 : Int32)) hx hb dX11_lengthFrom_25 (by decide) ?_
      refine lv_iload_n hx hb dX11_lengthFrom_26 rfl (lv_at hl 0 rfl) ?_
      refine lv_iconst (v := (4 : Int32)) hx hb dX11_lengthFrom_27 (by decide) ?_
      refine lv_irem hx hb dX11_lengthFrom_28 (by decide) ?_
      refine lv_iadd hx hb dX11_lengthFrom_29 ?_
      refine lv_iconst (v := (1 : Int32)) hx hb dX11_lengthFrom_30 (by decide) ?_
      refine lv_iload_n hx hb dX11_lengthFrom_31 rfl (lv_at hl 0 rfl) ?_
      refine lv_iconst (v := (4 : Int32)) hx hb dX11_lengthFrom_32 (by decide) ?_
      refine lv_idiv hx hb dX11_lengthFrom_33 (by decide) ?_
      refine lv_iconst (v := (1 : Int32)) hx hb dX11_lengthFrom_34 (by decide) ?_
      refine lv_isub hx hb dX11_lengthFrom_35 ?_
      refine lv_ishl hx hb dX11_lengthFrom_36 ?_
      refine lv_imul hx hb dX11_lengthFrom_37 ?_
      refine lv_iadd hx hb dX11_lengthFrom_38 ?_
      have hu := Option.some.inj h
      exact hret _ _ _ _ _ dX11_lengthFrom_39 rfl (by rw [← hu]) hP hD hS
    · replace h := fb_t c2 h
      refine lv_sipush (v := (258 : Int32)) hx hb dX11_lengthFrom_18 (by decide) ?_
      refine lv_goto (tgt := 39) hx hb dX11_lengthFrom_21 (by decide) ?_
      have hu := Option.some.inj h
      exact hret _ _ _ _ _ dX11_lengthFrom_39 rfl (by rw [← hu]) hP hD hS
  · replace h := fb_f c1 h
    refine lv_iconst (v := (3 : Int32)) hx hb dX11_lengthFrom_6 (by decide) ?_
    refine lv_iload_n hx hb dX11_lengthFrom_7 rfl (lv_at hl 0 rfl) ?_
    refine lv_iadd hx hb dX11_lengthFrom_8 ?_
    refine lv_goto (tgt := 39) hx hb dX11_lengthFrom_9 (by decide) ?_
    have hu := Option.some.inj h
    exact hret _ _ _ _ _ dX11_lengthFrom_39 rfl (by rw [← hu]) hP hD hS
theorem dX11_distanceBits_0 : decode cX11_distanceBits 0 = .ok (.iload_n 0, 1) := by decide +kernel
theorem dX11_distanceBits_1 : decode cX11_distanceBits 1 = .ok (.iconst 4, 1) := by decide +kernel
theorem dX11_distanceBits_2 : decode cX11_distanceBits 2 = .ok (.if_icmp .ge 7, 3) := by decide +kernel
theorem dX11_distanceBits_5 : decode cX11_distanceBits 5 = .ok (.iconst 0, 1) := by decide +kernel
theorem dX11_distanceBits_6 : decode cX11_distanceBits 6 = .ok (.goto 8, 3) := by decide +kernel
theorem dX11_distanceBits_9 : decode cX11_distanceBits 9 = .ok (.iload_n 0, 1) := by decide +kernel
theorem dX11_distanceBits_10 : decode cX11_distanceBits 10 = .ok (.iconst 2, 1) := by decide +kernel
theorem dX11_distanceBits_11 : decode cX11_distanceBits 11 = .ok (.idiv, 1) := by decide +kernel
theorem dX11_distanceBits_12 : decode cX11_distanceBits 12 = .ok (.iconst 1, 1) := by decide +kernel
theorem dX11_distanceBits_13 : decode cX11_distanceBits 13 = .ok (.isub, 1) := by decide +kernel
theorem dX11_distanceBits_14 : decode cX11_distanceBits 14 = .ok (.ireturn, 1) := by decide +kernel
def pX11_distanceBits (x0 : Int32)   : Option (Int32) :=
  if (4 : Int32) ≤ x0 then
  (some (((x0 / (2 : Int32)) - (1 : Int32))))
  else
  (some ((0 : Int32)))
theorem hdX11_distanceBits : yX11_distanceBits.cls ≠ "java/lang/invoke/MethodHandle" ∧ yX11_distanceBits.cls ≠ "java/lang/invoke/VarHandle" ∧ (parseMethodDescriptor yX11_distanceBits.desc).map (fun d => d.parameters.length) = some 1 := by decide +kernel
set_option maxHeartbeats 8000000 in
set_option maxRecDepth 100000 in
theorem mX11_distanceBits (l : Launch) (dC : Nat → ClassId) (dI : Nat → Nat → Nat)     (x0 : Int32) (sz : Nat) (u : Int32) (h : pX11_distanceBits x0 = some u) : Met l yX11_distanceBits (Cond.code yX11_distanceBits cX11_distanceBits 1 (some .int) :: fb_tb) ({ frames := 0, cells := 0, slots := 0, locals := 0 }) (fb_Pc (dC, dI) [.int x0] sz [] []) (fb_Qi (dC, dI) u [] (va_A [] sz)) 0 0 (va_A [] sz) := by
  refine fb_meti (ty := .int) (by decide) (Nat.le_of_ble_eq_true rfl) (fun p e s m args below meth c A Q ls H hx hb hml hown hts hP hK hN hZ hD hA hS hret hl => ?_)
  replace hl : lv_has ls 1 [(0, .int x0)] := hl
  unfold pX11_distanceBits at h
  refine lv_iload_n hx hb dX11_distanceBits_0 rfl (lv_at hl 0 rfl) ?_
  refine lv_iconst (v := (4 : Int32)) hx hb dX11_distanceBits_1 (by decide) ?_
  refine lv_icmp_ge (tgt := 9) hx hb dX11_distanceBits_2 (by decide) (fun c1 => ?_) (fun c1 => ?_)
  · replace h := fb_t c1 h
    refine lv_iload_n hx hb dX11_distanceBits_9 rfl (lv_at hl 0 rfl) ?_
    refine lv_iconst (v := (2 : Int32)) hx hb dX11_distanceBits_10 (by decide) ?_
    refine lv_idiv hx hb dX11_distanceBits_11 (by decide) ?_
    refine lv_iconst (v := (1 : Int32)) hx hb dX11_distanceBits_12 (by decide) ?_
    refine lv_isub hx hb dX11_distanceBits_13 ?_
    have hu := Option.some.inj h
    exact hret _ _ _ _ _ dX11_distanceBits_14 rfl (by rw [← hu]) hP hD hS
  · replace h := fb_f c1 h
    refine lv_iconst (v := (0 : Int32)) hx hb dX11_distanceBits_5 (by decide) ?_
    refine lv_goto (tgt := 14) hx hb dX11_distanceBits_6 (by decide) ?_
    have hu := Option.some.inj h
    exact hret _ _ _ _ _ dX11_distanceBits_14 rfl (by rw [← hu]) hP hD hS
theorem dX11_distanceFrom_0 : decode cX11_distanceFrom 0 = .ok (.iload_n 0, 1) := by decide +kernel
theorem dX11_distanceFrom_1 : decode cX11_distanceFrom 1 = .ok (.iconst 4, 1) := by decide +kernel
theorem dX11_distanceFrom_2 : decode cX11_distanceFrom 2 = .ok (.if_icmp .ge 9, 3) := by decide +kernel
theorem dX11_distanceFrom_5 : decode cX11_distanceFrom 5 = .ok (.iconst 1, 1) := by decide +kernel
theorem dX11_distanceFrom_6 : decode cX11_distanceFrom 6 = .ok (.iload_n 0, 1) := by decide +kernel
theorem dX11_distanceFrom_7 : decode cX11_distanceFrom 7 = .ok (.iadd, 1) := by decide +kernel
theorem dX11_distanceFrom_8 : decode cX11_distanceFrom 8 = .ok (.goto 18, 3) := by decide +kernel
theorem dX11_distanceFrom_11 : decode cX11_distanceFrom 11 = .ok (.iconst 1, 1) := by decide +kernel
theorem dX11_distanceFrom_12 : decode cX11_distanceFrom 12 = .ok (.iconst 2, 1) := by decide +kernel
theorem dX11_distanceFrom_13 : decode cX11_distanceFrom 13 = .ok (.iload_n 0, 1) := by decide +kernel
theorem dX11_distanceFrom_14 : decode cX11_distanceFrom 14 = .ok (.iconst 2, 1) := by decide +kernel
theorem dX11_distanceFrom_15 : decode cX11_distanceFrom 15 = .ok (.irem, 1) := by decide +kernel
theorem dX11_distanceFrom_16 : decode cX11_distanceFrom 16 = .ok (.iadd, 1) := by decide +kernel
theorem dX11_distanceFrom_17 : decode cX11_distanceFrom 17 = .ok (.iconst 1, 1) := by decide +kernel
theorem dX11_distanceFrom_18 : decode cX11_distanceFrom 18 = .ok (.iload_n 0, 1) := by decide +kernel
theorem dX11_distanceFrom_19 : decode cX11_distanceFrom 19 = .ok (.iconst 2, 1) := by decide +kernel
theorem dX11_distanceFrom_20 : decode cX11_distanceFrom 20 = .ok (.idiv, 1) := by decide +kernel
theorem dX11_distanceFrom_21 : decode cX11_distanceFrom 21 = .ok (.iconst 1, 1) := by decide +kernel
theorem dX11_distanceFrom_22 : decode cX11_distanceFrom 22 = .ok (.isub, 1) := by decide +kernel
theorem dX11_distanceFrom_23 : decode cX11_distanceFrom 23 = .ok (.ishl, 1) := by decide +kernel
theorem dX11_distanceFrom_24 : decode cX11_distanceFrom 24 = .ok (.imul, 1) := by decide +kernel
theorem dX11_distanceFrom_25 : decode cX11_distanceFrom 25 = .ok (.iadd, 1) := by decide +kernel
theorem dX11_distanceFrom_26 : decode cX11_distanceFrom 26 = .ok (.ireturn, 1) := by decide +kernel
def pX11_distanceFrom (x0 : Int32)   : Option (Int32) :=
  if (4 : Int32) ≤ x0 then
  (some (((1 : Int32) + (((2 : Int32) + (x0 - x0 / (2 : Int32) * (2 : Int32))) * ((1 : Int32) <<< (((x0 / (2 : Int32)) - (1 : Int32)) &&& 31))))))
  else
  (some (((1 : Int32) + x0)))
theorem hdX11_distanceFrom : yX11_distanceFrom.cls ≠ "java/lang/invoke/MethodHandle" ∧ yX11_distanceFrom.cls ≠ "java/lang/invoke/VarHandle" ∧ (parseMethodDescriptor yX11_distanceFrom.desc).map (fun d => d.parameters.length) = some 1 := by decide +kernel
set_option maxHeartbeats 8000000 in
set_option maxRecDepth 100000 in
theorem mX11_distanceFrom (l : Launch) (dC : Nat → ClassId) (dI : Nat → Nat → Nat)     (x0 : Int32) (sz : Nat) (u : Int32) (h : pX11_distanceFrom x0 = some u) : Met l yX11_distanceFrom (Cond.code yX11_distanceFrom cX11_distanceFrom 1 (some .int) :: fb_tb) ({ frames := 0, cells := 0, slots := 0, locals := 0 }) (fb_Pc (dC, dI) [.int x0] sz [] []) (fb_Qi (dC, dI) u [] (va_A [] sz)) 0 0 (va_A [] sz) := by
  refine fb_meti (ty := .int) (by decide) (Nat.le_of_ble_eq_true rfl) (fun p e s m args below meth c A Q ls H hx hb hml hown hts hP hK hN hZ hD hA hS hret hl => ?_)
  replace hl : lv_has ls 1 [(0, .int x0)] := hl
  unfold pX11_distanceFrom at h
  refine lv_iload_n hx hb dX11_distanceFrom_0 rfl (lv_at hl 0 rfl) ?_
  refine lv_iconst (v := (4 : Int32)) hx hb dX11_distanceFrom_1 (by decide) ?_
  refine lv_icmp_ge (tgt := 11) hx hb dX11_distanceFrom_2 (by decide) (fun c1 => ?_) (fun c1 => ?_)
  · replace h := fb_t c1 h
    refine lv_iconst (v := (1 : Int32)) hx hb dX11_distanceFrom_11 (by decide) ?_
    refine lv_iconst (v := (2 : Int32)) hx hb dX11_distanceFrom_12 (by decide) ?_
    refine lv_iload_n hx hb dX11_distanceFrom_13 rfl (lv_at hl 0 rfl) ?_
    refine lv_iconst (v := (2 : Int32)) hx hb dX11_distanceFrom_14 (by decide) ?_
    refine lv_irem hx hb dX11_distanceFrom_15 (by decide) ?_
    refine lv_iadd hx hb dX11_distanceFrom_16 ?_
    refine lv_iconst (v := (1 : Int32)) hx hb dX11_distanceFrom_17 (by decide) ?_
    refine lv_iload_n hx hb dX11_distanceFrom_18 rfl (lv_at hl 0 rfl) ?_
    refine lv_iconst (v := (2 : Int32)) hx hb dX11_distanceFrom_19 (by decide) ?_
    refine lv_idiv hx hb dX11_distanceFrom_20 (by decide) ?_
    refine lv_iconst (v := (1 : Int32)) hx hb dX11_distanceFrom_21 (by decide) ?_
    refine lv_isub hx hb dX11_distanceFrom_22 ?_
    refine lv_ishl hx hb dX11_distanceFrom_23 ?_
    refine lv_imul hx hb dX11_distanceFrom_24 ?_
    refine lv_iadd hx hb dX11_distanceFrom_25 ?_
    have hu := Option.some.inj h
    exact hret _ _ _ _ _ dX11_distanceFrom_26 rfl (by rw [← hu]) hP hD hS
  · replace h := fb_f c1 h
    refine lv_iconst (v := (1 : Int32)) hx hb dX11_distanceFrom_5 (by decide) ?_
    refine lv_iload_n hx hb dX11_distanceFrom_6 rfl (lv_at hl 0 rfl) ?_
    refine lv_iadd hx hb dX11_distanceFrom_7 ?_
    refine lv_goto (tgt := 26) hx hb dX11_distanceFrom_8 (by decide) ?_
    have hu := Option.some.inj h
    exact hret _ _ _ _ _ dX11_distanceFrom_26 rfl (by rw [← hu]) hP hD hS
theorem dX11_lengthSymbol_0 : decode cX11_lengthSymbol 0 = .ok (.bipush 28, 2) := by decide +kernel
theorem dX11_lengthSymbol_2 : decode cX11_lengthSymbol 2 = .ok (.istore_n 1, 1) := by decide +kernel
theorem dX11_lengthSymbol_3 : decode cX11_lengthSymbol 3 = .ok (.iload_n 1, 1) := by decide +kernel
theorem dX11_lengthSymbol_4 : decode cX11_lengthSymbol 4 = .ok (.invokestatic 137, 3) := by decide +kernel
theorem dX11_lengthSymbol_7 : decode cX11_lengthSymbol 7 = .ok (.iload_n 0, 1) := by decide +kernel
theorem dX11_lengthSymbol_8 : decode cX11_lengthSymbol 8 = .ok (.if_icmp .le 9, 3) := by decide +kernel
theorem dX11_lengthSymbol_11 : decode cX11_lengthSymbol 11 = .ok (.iinc 1 (-1), 3) := by decide +kernel
theorem dX11_lengthSymbol_14 : decode cX11_lengthSymbol 14 = .ok (.goto (-11), 3) := by decide +kernel
theorem dX11_lengthSymbol_17 : decode cX11_lengthSymbol 17 = .ok (.iload_n 1, 1) := by decide +kernel
theorem dX11_lengthSymbol_18 : decode cX11_lengthSymbol 18 = .ok (.ireturn, 1) := by decide +kernel
def pX11_lengthSymbol_b3 (x0 : Int32)  : Nat → Int32 → Option (Int32)
  | 0 => fun _ => none
  | n + 1 => fun x1 =>
  (pX11_lengthFrom x1).bind (fun u1 =>
  if u1 ≤ x0 then
  (some (x1))
  else
  ((pX11_lengthSymbol_b3 x0 n) (x1 + (-1 : Int32))))
def pX11_lengthSymbol (x0 : Int32)   : Option (Int32) :=
  pX11_lengthSymbol_b3 x0 fb_F (28 : Int32)
theorem hdX11_lengthSymbol : yX11_lengthSymbol.cls ≠ "java/lang/invoke/MethodHandle" ∧ yX11_lengthSymbol.cls ≠ "java/lang/invoke/VarHandle" ∧ (parseMethodDescriptor yX11_lengthSymbol.desc).map (fun d => d.parameters.length) = some 1 := by decide +kernel
set_option maxHeartbeats 8000000 in
set_option maxRecDepth 100000 in
theorem mX11_lengthSymbol (l : Launch) (dC : Nat → ClassId) (dI : Nat → Nat → Nat)     (x0 : Int32) (sz : Nat) (u : Int32) (h : pX11_lengthSymbol x0 = some u) : Met l yX11_lengthSymbol (Cond.code yX11_lengthSymbol cX11_lengthSymbol 2 (some .int) :: fb_tb) ({ frames := 1, cells := 0, slots := 0, locals := 20 }) (fb_Pc (dC, dI) [.int x0] sz [] []) (fb_Qi (dC, dI) u [] (va_A [] sz)) 0 0 (va_A [] sz) := by
  refine fb_meti (ty := .int) (by decide) (Nat.le_of_ble_eq_true rfl) (fun p e s m args below meth c A Q ls H hx hb hml hown hts hP hK hN hZ hD hA hS hret hl => ?_)
  replace hl : lv_has ls 2 [(0, .int x0)] := hl
  have wB3 : ∀ n : Nat, ∀ (x1 : Int32) (H : Heap) (locs : List Loc) (ls : Array Slot), va_P (dC, dI) fb_cl [] H → va_D A [] → va_S A s.heap H locs → lv_has ls 2 [(0, .int x0), (1, .int x1)] → pX11_lengthSymbol_b3 x0 n x1 = some u → W p l e ({ frames := 1, cells := 0, slots := 0, locals := 20 }) s m args below meth c H locs 0 0 Q (F0 m 3 ls []) := by
    intro n
    induction n with
    | zero => intro x1 H locs ls hP hD hS hl h; cases h
    | succ n ih =>
      intro x1 H locs ls hP hD hS hl h
      rw [pX11_lengthSymbol_b3] at h
      refine lv_iload_n hx hb dX11_lengthSymbol_3 rfl (lv_at hl 1 rfl) ?_
      obtain ⟨u1, e1, h⟩ := fb_b h
      refine fb_ci (wc := []) (wr := []) (w1 := []) (ws' := []) (va_runS (As := [.int x1]) (rest := []) ⟨hx, hb, hml, hown, hts⟩ (mX11_lengthFrom l dC dI x1 H.size u1 e1) (va_cwS 1 hts (fb_GSx k_1036 k_1037 k_74 k_1038) rfl rfl rfl hdX11_lengthFrom ⟨Nat.le_of_ble_eq_true rfl, Nat.le_of_ble_eq_true rfl⟩) (fb_pS hP hD hS hA hK hN hZ [] rfl rfl [] rfl) rfl rfl hl.1 rfl (lv_room (Nat.le_of_ble_eq_true rfl)) dX11_lengthSymbol_4 ⟨Nat.le_of_ble_eq_true rfl, Nat.le_of_ble_eq_true rfl⟩) hP hD hS hA [] [] rfl rfl rfl (by decide) [] rfl rfl (fun H locs hP hD hS => ?_)
      refine lv_iload_n hx hb dX11_lengthSymbol_7 rfl (lv_at hl 0 rfl) ?_
      refine lv_icmp_le (tgt := 17) hx hb dX11_lengthSymbol_8 (by decide) (fun c2 => ?_) (fun c2 => ?_)
      · replace h := fb_t c2 h
        refine lv_iload_n hx hb dX11_lengthSymbol_17 rfl (lv_at hl 1 rfl) ?_
        have hu := Option.some.inj h
        exact hret _ _ _ _ _ dX11_lengthSymbol_18 rfl (by rw [← hu]) hP hD hS
      · replace h := fb_f c2 h
        refine lv_iinc (v := (x1 + (-1 : Int32))) (lv' := [(1, .int (x1 + (-1 : Int32))), (0, .int x0)]) hx hb dX11_lengthSymbol_11 hl (k := 1) rfl rfl (by decide) rfl (fun ls hl => ?_)
        refine lv_goto (tgt := 3) hx hb dX11_lengthSymbol_14 (by decide) ?_
        exact ih (x1 + (-1 : Int32)) _ _ _ hP hD hS (lv_sub hl [1, 0] rfl) h
  unfold pX11_lengthSymbol at h
  refine lv_bipush (v := (28 : Int32)) hx hb dX11_lengthSymbol_0 (by decide) ?_
  refine lv_istore_n (lv' := [(1, .int (28 : Int32)), (0, .int x0)]) hx hb dX11_lengthSymbol_2 rfl hl (by decide) rfl (fun ls hl => ?_)
  exact wB3 fb_F (28 : Int32) _ _ _ hP hD hS (lv_sub hl [1, 0] rfl) h
theorem dX11_distanceSymbol_0 : decode cX11_distanceSymbol 0 = .ok (.bipush 29, 2) := by decide +kernel
theorem dX11_distanceSymbol_2 : decode cX11_distanceSymbol 2 = .ok (.istore_n 1, 1) := by decide +kernel
theorem dX11_distanceSymbol_3 : decode cX11_distanceSymbol 3 = .ok (.iload_n 1, 1) := by decide +kernel
theorem dX11_distanceSymbol_4 : decode cX11_distanceSymbol 4 = .ok (.invokestatic 140, 3) := by decide +kernel
theorem dX11_distanceSymbol_7 : decode cX11_distanceSymbol 7 = .ok (.iload_n 0, 1) := by decide +kernel
theorem dX11_distanceSymbol_8 : decode cX11_distanceSymbol 8 = .ok (.if_icmp .le 9, 3) := by decide +kernel
theorem dX11_distanceSymbol_11 : decode cX11_distanceSymbol 11 = .ok (.iinc 1 (-1), 3) := by decide +kernel
theorem dX11_distanceSymbol_14 : decode cX11_distanceSymbol 14 = .ok (.goto (-11), 3) := by decide +kernel
theorem dX11_distanceSymbol_17 : decode cX11_distanceSymbol 17 = .ok (.iload_n 1, 1) := by decide +kernel
theorem dX11_distanceSymbol_18 : decode cX11_distanceSymbol 18 = .ok (.ireturn, 1) := by decide +kernel
def pX11_distanceSymbol_b3 (x0 : Int32)  : Nat → Int32 → Option (Int32)
  | 0 => fun _ => none
  | n + 1 => fun x1 =>
  (pX11_distanceFrom x1).bind (fun u1 =>
  if u1 ≤ x0 then
  (some (x1))
  else
  ((pX11_distanceSymbol_b3 x0 n) (x1 + (-1 : Int32))))
def pX11_distanceSymbol (x0 : Int32)   : Option (Int32) :=
  pX11_distanceSymbol_b3 x0 fb_F (29 : Int32)
theorem hdX11_distanceSymbol : yX11_distanceSymbol.cls ≠ "java/lang/invoke/MethodHandle" ∧ yX11_distanceSymbol.cls ≠ "java/lang/invoke/VarHandle" ∧ (parseMethodDescriptor yX11_distanceSymbol.desc).map (fun d => d.parameters.length) = some 1 := by decide +kernel
set_option maxHeartbeats 8000000 in
set_option maxRecDepth 100000 in
theorem mX11_distanceSymbol (l : Launch) (dC : Nat → ClassId) (dI : Nat → Nat → Nat)     (x0 : Int32) (sz : Nat) (u : Int32) (h : pX11_distanceSymbol x0 = some u) : Met l yX11_distanceSymbol (Cond.code yX11_distanceSymbol cX11_distanceSymbol 2 (some .int) :: fb_tb) ({ frames := 1, cells := 0, slots := 0, locals := 20 }) (fb_Pc (dC, dI) [.int x0] sz [] []) (fb_Qi (dC, dI) u [] (va_A [] sz)) 0 0 (va_A [] sz) := by
  refine fb_meti (ty := .int) (by decide) (Nat.le_of_ble_eq_true rfl) (fun p e s m args below meth c A Q ls H hx hb hml hown hts hP hK hN hZ hD hA hS hret hl => ?_)
  replace hl : lv_has ls 2 [(0, .int x0)] := hl
  have wB3 : ∀ n : Nat, ∀ (x1 : Int32) (H : Heap) (locs : List Loc) (ls : Array Slot), va_P (dC, dI) fb_cl [] H → va_D A [] → va_S A s.heap H locs → lv_has ls 2 [(0, .int x0), (1, .int x1)] → pX11_distanceSymbol_b3 x0 n x1 = some u → W p l e ({ frames := 1, cells := 0, slots := 0, locals := 20 }) s m args below meth c H locs 0 0 Q (F0 m 3 ls []) := by
    intro n
    induction n with
    | zero => intro x1 H locs ls hP hD hS hl h; cases h
    | succ n ih =>
      intro x1 H locs ls hP hD hS hl h
      rw [pX11_distanceSymbol_b3] at h
      refine lv_iload_n hx hb dX11_distanceSymbol_3 rfl (lv_at hl 1 rfl) ?_
      obtain ⟨u1, e1, h⟩ := fb_b h
      refine fb_ci (wc := []) (wr := []) (w1 := []) (ws' := []) (va_runS (As := [.int x1]) (rest := []) ⟨hx, hb, hml, hown, hts⟩ (mX11_distanceFrom l dC dI x1 H.size u1 e1) (va_cwS 1 hts (fb_GSx k_1054 k_1055 k_74 k_1056) rfl rfl rfl hdX11_distanceFrom ⟨Nat.le_of_ble_eq_true rfl, Nat.le_of_ble_eq_true rfl⟩) (fb_pS hP hD hS hA hK hN hZ [] rfl rfl [] rfl) rfl rfl hl.1 rfl (lv_room (Nat.le_of_ble_eq_true rfl)) dX11_distanceSymbol_4 ⟨Nat.le_of_ble_eq_true rfl, Nat.le_of_ble_eq_true rfl⟩) hP hD hS hA [] [] rfl rfl rfl (by decide) [] rfl rfl (fun H locs hP hD hS => ?_)
      refine lv_iload_n hx hb dX11_distanceSymbol_7 rfl (lv_at hl 0 rfl) ?_
      refine lv_icmp_le (tgt := 17) hx hb dX11_distanceSymbol_8 (by decide) (fun c2 => ?_) (fun c2 => ?_)
      · replace h := fb_t c2 h
        refine lv_iload_n hx hb dX11_distanceSymbol_17 rfl (lv_at hl 1 rfl) ?_
        have hu := Option.some.inj h
        exact hret _ _ _ _ _ dX11_distanceSymbol_18 rfl (by rw [← hu]) hP hD hS
      · replace h := fb_f c2 h
        refine lv_iinc (v := (x1 + (-1 : Int32))) (lv' := [(1, .int (x1 + (-1 : Int32))), (0, .int x0)]) hx hb dX11_distanceSymbol_11 hl (k := 1) rfl rfl (by decide) rfl (fun ls hl => ?_)
        refine lv_goto (tgt := 3) hx hb dX11_distanceSymbol_14 (by decide) ?_
        exact ih (x1 + (-1 : Int32)) _ _ _ hP hD hS (lv_sub hl [1, 0] rfl) h
  unfold pX11_distanceSymbol at h
  refine lv_bipush (v := (29 : Int32)) hx hb dX11_distanceSymbol_0 (by decide) ?_
  refine lv_istore_n (lv' := [(1, .int (29 : Int32)), (0, .int x0)]) hx hb dX11_distanceSymbol_2 rfl hl (by decide) rfl (fun ls hl => ?_)
  exact wB3 fb_F (29 : Int32) _ _ _ hP hD hS (lv_sub hl [1, 0] rfl) h
theorem dX11_rarest_0 : decode cX11_rarest 0 = .ok (.iconst (-1), 1) := by decide +kernel
theorem dX11_rarest_1 : decode cX11_rarest 1 = .ok (.istore_n 2, 1) := by decide +kernel
theorem dX11_rarest_2 : decode cX11_rarest 2 = .ok (.iconst 0, 1) := by decide +kernel
theorem dX11_rarest_3 : decode cX11_rarest 3 = .ok (.istore_n 3, 1) := by decide +kernel
theorem dX11_rarest_4 : decode cX11_rarest 4 = .ok (.iload_n 3, 1) := by decide +kernel
theorem dX11_rarest_5 : decode cX11_rarest 5 = .ok (.iload_n 1, 1) := by decide +kernel
theorem dX11_rarest_6 : decode cX11_rarest 6 = .ok (.if_icmp .ge 43, 3) := by decide +kernel
theorem dX11_rarest_9 : decode cX11_rarest 9 = .ok (.aload_n 0, 1) := by decide +kernel
theorem dX11_rarest_10 : decode cX11_rarest 10 = .ok (.getfield 63, 3) := by decide +kernel
theorem dX11_rarest_13 : decode cX11_rarest 13 = .ok (.iload_n 3, 1) := by decide +kernel
theorem dX11_rarest_14 : decode cX11_rarest 14 = .ok (.baload, 1) := by decide +kernel
theorem dX11_rarest_15 : decode cX11_rarest 15 = .ok (.ifCond .eq 26, 3) := by decide +kernel
theorem dX11_rarest_18 : decode cX11_rarest 18 = .ok (.iload_n 2, 1) := by decide +kernel
theorem dX11_rarest_19 : decode cX11_rarest 19 = .ok (.ifCond .lt 18, 3) := by decide +kernel
theorem dX11_rarest_22 : decode cX11_rarest 22 = .ok (.aload_n 0, 1) := by decide +kernel
theorem dX11_rarest_23 : decode cX11_rarest 23 = .ok (.getfield 57, 3) := by decide +kernel
theorem dX11_rarest_26 : decode cX11_rarest 26 = .ok (.iload_n 3, 1) := by decide +kernel
theorem dX11_rarest_27 : decode cX11_rarest 27 = .ok (.iaload, 1) := by decide +kernel
theorem dX11_rarest_28 : decode cX11_rarest 28 = .ok (.aload_n 0, 1) := by decide +kernel
theorem dX11_rarest_29 : decode cX11_rarest 29 = .ok (.getfield 57, 3) := by decide +kernel
theorem dX11_rarest_32 : decode cX11_rarest 32 = .ok (.iload_n 2, 1) := by decide +kernel
theorem dX11_rarest_33 : decode cX11_rarest 33 = .ok (.iaload, 1) := by decide +kernel
theorem dX11_rarest_34 : decode cX11_rarest 34 = .ok (.if_icmp .ge 7, 3) := by decide +kernel
theorem dX11_rarest_37 : decode cX11_rarest 37 = .ok (.iload_n 3, 1) := by decide +kernel
theorem dX11_rarest_38 : decode cX11_rarest 38 = .ok (.goto 4, 3) := by decide +kernel
theorem dX11_rarest_41 : decode cX11_rarest 41 = .ok (.iload_n 2, 1) := by decide +kernel
theorem dX11_rarest_42 : decode cX11_rarest 42 = .ok (.istore_n 2, 1) := by decide +kernel
theorem dX11_rarest_43 : decode cX11_rarest 43 = .ok (.iinc 3 1, 3) := by decide +kernel
theorem dX11_rarest_46 : decode cX11_rarest 46 = .ok (.goto (-42), 3) := by decide +kernel
theorem dX11_rarest_49 : decode cX11_rarest 49 = .ok (.iload_n 2, 1) := by decide +kernel
theorem dX11_rarest_50 : decode cX11_rarest 50 = .ok (.ireturn, 1) := by decide +kernel
def pX11_rarest_b4 (o_alone_n : Nat) (o_counts_n : Nat) (o_alone_v : Nat → Int32) (o_counts_v : Nat → Int32) (x1 : Int32)  : Nat → Int32 → Int32 → Option (Int32)
  | 0 => fun _ _ => none
  | n + 1 => fun x2 x3 =>
  if x1 ≤ x3 then
  (some (x2))
  else
  (if x3 < 0 ∨ o_alone_n ≤ (x3).toNatClampNeg then none else
  if (o_alone_v (x3).toNatClampNeg) = 0 then
  ((pX11_rarest_b4 o_alone_n o_counts_n o_alone_v o_counts_v x1 n) x2 (x3 + (1 : Int32)))
  else
  (if x2 < 0 then
  ((pX11_rarest_b4 o_alone_n o_counts_n o_alone_v o_counts_v x1 n) x3 (x3 + (1 : Int32)))
  else
  (if x3 < 0 ∨ o_counts_n ≤ (x3).toNatClampNeg then none else
  if x2 < 0 ∨ o_counts_n ≤ (x2).toNatClampNeg then none else
  if (o_counts_v (x2).toNatClampNeg) ≤ (o_counts_v (x3).toNatClampNeg) then
  ((pX11_rarest_b4 o_alone_n o_counts_n o_alone_v o_counts_v x1 n) x2 (x3 + (1 : Int32)))
  else
  ((pX11_rarest_b4 o_alone_n o_counts_n o_alone_v o_counts_v x1 n) x3 (x3 + (1 : Int32))))))
def pX11_rarest (o_alone_n : Nat) (o_counts_n : Nat) (o_alone_v : Nat → Int32) (o_counts_v : Nat → Int32) (x1 : Int32)   : Option (Int32) :=
  pX11_rarest_b4 o_alone_n o_counts_n o_alone_v o_counts_v x1 fb_F (-1 : Int32) (0 : Int32)
theorem hdX11_rarest : yX11_rarest.cls = RX11 ∧ yX11_rarest.cls ≠ "java/lang/invoke/MethodHandle" ∧ yX11_rarest.cls ≠ "java/lang/invoke/VarHandle" ∧ (parseMethodDescriptor yX11_rarest.desc).map (fun d => d.parameters.length) = some 1 := by decide +kernel
set_option maxHeartbeats 8000000 in
set_option maxRecDepth 100000 in
theorem mX11_rarest (l : Launch) (dC : Nat → ClassId) (dI : Nat → Nat → Nat) (o : Nat) (o_alone : Nat) (o_counts : Nat) (o_text : Nat) (o_packed : Nat) (o_loaded : Nat) (o_out : Nat) (o_lengths : Nat) (o_distances : Nat) (o_heads : Nat) (o_earlier : Nat) (o_often : Nat) (o_symbolLengths : Nat) (o_distanceLengths : Nat) (o_lengthLengths : Nat) (o_symbolCodes : Nat) (o_distanceCodes : Nat) (o_lengthCodes : Nat) (o_parents : Nat) (o_row : Nat) (o_toldSymbols : Nat) (o_toldNumbers : Nat) (o_alone_c : ClassId) (o_counts_c : ClassId) (o_alone_n : Nat) (o_counts_n : Nat) (o_textRoom : Int32) (o_byteRoom : Int32) (o_chain : Int32) (o_textSize : Int32) (o_packedSize : Int32) (o_matches : Int32) (o_loadedSize : Int32) (o_outSize : Int32) (o_bits : Int32) (o_tokens : Int32) (o_told : Int32) (o_place : Int32) (o_fail : Int32) (o_found : Int32) (o_symbolCount : Int32) (o_distanceCount : Int32) (o_lengthCount : Int32) (o_alone_v : Nat → Int32) (o_counts_v : Nat → Int32) (x1 : Int32) (sz : Nat) (u : Int32) (h : pX11_rarest o_alone_n o_counts_n o_alone_v o_counts_v x1 = some u) : Met l yX11_rarest (Cond.code yX11_rarest cX11_rarest 4 (some .int) :: fb_tb) ({ frames := 0, cells := 0, slots := 0, locals := 0 }) (fb_Pc (dC, dI) [.ref o, .int x1] sz [(o_alone_c, .boolean), (o_counts_c, .int)] [(o, .inr (11, [.int o_textRoom, .int o_byteRoom, .int o_chain, .ref o_text, .int o_textSize, .ref o_packed, .int o_packedSize, .int o_matches, .ref o_loaded, .int o_loadedSize, .ref o_out, .int o_outSize, .int o_bits, .int o_tokens, .ref o_lengths, .ref o_distances, .ref o_heads, .ref o_earlier, .ref o_often, .ref o_symbolLengths, .ref o_distanceLengths, .ref o_lengthLengths, .ref o_symbolCodes, .ref o_distanceCodes, .ref o_lengthCodes, .ref o_counts, .ref o_parents, .ref o_alone, .ref o_row, .int o_told, .ref o_toldSymbols, .ref o_toldNumbers, .int o_place, .int o_fail, .int o_found, .int o_symbolCount, .int o_distanceCount, .int o_lengthCount])), (o_alone, .inl (o_alone_c, o_alone_n, .inl o_alone_v)), (o_counts, .inl (o_counts_c, o_counts_n, .inl o_counts_v))]) (fb_Qi (dC, dI) u [(o, .inr (11, [.int o_textRoom, .int o_byteRoom, .int o_chain, .ref o_text, .int o_textSize, .ref o_packed, .int o_packedSize, .int o_matches, .ref o_loaded, .int o_loadedSize, .ref o_out, .int o_outSize, .int o_bits, .int o_tokens, .ref o_lengths, .ref o_distances, .ref o_heads, .ref o_earlier, .ref o_often, .ref o_symbolLengths, .ref o_distanceLengths, .ref o_lengthLengths, .ref o_symbolCodes, .ref o_distanceCodes, .ref o_lengthCodes, .ref o_counts, .ref o_parents, .ref o_alone, .ref o_row, .int o_told, .ref o_toldSymbols, .ref o_toldNumbers, .int o_place, .int o_fail, .int o_found, .int o_symbolCount, .int o_distanceCount, .int o_lengthCount])), (o_alone, .inl (o_alone_c, o_alone_n, .inl o_alone_v)), (o_counts, .inl (o_counts_c, o_counts_n, .inl o_counts_v))] (va_A [(o, .inr (11, [.int o_textRoom, .int o_byteRoom, .int o_chain, .ref o_text, .int o_textSize, .ref o_packed, .int o_packedSize, .int o_matches, .ref o_loaded, .int o_loadedSize, .ref o_out, .int o_outSize, .int o_bits, .int o_tokens, .ref o_lengths, .ref o_distances, .ref o_heads, .ref o_earlier, .ref o_often, .ref o_symbolLengths, .ref o_distanceLengths, .ref o_lengthLengths, .ref o_symbolCodes, .ref o_distanceCodes, .ref o_lengthCodes, .ref o_counts, .ref o_parents, .ref o_alone, .ref o_row, .int o_told, .ref o_toldSymbols, .ref o_toldNumbers, .int o_place, .int o_fail, .int o_found, .int o_symbolCount, .int o_distanceCount, .int o_lengthCount])), (o_alone, .inl (o_alone_c, o_alone_n, .inl o_alone_v)), (o_counts, .inl (o_counts_c, o_counts_n, .inl o_counts_v))] sz)) 0 0 (va_A [(o, .inr (11, [.int o_textRoom, .int o_byteRoom, .int o_chain, .ref o_text, .int o_textSize, .ref o_packed, .int o_packedSize, .int o_matches, .ref o_loaded, .int o_loadedSize, .ref o_out, .int o_outSize, .int o_bits, .int o_tokens, .ref o_lengths, .ref o_distances, .ref o_heads, .ref o_earlier, .ref o_often, .ref o_symbolLengths, .ref o_distanceLengths, .ref o_lengthLengths, .ref o_symbolCodes, .ref o_distanceCodes, .ref o_lengthCodes, .ref o_counts, .ref o_parents, .ref o_alone, .ref o_row, .int o_told, .ref o_toldSymbols, .ref o_toldNumbers, .int o_place, .int o_fail, .int o_found, .int o_symbolCount, .int o_distanceCount, .int o_lengthCount])), (o_alone, .inl (o_alone_c, o_alone_n, .inl o_alone_v)), (o_counts, .inl (o_counts_c, o_counts_n, .inl o_counts_v))] sz) := by
  refine fb_meti (ty := .int) (by decide) (Nat.le_of_ble_eq_true rfl) (fun p e s m args below meth c A Q ls H hx hb hml hown hts hP hK hN hZ hD hA hS hret hl => ?_)
  replace hl : lv_has ls 4 [(0, .ref o), (1, .int x1)] := hl
  have wB4 : ∀ n : Nat, ∀ (x2 : Int32) (x3 : Int32) (H : Heap) (locs : List Loc) (ls : Array Slot), va_P (dC, dI) fb_cl [(o, .inr (11, [.int o_textRoom, .int o_byteRoom, .int o_chain, .ref o_text, .int o_textSize, .ref o_packed, .int o_packedSize, .int o_matches, .ref o_loaded, .int o_loadedSize, .ref o_out, .int o_outSize, .int o_bits, .int o_tokens, .ref o_lengths, .ref o_distances, .ref o_heads, .ref o_earlier, .ref o_often, .ref o_symbolLengths, .ref o_distanceLengths, .ref o_lengthLengths, .ref o_symbolCodes, .ref o_distanceCodes, .ref o_lengthCodes, .ref o_counts, .ref o_parents, .ref o_alone, .ref o_row, .int o_told, .ref o_toldSymbols, .ref o_toldNumbers, .int o_place, .int o_fail, .int o_found, .int o_symbolCount, .int o_distanceCount, .int o_lengthCount])), (o_alone, .inl (o_alone_c, o_alone_n, .inl o_alone_v)), (o_counts, .inl (o_counts_c, o_counts_n, .inl o_counts_v))] H → va_D A [(o, .inr (11, [.int o_textRoom, .int o_byteRoom, .int o_chain, .ref o_text, .int o_textSize, .ref o_packed, .int o_packedSize, .int o_matches, .ref o_loaded, .int o_loadedSize, .ref o_out, .int o_outSize, .int o_bits, .int o_tokens, .ref o_lengths, .ref o_distances, .ref o_heads, .ref o_earlier, .ref o_often, .ref o_symbolLengths, .ref o_distanceLengths, .ref o_lengthLengths, .ref o_symbolCodes, .ref o_distanceCodes, .ref o_lengthCodes, .ref o_counts, .ref o_parents, .ref o_alone, .ref o_row, .int o_told, .ref o_toldSymbols, .ref o_toldNumbers, .int o_place, .int o_fail, .int o_found, .int o_symbolCount, .int o_distanceCount, .int o_lengthCount])), (o_alone, .inl (o_alone_c, o_alone_n, .inl o_alone_v)), (o_counts, .inl (o_counts_c, o_counts_n, .inl o_counts_v))] → va_S A s.heap H locs → lv_has ls 4 [(0, .ref o), (1, .int x1), (2, .int x2), (3, .int x3)] → pX11_rarest_b4 o_alone_n o_counts_n o_alone_v o_counts_v x1 n x2 x3 = some u → W p l e ({ frames := 0, cells := 0, slots := 0, locals := 0 }) s m args below meth c H locs 0 0 Q (F0 m 4 ls []) := by
    intro n
    induction n with
    | zero => intro x2 x3 H locs ls hP hD hS hl h; cases h
    | succ n ih =>
      intro x2 x3 H locs ls hP hD hS hl h
      rw [pX11_rarest_b4] at h
      refine lv_iload_n hx hb dX11_rarest_4 rfl (lv_at hl 3 rfl) ?_
      refine lv_iload_n hx hb dX11_rarest_5 rfl (lv_at hl 1 rfl) ?_
      refine lv_icmp_ge (tgt := 49) hx hb dX11_rarest_6 (by decide) (fun c1 => ?_) (fun c1 => ?_)
      · replace h := fb_t c1 h
        refine lv_iload_n hx hb dX11_rarest_49 rfl (lv_at hl 2 rfl) ?_
        have hu := Option.some.inj h
        exact hret _ _ _ _ _ dX11_rarest_50 rfl (by rw [← hu]) hP hD hS
      · replace h := fb_f c1 h
        refine lv_aload_n hx hb dX11_rarest_9 rfl (lv_at hl 0 rfl) ?_
        refine va_get (D := (dC, dI)) (ci := 11) (v := .ref o_alone) (C := RX11) (T := TX11) (N := 38) hx hb hts i_X11 hown hK hP 0 rfl rfl 27 (by decide) (hts _ k_864) (fun _ h9 => h9) rfl dX11_rarest_10 ?_
        refine lv_iload_n hx hb dX11_rarest_13 rfl (lv_at hl 3 rfl) ?_
        obtain ⟨g2, h⟩ := fb_g h
        refine va_zald hx hb hK hP 1 0 rfl rfl g2 dX11_rarest_14 ?_
        refine lv_if_eq (tgt := 41) hx hb dX11_rarest_15 (by decide) (fun c3 => ?_) (fun c3 => ?_)
        · replace h := fb_t c3 h
          refine lv_iload_n hx hb dX11_rarest_41 rfl (lv_at hl 2 rfl) ?_
          refine lv_istore_n (lv' := [(2, .int x2), (0, .ref o), (1, .int x1), (3, .int x3)]) hx hb dX11_rarest_42 rfl hl (by decide) rfl (fun ls hl => ?_)
          refine lv_iinc (v := (x3 + (1 : Int32))) (lv' := [(3, .int (x3 + (1 : Int32))), (2, .int x2), (0, .ref o), (1, .int x1)]) hx hb dX11_rarest_43 hl (k := 3) rfl rfl (by decide) rfl (fun ls hl => ?_)
          refine lv_goto (tgt := 4) hx hb dX11_rarest_46 (by decide) ?_
          exact ih x2 (x3 + (1 : Int32)) _ _ _ hP hD hS (lv_sub hl [2, 3, 1, 0] rfl) h
        · replace h := fb_f c3 h
          refine lv_iload_n hx hb dX11_rarest_18 rfl (lv_at hl 2 rfl) ?_
          refine lv_if_lt (tgt := 37) hx hb dX11_rarest_19 (by decide) (fun c4 => ?_) (fun c4 => ?_)
          · replace h := fb_t c4 h
            refine lv_iload_n hx hb dX11_rarest_37 rfl (lv_at hl 3 rfl) ?_
            refine lv_goto (tgt := 42) hx hb dX11_rarest_38 (by decide) ?_
            refine lv_istore_n (lv' := [(2, .int x3), (0, .ref o), (1, .int x1), (3, .int x3)]) hx hb dX11_rarest_42 rfl hl (by decide) rfl (fun ls hl => ?_)
            refine lv_iinc (v := (x3 + (1 : Int32))) (lv' := [(3, .int (x3 + (1 : Int32))), (2, .int x3), (0, .ref o), (1, .int x1)]) hx hb dX11_rarest_43 hl (k := 3) rfl rfl (by decide) rfl (fun ls hl => ?_)
            refine lv_goto (tgt := 4) hx hb dX11_rarest_46 (by decide) ?_
            exact ih x3 (x3 + (1 : Int32)) _ _ _ hP hD hS (lv_sub hl [2, 3, 1, 0] rfl) h
          · replace h := fb_f c4 h
            refine lv_aload_n hx hb dX11_rarest_22 rfl (lv_at hl 0 rfl) ?_
            refine va_get (D := (dC, dI)) (ci := 11) (v := .ref o_counts) (C := RX11) (T := TX11) (N := 38) hx hb hts i_X11 hown hK hP 0 rfl rfl 25 (by decide) (hts _ k_862) (fun _ h9 => h9) rfl dX11_rarest_23 ?_
            refine lv_iload_n hx hb dX11_rarest_26 rfl (lv_at hl 3 rfl) ?_
            obtain ⟨g5, h⟩ := fb_g h
            refine va_iald hx hb hK hP 2 1 rfl rfl g5 dX11_rarest_27 ?_
            refine lv_aload_n hx hb dX11_rarest_28 rfl (lv_at hl 0 rfl) ?_
            refine va_get (D := (dC, dI)) (ci := 11) (v := .ref o_counts) (C := RX11) (T := TX11) (N := 38) hx hb hts i_X11 hown hK hP 0 rfl rfl 25 (by decide) (hts _ k_862) (fun _ h9 => h9) rfl dX11_rarest_29 ?_
            refine lv_iload_n hx hb dX11_rarest_32 rfl (lv_at hl 2 rfl) ?_
            obtain ⟨g6, h⟩ := fb_g h
            refine va_iald hx hb hK hP 2 1 rfl rfl g6 dX11_rarest_33 ?_
            refine lv_icmp_ge (tgt := 41) hx hb dX11_rarest_34 (by decide) (fun c7 => ?_) (fun c7 => ?_)
            · replace h := fb_t c7 h
              refine lv_iload_n hx hb dX11_rarest_41 rfl (lv_at hl 2 rfl) ?_
              refine lv_istore_n (lv' := [(2, .int x2), (0, .ref o), (1, .int x1), (3, .int x3)]) hx hb dX11_rarest_42 rfl hl (by decide) rfl (fun ls hl => ?_)
              refine lv_iinc (v := (x3 + (1 : Int32))) (lv' := [(3, .int (x3 + (1 : Int32))), (2, .int x2), (0, .ref o), (1, .int x1)]) hx hb dX11_rarest_43 hl (k := 3) rfl rfl (by decide) rfl (fun ls hl => ?_)
              refine lv_goto (tgt := 4) hx hb dX11_rarest_46 (by decide) ?_
              exact ih x2 (x3 + (1 : Int32)) _ _ _ hP hD hS (lv_sub hl [2, 3, 1, 0] rfl) h
            · replace h := fb_f c7 h
              refine lv_iload_n hx hb dX11_rarest_37 rfl (lv_at hl 3 rfl) ?_
              refine lv_goto (tgt := 42) hx hb dX11_rarest_38 (by decide) ?_
              refine lv_istore_n (lv' := [(2, .int x3), (0, .ref o), (1, .int x1), (3, .int x3)]) hx hb dX11_rarest_42 rfl hl (by decide) rfl (fun ls hl => ?_)
              refine lv_iinc (v := (x3 + (1 : Int32))) (lv' := [(3, .int (x3 + (1 : Int32))), (2, .int x3), (0, .ref o), (1, .int x1)]) hx hb dX11_rarest_43 hl (k := 3) rfl rfl (by decide) rfl (fun ls hl => ?_)
              refine lv_goto (tgt := 4) hx hb dX11_rarest_46 (by decide) ?_
              exact ih x3 (x3 + (1 : Int32)) _ _ _ hP hD hS (lv_sub hl [2, 3, 1, 0] rfl) h
  unfold pX11_rarest at h
  refine lv_iconst (v := (-1 : Int32)) hx hb dX11_rarest_0 (by decide) ?_
  refine lv_istore_n (lv' := [(2, .int (-1 : Int32)), (0, .ref o), (1, .int x1)]) hx hb dX11_rarest_1 rfl hl (by decide) rfl (fun ls hl => ?_)
  refine lv_iconst (v := (0 : Int32)) hx hb dX11_rarest_2 (by decide) ?_
  refine lv_istore_n (lv' := [(3, .int (0 : Int32)), (2, .int (-1 : Int32)), (0, .ref o), (1, .int x1)]) hx hb dX11_rarest_3 rfl hl (by decide) rfl (fun ls hl => ?_)
  exact wB4 fb_F (-1 : Int32) (0 : Int32) _ _ _ hP hD hS (lv_sub hl [2, 3, 1, 0] rfl) h
