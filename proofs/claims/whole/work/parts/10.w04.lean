theorem dX8_gather_0 : decode cX8_gather 0 = .ok (.aload_n 0, 1) := by decide +kernel
theorem dX8_gather_1 : decode cX8_gather 1 = .ok (.iconst 0, 1) := by decide +kernel
theorem dX8_gather_2 : decode cX8_gather 2 = .ok (.putfield 44, 3) := by decide +kernel
theorem dX8_gather_5 : decode cX8_gather 5 = .ok (.aload_n 0, 1) := by decide +kernel
theorem dX8_gather_6 : decode cX8_gather 6 = .ok (.iconst 0, 1) := by decide +kernel
theorem dX8_gather_7 : decode cX8_gather 7 = .ok (.putfield 48, 3) := by decide +kernel
theorem dX8_gather_10 : decode cX8_gather 10 = .ok (.aload_n 0, 1) := by decide +kernel
theorem dX8_gather_11 : decode cX8_gather 11 = .ok (.iconst 0, 1) := by decide +kernel
theorem dX8_gather_12 : decode cX8_gather 12 = .ok (.putfield 51, 3) := by decide +kernel
theorem dX8_gather_15 : decode cX8_gather 15 = .ok (.aload_n 0, 1) := by decide +kernel
theorem dX8_gather_16 : decode cX8_gather 16 = .ok (.getfield 9, 3) := by decide +kernel
theorem dX8_gather_19 : decode cX8_gather 19 = .ok (.iconst 0, 1) := by decide +kernel
theorem dX8_gather_20 : decode cX8_gather 20 = .ok (.invokestatic 54, 3) := by decide +kernel
theorem dX8_gather_23 : decode cX8_gather 23 = .ok (.aload_n 0, 1) := by decide +kernel
theorem dX8_gather_24 : decode cX8_gather 24 = .ok (.getfield 15, 3) := by decide +kernel
theorem dX8_gather_27 : decode cX8_gather 27 = .ok (.iconst 0, 1) := by decide +kernel
theorem dX8_gather_28 : decode cX8_gather 28 = .ok (.invokestatic 54, 3) := by decide +kernel
theorem dX8_gather_31 : decode cX8_gather 31 = .ok (.aload_n 0, 1) := by decide +kernel
theorem dX8_gather_32 : decode cX8_gather 32 = .ok (.getfield 9, 3) := by decide +kernel
theorem dX8_gather_35 : decode cX8_gather 35 = .ok (.sipush 256, 3) := by decide +kernel
theorem dX8_gather_38 : decode cX8_gather 38 = .ok (.iconst 1, 1) := by decide +kernel
theorem dX8_gather_39 : decode cX8_gather 39 = .ok (.iastore, 1) := by decide +kernel
theorem dX8_gather_40 : decode cX8_gather 40 = .ok (.aload_n 0, 1) := by decide +kernel
theorem dX8_gather_41 : decode cX8_gather 41 = .ok (.getfield 27, 3) := by decide +kernel
theorem dX8_gather_44 : decode cX8_gather 44 = .ok (.invokevirtual 60, 3) := by decide +kernel
theorem dX8_gather_47 : decode cX8_gather 47 = .ok (.iconst 0, 1) := by decide +kernel
theorem dX8_gather_48 : decode cX8_gather 48 = .ok (.istore_n 1, 1) := by decide +kernel
theorem dX8_gather_49 : decode cX8_gather 49 = .ok (.iconst 0, 1) := by decide +kernel
theorem dX8_gather_50 : decode cX8_gather 50 = .ok (.istore_n 2, 1) := by decide +kernel
theorem dX8_gather_51 : decode cX8_gather 51 = .ok (.iload_n 2, 1) := by decide +kernel
theorem dX8_gather_52 : decode cX8_gather 52 = .ok (.aload_n 0, 1) := by decide +kernel
theorem dX8_gather_53 : decode cX8_gather 53 = .ok (.getfield 18, 3) := by decide +kernel
theorem dX8_gather_56 : decode cX8_gather 56 = .ok (.getfield 63, 3) := by decide +kernel
theorem dX8_gather_59 : decode cX8_gather 59 = .ok (.if_icmp .ge 84, 3) := by decide +kernel
theorem dX8_gather_62 : decode cX8_gather 62 = .ok (.iload_n 1, 1) := by decide +kernel
theorem dX8_gather_63 : decode cX8_gather 63 = .ok (.aload_n 0, 1) := by decide +kernel
theorem dX8_gather_64 : decode cX8_gather 64 = .ok (.getfield 18, 3) := by decide +kernel
theorem dX8_gather_67 : decode cX8_gather 67 = .ok (.getfield 63, 3) := by decide +kernel
theorem dX8_gather_70 : decode cX8_gather 70 = .ok (.if_icmp .ge 73, 3) := by decide +kernel
theorem dX8_gather_73 : decode cX8_gather 73 = .ok (.aload_n 0, 1) := by decide +kernel
theorem dX8_gather_74 : decode cX8_gather 74 = .ok (.getfield 27, 3) := by decide +kernel
theorem dX8_gather_77 : decode cX8_gather 77 = .ok (.iload_n 1, 1) := by decide +kernel
theorem dX8_gather_78 : decode cX8_gather 78 = .ok (.invokevirtual 64, 3) := by decide +kernel
theorem dX8_gather_81 : decode cX8_gather 81 = .ok (.aload_n 0, 1) := by decide +kernel
theorem dX8_gather_82 : decode cX8_gather 82 = .ok (.getfield 27, 3) := by decide +kernel
theorem dX8_gather_85 : decode cX8_gather 85 = .ok (.getfield 68, 3) := by decide +kernel
theorem dX8_gather_88 : decode cX8_gather 88 = .ok (.ifCond .le 34, 3) := by decide +kernel
theorem dX8_gather_91 : decode cX8_gather 91 = .ok (.aload_n 0, 1) := by decide +kernel
theorem dX8_gather_92 : decode cX8_gather 92 = .ok (.aload_n 0, 1) := by decide +kernel
theorem dX8_gather_93 : decode cX8_gather 93 = .ok (.getfield 27, 3) := by decide +kernel
theorem dX8_gather_96 : decode cX8_gather 96 = .ok (.getfield 68, 3) := by decide +kernel
theorem dX8_gather_99 : decode cX8_gather 99 = .ok (.aload_n 0, 1) := by decide +kernel
theorem dX8_gather_100 : decode cX8_gather 100 = .ok (.getfield 27, 3) := by decide +kernel
theorem dX8_gather_103 : decode cX8_gather 103 = .ok (.getfield 71, 3) := by decide +kernel
theorem dX8_gather_106 : decode cX8_gather 106 = .ok (.invokevirtual 74, 3) := by decide +kernel
theorem dX8_gather_109 : decode cX8_gather 109 = .ok (.iload_n 1, 1) := by decide +kernel
theorem dX8_gather_110 : decode cX8_gather 110 = .ok (.aload_n 0, 1) := by decide +kernel
theorem dX8_gather_111 : decode cX8_gather 111 = .ok (.getfield 27, 3) := by decide +kernel
theorem dX8_gather_114 : decode cX8_gather 114 = .ok (.getfield 68, 3) := by decide +kernel
theorem dX8_gather_117 : decode cX8_gather 117 = .ok (.iadd, 1) := by decide +kernel
theorem dX8_gather_118 : decode cX8_gather 118 = .ok (.istore_n 1, 1) := by decide +kernel
theorem dX8_gather_119 : decode cX8_gather 119 = .ok (.goto 18, 3) := by decide +kernel
theorem dX8_gather_122 : decode cX8_gather 122 = .ok (.aload_n 0, 1) := by decide +kernel
theorem dX8_gather_123 : decode cX8_gather 123 = .ok (.aload_n 0, 1) := by decide +kernel
theorem dX8_gather_124 : decode cX8_gather 124 = .ok (.getfield 18, 3) := by decide +kernel
theorem dX8_gather_127 : decode cX8_gather 127 = .ok (.iload_n 1, 1) := by decide +kernel
theorem dX8_gather_128 : decode cX8_gather 128 = .ok (.invokevirtual 78, 3) := by decide +kernel
theorem dX8_gather_131 : decode cX8_gather 131 = .ok (.invokevirtual 82, 3) := by decide +kernel
theorem dX8_gather_134 : decode cX8_gather 134 = .ok (.iinc 1 1, 3) := by decide +kernel
theorem dX8_gather_137 : decode cX8_gather 137 = .ok (.iinc 2 1, 3) := by decide +kernel
theorem dX8_gather_140 : decode cX8_gather 140 = .ok (.goto (-89), 3) := by decide +kernel
theorem dX8_gather_143 : decode cX8_gather 143 = .ok (.return_, 1) := by decide +kernel
def pX8_gather_b51 (o_symbolCounts_n : Nat) (o_distanceCounts_n : Nat) (o_text_bytes_n : Nat) (o_matcher_earlier_n : Nat) (o_tokens_n : Nat) (o_matcher_chain : Int32) (o_text_size : Int32) (o_text_bytes_v : Nat → Int32)  : Nat → Int32 → Int32 → Int32 → (Nat → Int32) → (Nat → Int32) → Int32 → Int32 → Int32 → (Nat → Int32) → (Nat → Int32) → (Nat → Int32) → Int32 → Int32 → Option (Int32 × Int32 × Int32 × (Nat → Int32) × (Nat → Int32) × Int32 × Int32 × Int32 × (Nat → Int32) × (Nat → Int32) × (Nat → Int32))
  | 0 => fun _ _ _ _ _ _ _ _ _ _ _ _ _ => none
  | n + 1 => fun o_size o_matches o_numberBits o_symbolCounts_v o_distanceCounts_v o_matcher_linked o_matcher_length o_matcher_distance o_matcher_latest_v o_matcher_earlier_v o_tokens_v x1 x2 =>
  if o_text_size ≤ x2 then
  (some (o_size, o_matches, o_numberBits, o_symbolCounts_v, o_distanceCounts_v, o_matcher_linked, o_matcher_length, o_matcher_distance, o_matcher_latest_v, o_matcher_earlier_v, o_tokens_v))
  else
  (if o_text_size ≤ x1 then
  (some (o_size, o_matches, o_numberBits, o_symbolCounts_v, o_distanceCounts_v, o_matcher_linked, o_matcher_length, o_matcher_distance, o_matcher_latest_v, o_matcher_earlier_v, o_tokens_v))
  else
  ((pX4_find o_matcher_earlier_n o_text_bytes_n o_matcher_chain o_text_size o_matcher_earlier_v o_text_bytes_v x1 o_matcher_distance).bind (fun u3 =>
  if u3.1 ≤ 0 then
  ((pX6_get o_text_bytes_n o_text_size o_text_bytes_v x1).bind (fun u5 =>
  (pX8_addByte o_tokens_n o_symbolCounts_n u5 o_size o_tokens_v o_symbolCounts_v).bind (fun u6 =>
  (pX8_gather_b51 o_symbolCounts_n o_distanceCounts_n o_text_bytes_n o_matcher_earlier_n o_tokens_n o_matcher_chain o_text_size o_text_bytes_v n) u6.1 o_matches o_numberBits u6.2.2 o_distanceCounts_v o_matcher_linked u3.1 u3.2 o_matcher_latest_v o_matcher_earlier_v u6.2.1 (x1 + (1 : Int32)) (x2 + (1 : Int32)))))
  else
  ((pX8_addMatch o_tokens_n o_symbolCounts_n o_distanceCounts_n u3.1 u3.2 o_size o_matches o_numberBits o_tokens_v o_symbolCounts_v o_distanceCounts_v).bind (fun u7 =>
  (pX8_gather_b51 o_symbolCounts_n o_distanceCounts_n o_text_bytes_n o_matcher_earlier_n o_tokens_n o_matcher_chain o_text_size o_text_bytes_v n) u7.1 u7.2.1 u7.2.2.1 u7.2.2.2.2.1 u7.2.2.2.2.2 o_matcher_linked u3.1 u3.2 o_matcher_latest_v o_matcher_earlier_v u7.2.2.2.1 (x1 + u3.1) (x2 + (1 : Int32)))))))
def pX8_gather (o_symbolCounts_n : Nat) (o_distanceCounts_n : Nat) (o_text_bytes_n : Nat) (o_matcher_latest_n : Nat) (o_matcher_earlier_n : Nat) (o_tokens_n : Nat) (o_matcher_chain : Int32) (o_text_size : Int32) (o_text_bytes_v : Nat → Int32)  (o_symbolCounts_v : Nat → Int32) (o_distanceCounts_v : Nat → Int32) (o_matcher_linked : Int32) (o_matcher_length : Int32) (o_matcher_distance : Int32) (o_matcher_latest_v : Nat → Int32) (o_matcher_earlier_v : Nat → Int32) (o_tokens_v : Nat → Int32) : Option (Int32 × Int32 × Int32 × (Nat → Int32) × (Nat → Int32) × Int32 × Int32 × Int32 × (Nat → Int32) × (Nat → Int32) × (Nat → Int32)) :=
  (pJ7_fill_53178 o_symbolCounts_n (0 : Int32) o_symbolCounts_v).bind (fun u8 =>
  (pJ7_fill_53178 o_distanceCounts_n (0 : Int32) o_distanceCounts_v).bind (fun u9 =>
  if (256 : Int32) < 0 ∨ o_symbolCounts_n ≤ ((256 : Int32)).toNatClampNeg then none else
  (pX4_link o_text_bytes_n o_matcher_latest_n o_matcher_earlier_n o_text_size o_text_bytes_v o_matcher_linked o_matcher_latest_v o_matcher_earlier_v).bind (fun u11 =>
  pX8_gather_b51 o_symbolCounts_n o_distanceCounts_n o_text_bytes_n o_matcher_earlier_n o_tokens_n o_matcher_chain o_text_size o_text_bytes_v fb_F (0 : Int32) (0 : Int32) (0 : Int32) (upd u8 ((256 : Int32)).toNatClampNeg (1 : Int32)) u9 u11.1 o_matcher_length o_matcher_distance u11.2.1 u11.2.2 o_tokens_v (0 : Int32) (0 : Int32))))
theorem hdX8_gather : yX8_gather.cls = RX8 ∧ yX8_gather.cls ≠ "java/lang/invoke/MethodHandle" ∧ yX8_gather.cls ≠ "java/lang/invoke/VarHandle" ∧ (parseMethodDescriptor yX8_gather.desc).map (fun d => d.parameters.length) = some 0 := by decide +kernel
set_option maxHeartbeats 8000000 in
set_option maxRecDepth 100000 in
theorem mX8_gather (l : Launch) (dC : Nat → ClassId) (dI : Nat → Nat → Nat) (o : Nat) (o_symbolCounts : Nat) (o_distanceCounts : Nat) (o_matcher : Nat) (o_text : Nat) (o_text_bytes : Nat) (o_matcher_latest : Nat) (o_matcher_earlier : Nat) (o_tokens : Nat) (o_symbolCounts_c : ClassId) (o_distanceCounts_c : ClassId) (o_text_bytes_c : ClassId) (o_matcher_latest_c : ClassId) (o_matcher_earlier_c : ClassId) (o_tokens_c : ClassId) (o_symbolCounts_n : Nat) (o_distanceCounts_n : Nat) (o_text_bytes_n : Nat) (o_matcher_latest_n : Nat) (o_matcher_earlier_n : Nat) (o_tokens_n : Nat) (o_size : Int32) (o_matches : Int32) (o_numberBits : Int32) (o_symbolCounts_v : Nat → Int32) (o_distanceCounts_v : Nat → Int32) (o_matcher_chain : Int32) (o_matcher_linked : Int32) (o_matcher_length : Int32) (o_matcher_distance : Int32) (o_text_size : Int32) (o_text_bytes_v : Nat → Int32) (o_matcher_latest_v : Nat → Int32) (o_matcher_earlier_v : Nat → Int32) (o_tokens_v : Nat → Int32)  (sz : Nat) (u : Int32 × Int32 × Int32 × (Nat → Int32) × (Nat → Int32) × Int32 × Int32 × Int32 × (Nat → Int32) × (Nat → Int32) × (Nat → Int32)) (h : pX8_gather o_symbolCounts_n o_distanceCounts_n o_text_bytes_n o_matcher_latest_n o_matcher_earlier_n o_tokens_n o_matcher_chain o_text_size o_text_bytes_v o_symbolCounts_v o_distanceCounts_v o_matcher_linked o_matcher_length o_matcher_distance o_matcher_latest_v o_matcher_earlier_v o_tokens_v = some u) : Met l yX8_gather (Cond.code yX8_gather cX8_gather 3 none :: fb_tb) ({ frames := 3, cells := 0, slots := 0, locals := 68 }) (fb_Pc (dC, dI) [.ref o] sz [(o_symbolCounts_c, .int), (o_distanceCounts_c, .int), (o_text_bytes_c, .byte), (o_matcher_latest_c, .int), (o_matcher_earlier_c, .int), (o_tokens_c, .int)] [(o, .inr (8, [.ref o_symbolCounts, .ref o_distanceCounts, .int o_size, .int o_matches, .int o_numberBits, .ref o_text, .ref o_matcher, .ref o_tokens])), (o_symbolCounts, .inl (o_symbolCounts_c, o_symbolCounts_n, .inl o_symbolCounts_v)), (o_distanceCounts, .inl (o_distanceCounts_c, o_distanceCounts_n, .inl o_distanceCounts_v)), (o_matcher, .inr (4, [.ref o_text, .int o_matcher_chain, .ref o_matcher_latest, .ref o_matcher_earlier, .int o_matcher_linked, .int o_matcher_length, .int o_matcher_distance])), (o_text, .inr (6, [.ref o_text_bytes, .int o_text_size])), (o_text_bytes, .inl (o_text_bytes_c, o_text_bytes_n, .inl o_text_bytes_v)), (o_matcher_latest, .inl (o_matcher_latest_c, o_matcher_latest_n, .inl o_matcher_latest_v)), (o_matcher_earlier, .inl (o_matcher_earlier_c, o_matcher_earlier_n, .inl o_matcher_earlier_v)), (o_tokens, .inl (o_tokens_c, o_tokens_n, .inl o_tokens_v))]) (fb_Qv (dC, dI) [(o, .inr (8, [.ref o_symbolCounts, .ref o_distanceCounts, .int u.1, .int u.2.1, .int u.2.2.1, .ref o_text, .ref o_matcher, .ref o_tokens])), (o_symbolCounts, .inl (o_symbolCounts_c, o_symbolCounts_n, .inl u.2.2.2.1)), (o_distanceCounts, .inl (o_distanceCounts_c, o_distanceCounts_n, .inl u.2.2.2.2.1)), (o_matcher, .inr (4, [.ref o_text, .int o_matcher_chain, .ref o_matcher_latest, .ref o_matcher_earlier, .int u.2.2.2.2.2.1, .int u.2.2.2.2.2.2.1, .int u.2.2.2.2.2.2.2.1])), (o_text, .inr (6, [.ref o_text_bytes, .int o_text_size])), (o_text_bytes, .inl (o_text_bytes_c, o_text_bytes_n, .inl o_text_bytes_v)), (o_matcher_latest, .inl (o_matcher_latest_c, o_matcher_latest_n, .inl u.2.2.2.2.2.2.2.2.1)), (o_matcher_earlier, .inl (o_matcher_earlier_c, o_matcher_earlier_n, .inl u.2.2.2.2.2.2.2.2.2.1)), (o_tokens, .inl (o_tokens_c, o_tokens_n, .inl u.2.2.2.2.2.2.2.2.2.2))] (va_A [(o, .inr (8, [.ref o_symbolCounts, .ref o_distanceCounts, .int o_size, .int o_matches, .int o_numberBits, .ref o_text, .ref o_matcher, .ref o_tokens])), (o_symbolCounts, .inl (o_symbolCounts_c, o_symbolCounts_n, .inl o_symbolCounts_v)), (o_distanceCounts, .inl (o_distanceCounts_c, o_distanceCounts_n, .inl o_distanceCounts_v)), (o_matcher, .inr (4, [.ref o_text, .int o_matcher_chain, .ref o_matcher_latest, .ref o_matcher_earlier, .int o_matcher_linked, .int o_matcher_length, .int o_matcher_distance])), (o_text, .inr (6, [.ref o_text_bytes, .int o_text_size])), (o_text_bytes, .inl (o_text_bytes_c, o_text_bytes_n, .inl o_text_bytes_v)), (o_matcher_latest, .inl (o_matcher_latest_c, o_matcher_latest_n, .inl o_matcher_latest_v)), (o_matcher_earlier, .inl (o_matcher_earlier_c, o_matcher_earlier_n, .inl o_matcher_earlier_v)), (o_tokens, .inl (o_tokens_c, o_tokens_n, .inl o_tokens_v))] sz)) 0 0 (va_A [(o, .inr (8, [.ref o_symbolCounts, .ref o_distanceCounts, .int o_size, .int o_matches, .int o_numberBits, .ref o_text, .ref o_matcher, .ref o_tokens])), (o_symbolCounts, .inl (o_symbolCounts_c, o_symbolCounts_n, .inl o_symbolCounts_v)), (o_distanceCounts, .inl (o_distanceCounts_c, o_distanceCounts_n, .inl o_distanceCounts_v)), (o_matcher, .inr (4, [.ref o_text, .int o_matcher_chain, .ref o_matcher_latest, .ref o_matcher_earlier, .int o_matcher_linked, .int o_matcher_length, .int o_matcher_distance])), (o_text, .inr (6, [.ref o_text_bytes, .int o_text_size])), (o_text_bytes, .inl (o_text_bytes_c, o_text_bytes_n, .inl o_text_bytes_v)), (o_matcher_latest, .inl (o_matcher_latest_c, o_matcher_latest_n, .inl o_matcher_latest_v)), (o_matcher_earlier, .inl (o_matcher_earlier_c, o_matcher_earlier_n, .inl o_matcher_earlier_v)), (o_tokens, .inl (o_tokens_c, o_tokens_n, .inl o_tokens_v))] sz) := by
  refine fb_metv (by decide) (Nat.le_of_ble_eq_true rfl) (fun p e s m args below meth c A Q ls H hx hb hml hown hts hP hK hN hZ hD hA hS hret hl => ?_)
  replace hl : lv_has ls 3 [(0, .ref o)] := hl
  have wB51 : ∀ n : Nat, ∀ (o_size : Int32) (o_matches : Int32) (o_numberBits : Int32) (o_symbolCounts_v : Nat → Int32) (o_distanceCounts_v : Nat → Int32) (o_matcher_linked : Int32) (o_matcher_length : Int32) (o_matcher_distance : Int32) (o_matcher_latest_v : Nat → Int32) (o_matcher_earlier_v : Nat → Int32) (o_tokens_v : Nat → Int32) (x1 : Int32) (x2 : Int32) (H : Heap) (locs : List Loc) (ls : Array Slot), va_P (dC, dI) fb_cl [(o, .inr (8, [.ref o_symbolCounts, .ref o_distanceCounts, .int o_size, .int o_matches, .int o_numberBits, .ref o_text, .ref o_matcher, .ref o_tokens])), (o_symbolCounts, .inl (o_symbolCounts_c, o_symbolCounts_n, .inl o_symbolCounts_v)), (o_distanceCounts, .inl (o_distanceCounts_c, o_distanceCounts_n, .inl o_distanceCounts_v)), (o_matcher, .inr (4, [.ref o_text, .int o_matcher_chain, .ref o_matcher_latest, .ref o_matcher_earlier, .int o_matcher_linked, .int o_matcher_length, .int o_matcher_distance])), (o_text, .inr (6, [.ref o_text_bytes, .int o_text_size])), (o_text_bytes, .inl (o_text_bytes_c, o_text_bytes_n, .inl o_text_bytes_v)), (o_matcher_latest, .inl (o_matcher_latest_c, o_matcher_latest_n, .inl o_matcher_latest_v)), (o_matcher_earlier, .inl (o_matcher_earlier_c, o_matcher_earlier_n, .inl o_matcher_earlier_v)), (o_tokens, .inl (o_tokens_c, o_tokens_n, .inl o_tokens_v))] H → va_D A [(o, .inr (8, [.ref o_symbolCounts, .ref o_distanceCounts, .int o_size, .int o_matches, .int o_numberBits, .ref o_text, .ref o_matcher, .ref o_tokens])), (o_symbolCounts, .inl (o_symbolCounts_c, o_symbolCounts_n, .inl o_symbolCounts_v)), (o_distanceCounts, .inl (o_distanceCounts_c, o_distanceCounts_n, .inl o_distanceCounts_v)), (o_matcher, .inr (4, [.ref o_text, .int o_matcher_chain, .ref o_matcher_latest, .ref o_matcher_earlier, .int o_matcher_linked, .int o_matcher_length, .int o_matcher_distance])), (o_text, .inr (6, [.ref o_text_bytes, .int o_text_size])), (o_text_bytes, .inl (o_text_bytes_c, o_text_bytes_n, .inl o_text_bytes_v)), (o_matcher_latest, .inl (o_matcher_latest_c, o_matcher_latest_n, .inl o_matcher_latest_v)), (o_matcher_earlier, .inl (o_matcher_earlier_c, o_matcher_earlier_n, .inl o_matcher_earlier_v)), (o_tokens, .inl (o_tokens_c, o_tokens_n, .inl o_tokens_v))] → va_S A s.heap H locs → lv_has ls 3 [(0, .ref o), (1, .int x1), (2, .int x2)] → pX8_gather_b51 o_symbolCounts_n o_distanceCounts_n o_text_bytes_n o_matcher_earlier_n o_tokens_n o_matcher_chain o_text_size o_text_bytes_v n o_size o_matches o_numberBits o_symbolCounts_v o_distanceCounts_v o_matcher_linked o_matcher_length o_matcher_distance o_matcher_latest_v o_matcher_earlier_v o_tokens_v x1 x2 = some u → W p l e ({ frames := 3, cells := 0, slots := 0, locals := 68 }) s m args below meth c H locs 0 0 Q (F0 m 51 ls []) := by
    intro n
    induction n with
    | zero => intro o_size o_matches o_numberBits o_symbolCounts_v o_distanceCounts_v o_matcher_linked o_matcher_length o_matcher_distance o_matcher_latest_v o_matcher_earlier_v o_tokens_v x1 x2 H locs ls hP hD hS hl h; cases h
    | succ n ih =>
      intro o_size o_matches o_numberBits o_symbolCounts_v o_distanceCounts_v o_matcher_linked o_matcher_length o_matcher_distance o_matcher_latest_v o_matcher_earlier_v o_tokens_v x1 x2 H locs ls hP hD hS hl h
      rw [pX8_gather_b51] at h
      refine lv_iload_n hx hb dX8_gather_51 rfl (lv_at hl 2 rfl) ?_
      refine lv_aload_n hx hb dX8_gather_52 rfl (lv_at hl 0 rfl) ?_
      refine va_get (D := (dC, dI)) (ci := 8) (v := .ref o_text) (C := RX8) (T := TX8) (N := 8) hx hb hts i_X8 hown hK hP 0 rfl rfl 5 (by decide) (hts _ k_273) (fun _ h9 => h9) rfl dX8_gather_53 ?_
      refine va_get (D := (dC, dI)) (ci := 6) (v := .int o_text_size) (C := RX6) (T := TX6) (N := 2) hx hb hts i_X6 hown hK hP 4 rfl rfl 1 (by decide) (hts _ k_110) (fun _ h9 => h9) rfl dX8_gather_56 ?_
      refine lv_icmp_ge (tgt := 143) hx hb dX8_gather_59 (by decide) (fun c1 => ?_) (fun c1 => ?_)
      · replace h := fb_t c1 h
        have hu := Option.some.inj h
        exact hret _ _ _ _ dX8_gather_143 (by rw [← hu]; exact hP) (by rw [← hu]; exact hD) hS
      · replace h := fb_f c1 h
        refine lv_iload_n hx hb dX8_gather_62 rfl (lv_at hl 1 rfl) ?_
        refine lv_aload_n hx hb dX8_gather_63 rfl (lv_at hl 0 rfl) ?_
        refine va_get (D := (dC, dI)) (ci := 8) (v := .ref o_text) (C := RX8) (T := TX8) (N := 8) hx hb hts i_X8 hown hK hP 0 rfl rfl 5 (by decide) (hts _ k_273) (fun _ h9 => h9) rfl dX8_gather_64 ?_
        refine va_get (D := (dC, dI)) (ci := 6) (v := .int o_text_size) (C := RX6) (T := TX6) (N := 2) hx hb hts i_X6 hown hK hP 4 rfl rfl 1 (by decide) (hts _ k_110) (fun _ h9 => h9) rfl dX8_gather_67 ?_
        refine lv_icmp_ge (tgt := 143) hx hb dX8_gather_70 (by decide) (fun c2 => ?_) (fun c2 => ?_)
        · replace h := fb_t c2 h
          have hu := Option.some.inj h
          exact hret _ _ _ _ dX8_gather_143 (by rw [← hu]; exact hP) (by rw [← hu]; exact hD) hS
        · replace h := fb_f c2 h
          refine lv_aload_n hx hb dX8_gather_73 rfl (lv_at hl 0 rfl) ?_
          refine va_get (D := (dC, dI)) (ci := 8) (v := .ref o_matcher) (C := RX8) (T := TX8) (N := 8) hx hb hts i_X8 hown hK hP 0 rfl rfl 6 (by decide) (hts _ k_274) (fun _ h9 => h9) rfl dX8_gather_74 ?_
          refine lv_iload_n hx hb dX8_gather_77 rfl (lv_at hl 1 rfl) ?_
          obtain ⟨u3, e3, h⟩ := fb_b h
          refine fb_cv (wc := [(o_matcher, .inr (4, [.ref o_text, .int o_matcher_chain, .ref o_matcher_latest, .ref o_matcher_earlier, .int o_matcher_linked, .int o_matcher_length, .int o_matcher_distance])), (o_text, .inr (6, [.ref o_text_bytes, .int o_text_size])), (o_matcher_earlier, .inl (o_matcher_earlier_c, o_matcher_earlier_n, .inl o_matcher_earlier_v)), (o_text_bytes, .inl (o_text_bytes_c, o_text_bytes_n, .inl o_text_bytes_v))]) (wr := [(o, .inr (8, [.ref o_symbolCounts, .ref o_distanceCounts, .int o_size, .int o_matches, .int o_numberBits, .ref o_text, .ref o_matcher, .ref o_tokens])), (o_symbolCounts, .inl (o_symbolCounts_c, o_symbolCounts_n, .inl o_symbolCounts_v)), (o_distanceCounts, .inl (o_distanceCounts_c, o_distanceCounts_n, .inl o_distanceCounts_v)), (o_matcher_latest, .inl (o_matcher_latest_c, o_matcher_latest_n, .inl o_matcher_latest_v)), (o_tokens, .inl (o_tokens_c, o_tokens_n, .inl o_tokens_v))]) (w1 := [(o_matcher, .inr (4, [.ref o_text, .int o_matcher_chain, .ref o_matcher_latest, .ref o_matcher_earlier, .int o_matcher_linked, .int u3.1, .int u3.2])), (o_text, .inr (6, [.ref o_text_bytes, .int o_text_size])), (o_matcher_earlier, .inl (o_matcher_earlier_c, o_matcher_earlier_n, .inl o_matcher_earlier_v)), (o_text_bytes, .inl (o_text_bytes_c, o_text_bytes_n, .inl o_text_bytes_v))]) (ws' := [(o, .inr (8, [.ref o_symbolCounts, .ref o_distanceCounts, .int o_size, .int o_matches, .int o_numberBits, .ref o_text, .ref o_matcher, .ref o_tokens])), (o_symbolCounts, .inl (o_symbolCounts_c, o_symbolCounts_n, .inl o_symbolCounts_v)), (o_distanceCounts, .inl (o_distanceCounts_c, o_distanceCounts_n, .inl o_distanceCounts_v)), (o_matcher, .inr (4, [.ref o_text, .int o_matcher_chain, .ref o_matcher_latest, .ref o_matcher_earlier, .int o_matcher_linked, .int u3.1, .int u3.2])), (o_text, .inr (6, [.ref o_text_bytes, .int o_text_size])), (o_text_bytes, .inl (o_text_bytes_c, o_text_bytes_n, .inl o_text_bytes_v)), (o_matcher_latest, .inl (o_matcher_latest_c, o_matcher_latest_n, .inl o_matcher_latest_v)), (o_matcher_earlier, .inl (o_matcher_earlier_c, o_matcher_earlier_n, .inl o_matcher_earlier_v)), (o_tokens, .inl (o_tokens_c, o_tokens_n, .inl o_tokens_v))]) (va_runV (As := [.int x1]) (rest := []) ⟨hx, hb, hml, hown, hts⟩ (mX4_find l dC dI o_matcher o_text o_matcher_earlier o_text_bytes o_matcher_latest o_matcher_earlier_c o_text_bytes_c o_matcher_earlier_n o_text_bytes_n o_matcher_chain o_matcher_linked o_matcher_length o_matcher_distance o_text_size o_matcher_earlier_v o_text_bytes_v x1 H.size u3 e3) (cwV 1 hts (fb_GV k_453 k_454 k_455 k_70 k_456) rfl rfl rfl hdX4_find ⟨Nat.le_of_ble_eq_true rfl, Nat.le_of_ble_eq_true rfl⟩) (fb_pV hP hD hS hA hK hN hZ [3, 4, 7, 5] rfl rfl [4, 2] rfl (q0 := 3) (ci := 4) rfl rfl) rfl rfl hl.1 rfl (lv_room (Nat.le_of_ble_eq_true rfl)) dX8_gather_78 ⟨Nat.le_of_ble_eq_true rfl, Nat.le_of_ble_eq_true rfl⟩) hP hD hS hA [3, 4, 7, 5] [0, 1, 2, 6, 8] rfl rfl rfl (by decide) [0, 1, 2, 5, 6, 8, 3, 7, 4] rfl rfl (fun H locs hP hD hS => ?_)
          refine lv_aload_n hx hb dX8_gather_81 rfl (lv_at hl 0 rfl) ?_
          refine va_get (D := (dC, dI)) (ci := 8) (v := .ref o_matcher) (C := RX8) (T := TX8) (N := 8) hx hb hts i_X8 hown hK hP 0 rfl rfl 6 (by decide) (hts _ k_274) (fun _ h9 => h9) rfl dX8_gather_82 ?_
          refine va_get (D := (dC, dI)) (ci := 4) (v := .int u3.1) (C := RX4) (T := TX4) (N := 7) hx hb hts i_X4 hown hK hP 3 rfl rfl 5 (by decide) (hts _ k_244) (fun _ h9 => h9) rfl dX8_gather_85 ?_
          refine lv_if_le (tgt := 122) hx hb dX8_gather_88 (by decide) (fun c4 => ?_) (fun c4 => ?_)
          · replace h := fb_t c4 h
            refine lv_aload_n hx hb dX8_gather_122 rfl (lv_at hl 0 rfl) ?_
            refine lv_aload_n hx hb dX8_gather_123 rfl (lv_at hl 0 rfl) ?_
            refine va_get (D := (dC, dI)) (ci := 8) (v := .ref o_text) (C := RX8) (T := TX8) (N := 8) hx hb hts i_X8 hown hK hP 0 rfl rfl 5 (by decide) (hts _ k_273) (fun _ h9 => h9) rfl dX8_gather_124 ?_
            refine lv_iload_n hx hb dX8_gather_127 rfl (lv_at hl 1 rfl) ?_
            obtain ⟨u5, e5, h⟩ := fb_b h
            refine fb_ci (wc := [(o_text, .inr (6, [.ref o_text_bytes, .int o_text_size])), (o_text_bytes, .inl (o_text_bytes_c, o_text_bytes_n, .inl o_text_bytes_v))]) (wr := [(o, .inr (8, [.ref o_symbolCounts, .ref o_distanceCounts, .int o_size, .int o_matches, .int o_numberBits, .ref o_text, .ref o_matcher, .ref o_tokens])), (o_symbolCounts, .inl (o_symbolCounts_c, o_symbolCounts_n, .inl o_symbolCounts_v)), (o_distanceCounts, .inl (o_distanceCounts_c, o_distanceCounts_n, .inl o_distanceCounts_v)), (o_matcher, .inr (4, [.ref o_text, .int o_matcher_chain, .ref o_matcher_latest, .ref o_matcher_earlier, .int o_matcher_linked, .int u3.1, .int u3.2])), (o_matcher_latest, .inl (o_matcher_latest_c, o_matcher_latest_n, .inl o_matcher_latest_v)), (o_matcher_earlier, .inl (o_matcher_earlier_c, o_matcher_earlier_n, .inl o_matcher_earlier_v)), (o_tokens, .inl (o_tokens_c, o_tokens_n, .inl o_tokens_v))]) (w1 := [(o_text, .inr (6, [.ref o_text_bytes, .int o_text_size])), (o_text_bytes, .inl (o_text_bytes_c, o_text_bytes_n, .inl o_text_bytes_v))]) (ws' := [(o, .inr (8, [.ref o_symbolCounts, .ref o_distanceCounts, .int o_size, .int o_matches, .int o_numberBits, .ref o_text, .ref o_matcher, .ref o_tokens])), (o_symbolCounts, .inl (o_symbolCounts_c, o_symbolCounts_n, .inl o_symbolCounts_v)), (o_distanceCounts, .inl (o_distanceCounts_c, o_distanceCounts_n, .inl o_distanceCounts_v)), (o_matcher, .inr (4, [.ref o_text, .int o_matcher_chain, .ref o_matcher_latest, .ref o_matcher_earlier, .int o_matcher_linked, .int u3.1, .int u3.2])), (o_text, .inr (6, [.ref o_text_bytes, .int o_text_size])), (o_text_bytes, .inl (o_text_bytes_c, o_text_bytes_n, .inl o_text_bytes_v)), (o_matcher_latest, .inl (o_matcher_latest_c, o_matcher_latest_n, .inl o_matcher_latest_v)), (o_matcher_earlier, .inl (o_matcher_earlier_c, o_matcher_earlier_n, .inl o_matcher_earlier_v)), (o_tokens, .inl (o_tokens_c, o_tokens_n, .inl o_tokens_v))]) (va_runV (As := [.int x1]) (rest := [.ref o]) ⟨hx, hb, hml, hown, hts⟩ (mX6_get l dC dI o_text o_text_bytes o_text_bytes_c o_text_bytes_n o_text_size o_text_bytes_v x1 H.size u5 e5) (cwV 1 hts (fb_GV k_482 k_449 k_450 k_64 k_451) rfl rfl rfl hdX6_get ⟨Nat.le_of_ble_eq_true rfl, Nat.le_of_ble_eq_true rfl⟩) (fb_pV hP hD hS hA hK hN hZ [4, 5] rfl rfl [2] rfl (q0 := 4) (ci := 6) rfl rfl) rfl rfl hl.1 rfl (lv_room (Nat.le_of_ble_eq_true rfl)) dX8_gather_128 ⟨Nat.le_of_ble_eq_true rfl, Nat.le_of_ble_eq_true rfl⟩) hP hD hS hA [4, 5] [0, 1, 2, 3, 6, 7, 8] rfl rfl rfl (by decide) [0, 1, 2, 3, 7, 8, 4, 5, 6] rfl rfl (fun H locs hP hD hS => ?_)
            obtain ⟨u6, e6, h⟩ := fb_b h
            refine fb_cv (wc := [(o, .inr (8, [.ref o_symbolCounts, .ref o_distanceCounts, .int o_size, .int o_matches, .int o_numberBits, .ref o_text, .ref o_matcher, .ref o_tokens])), (o_tokens, .inl (o_tokens_c, o_tokens_n, .inl o_tokens_v)), (o_symbolCounts, .inl (o_symbolCounts_c, o_symbolCounts_n, .inl o_symbolCounts_v))]) (wr := [(o_distanceCounts, .inl (o_distanceCounts_c, o_distanceCounts_n, .inl o_distanceCounts_v)), (o_matcher, .inr (4, [.ref o_text, .int o_matcher_chain, .ref o_matcher_latest, .ref o_matcher_earlier, .int o_matcher_linked, .int u3.1, .int u3.2])), (o_text, .inr (6, [.ref o_text_bytes, .int o_text_size])), (o_text_bytes, .inl (o_text_bytes_c, o_text_bytes_n, .inl o_text_bytes_v)), (o_matcher_latest, .inl (o_matcher_latest_c, o_matcher_latest_n, .inl o_matcher_latest_v)), (o_matcher_earlier, .inl (o_matcher_earlier_c, o_matcher_earlier_n, .inl o_matcher_earlier_v))]) (w1 := [(o, .inr (8, [.ref o_symbolCounts, .ref o_distanceCounts, .int u6.1, .int o_matches, .int o_numberBits, .ref o_text, .ref o_matcher, .ref o_tokens])), (o_tokens, .inl (o_tokens_c, o_tokens_n, .inl u6.2.1)), (o_symbolCounts, .inl (o_symbolCounts_c, o_symbolCounts_n, .inl u6.2.2))]) (ws' := [(o, .inr (8, [.ref o_symbolCounts, .ref o_distanceCounts, .int u6.1, .int o_matches, .int o_numberBits, .ref o_text, .ref o_matcher, .ref o_tokens])), (o_symbolCounts, .inl (o_symbolCounts_c, o_symbolCounts_n, .inl u6.2.2)), (o_distanceCounts, .inl (o_distanceCounts_c, o_distanceCounts_n, .inl o_distanceCounts_v)), (o_matcher, .inr (4, [.ref o_text, .int o_matcher_chain, .ref o_matcher_latest, .ref o_matcher_earlier, .int o_matcher_linked, .int u3.1, .int u3.2])), (o_text, .inr (6, [.ref o_text_bytes, .int o_text_size])), (o_text_bytes, .inl (o_text_bytes_c, o_text_bytes_n, .inl o_text_bytes_v)), (o_matcher_latest, .inl (o_matcher_latest_c, o_matcher_latest_n, .inl o_matcher_latest_v)), (o_matcher_earlier, .inl (o_matcher_earlier_c, o_matcher_earlier_n, .inl o_matcher_earlier_v)), (o_tokens, .inl (o_tokens_c, o_tokens_n, .inl u6.2.1))]) (va_runV (As := [.int u5]) (rest := []) ⟨hx, hb, hml, hown, hts⟩ (mX8_addByte l dC dI o o_tokens o_symbolCounts o_distanceCounts o_text o_matcher o_tokens_c o_symbolCounts_c o_tokens_n o_symbolCounts_n o_size o_matches o_numberBits o_tokens_v o_symbolCounts_v u5 H.size u6 e6) (cwV 1 hts (fb_GV k_483 k_485 k_4 k_69 k_486) rfl rfl rfl hdX8_addByte ⟨Nat.le_of_ble_eq_true rfl, Nat.le_of_ble_eq_true rfl⟩) (fb_pV hP hD hS hA hK hN hZ [0, 8, 1] rfl rfl [5, 0] rfl (q0 := 0) (ci := 8) rfl rfl) rfl rfl hl.1 rfl (lv_room (Nat.le_of_ble_eq_true rfl)) dX8_gather_131 ⟨Nat.le_of_ble_eq_true rfl, Nat.le_of_ble_eq_true rfl⟩) hP hD hS hA [0, 8, 1] [2, 3, 4, 5, 6, 7] rfl rfl rfl (by decide) [6, 8, 0, 1, 2, 3, 4, 5, 7] rfl rfl (fun H locs hP hD hS => ?_)
            refine lv_iinc (v := (x1 + (1 : Int32))) (lv' := [(1, .int (x1 + (1 : Int32))), (0, .ref o), (2, .int x2)]) hx hb dX8_gather_134 hl (k := 1) rfl rfl (by decide) rfl (fun ls hl => ?_)
            refine lv_iinc (v := (x2 + (1 : Int32))) (lv' := [(2, .int (x2 + (1 : Int32))), (1, .int (x1 + (1 : Int32))), (0, .ref o)]) hx hb dX8_gather_137 hl (k := 2) rfl rfl (by decide) rfl (fun ls hl => ?_)
            refine lv_goto (tgt := 51) hx hb dX8_gather_140 (by decide) ?_
            exact ih u6.1 o_matches o_numberBits u6.2.2 o_distanceCounts_v o_matcher_linked u3.1 u3.2 o_matcher_latest_v o_matcher_earlier_v u6.2.1 (x1 + (1 : Int32)) (x2 + (1 : Int32)) _ _ _ hP hD hS (lv_sub hl [2, 1, 0] rfl) h
          · replace h := fb_f c4 h
            refine lv_aload_n hx hb dX8_gather_91 rfl (lv_at hl 0 rfl) ?_
            refine lv_aload_n hx hb dX8_gather_92 rfl (lv_at hl 0 rfl) ?_
            refine va_get (D := (dC, dI)) (ci := 8) (v := .ref o_matcher) (C := RX8) (T := TX8) (N := 8) hx hb hts i_X8 hown hK hP 0 rfl rfl 6 (by decide) (hts _ k_274) (fun _ h9 => h9) rfl dX8_gather_93 ?_
            refine va_get (D := (dC, dI)) (ci := 4) (v := .int u3.1) (C := RX4) (T := TX4) (N := 7) hx hb hts i_X4 hown hK hP 3 rfl rfl 5 (by decide) (hts _ k_244) (fun _ h9 => h9) rfl dX8_gather_96 ?_
            refine lv_aload_n hx hb dX8_gather_99 rfl (lv_at hl 0 rfl) ?_
            refine va_get (D := (dC, dI)) (ci := 8) (v := .ref o_matcher) (C := RX8) (T := TX8) (N := 8) hx hb hts i_X8 hown hK hP 0 rfl rfl 6 (by decide) (hts _ k_274) (fun _ h9 => h9) rfl dX8_gather_100 ?_
            refine va_get (D := (dC, dI)) (ci := 4) (v := .int u3.2) (C := RX4) (T := TX4) (N := 7) hx hb hts i_X4 hown hK hP 3 rfl rfl 6 (by decide) (hts _ k_246) (fun _ h9 => h9) rfl dX8_gather_103 ?_
            obtain ⟨u7, e7, h⟩ := fb_b h
            refine fb_cv (wc := [(o, .inr (8, [.ref o_symbolCounts, .ref o_distanceCounts, .int o_size, .int o_matches, .int o_numberBits, .ref o_text, .ref o_matcher, .ref o_tokens])), (o_tokens, .inl (o_tokens_c, o_tokens_n, .inl o_tokens_v)), (o_symbolCounts, .inl (o_symbolCounts_c, o_symbolCounts_n, .inl o_symbolCounts_v)), (o_distanceCounts, .inl (o_distanceCounts_c, o_distanceCounts_n, .inl o_distanceCounts_v))]) (wr := [(o_matcher, .inr (4, [.ref o_text, .int o_matcher_chain, .ref o_matcher_latest, .ref o_matcher_earlier, .int o_matcher_linked, .int u3.1, .int u3.2])), (o_text, .inr (6, [.ref o_text_bytes, .int o_text_size])), (o_text_bytes, .inl (o_text_bytes_c, o_text_bytes_n, .inl o_text_bytes_v)), (o_matcher_latest, .inl (o_matcher_latest_c, o_matcher_latest_n, .inl o_matcher_latest_v)), (o_matcher_earlier, .inl (o_matcher_earlier_c, o_matcher_earlier_n, .inl o_matcher_earlier_v))]) (w1 := [(o, .inr (8, [.ref o_symbolCounts, .ref o_distanceCounts, .int u7.1, .int u7.2.1, .int u7.2.2.1, .ref o_text, .ref o_matcher, .ref o_tokens])), (o_tokens, .inl (o_tokens_c, o_tokens_n, .inl u7.2.2.2.1)), (o_symbolCounts, .inl (o_symbolCounts_c, o_symbolCounts_n, .inl u7.2.2.2.2.1)), (o_distanceCounts, .inl (o_distanceCounts_c, o_distanceCounts_n, .inl u7.2.2.2.2.2))]) (ws' := [(o, .inr (8, [.ref o_symbolCounts, .ref o_distanceCounts, .int u7.1, .int u7.2.1, .int u7.2.2.1, .ref o_text, .ref o_matcher, .ref o_tokens])), (o_symbolCounts, .inl (o_symbolCounts_c, o_symbolCounts_n, .inl u7.2.2.2.2.1)), (o_distanceCounts, .inl (o_distanceCounts_c, o_distanceCounts_n, .inl u7.2.2.2.2.2)), (o_matcher, .inr (4, [.ref o_text, .int o_matcher_chain, .ref o_matcher_latest, .ref o_matcher_earlier, .int o_matcher_linked, .int u3.1, .int u3.2])), (o_text, .inr (6, [.ref o_text_bytes, .int o_text_size])), (o_text_bytes, .inl (o_text_bytes_c, o_text_bytes_n, .inl o_text_bytes_v)), (o_matcher_latest, .inl (o_matcher_latest_c, o_matcher_latest_n, .inl o_matcher_latest_v)), (o_matcher_earlier, .inl (o_matcher_earlier_c, o_matcher_earlier_n, .inl o_matcher_earlier_v)), (o_tokens, .inl (o_tokens_c, o_tokens_n, .inl u7.2.2.2.1))]) (va_runV (As := [.int u3.1, .int u3.2]) (rest := []) ⟨hx, hb, hml, hown, hts⟩ (mX8_addMatch l dC dI o o_tokens o_symbolCounts o_distanceCounts o_text o_matcher o_tokens_c o_symbolCounts_c o_distanceCounts_c o_tokens_n o_symbolCounts_n o_distanceCounts_n o_size o_matches o_numberBits o_tokens_v o_symbolCounts_v o_distanceCounts_v u3.1 u3.2 H.size u7 e7) (cwV 2 hts (fb_GV k_463 k_465 k_3 k_69 k_466) rfl rfl rfl hdX8_addMatch ⟨Nat.le_of_ble_eq_true rfl, Nat.le_of_ble_eq_true rfl⟩) (fb_pV hP hD hS hA hK hN hZ [0, 8, 1, 2] rfl rfl [5, 0, 1] rfl (q0 := 0) (ci := 8) rfl rfl) rfl rfl hl.1 rfl (lv_room (Nat.le_of_ble_eq_true rfl)) dX8_gather_106 ⟨Nat.le_of_ble_eq_true rfl, Nat.le_of_ble_eq_true rfl⟩) hP hD hS hA [0, 8, 1, 2] [3, 4, 5, 6, 7] rfl rfl rfl (by decide) [5, 7, 8, 0, 1, 2, 3, 4, 6] rfl rfl (fun H locs hP hD hS => ?_)
            refine lv_iload_n hx hb dX8_gather_109 rfl (lv_at hl 1 rfl) ?_
            refine lv_aload_n hx hb dX8_gather_110 rfl (lv_at hl 0 rfl) ?_
            refine va_get (D := (dC, dI)) (ci := 8) (v := .ref o_matcher) (C := RX8) (T := TX8) (N := 8) hx hb hts i_X8 hown hK hP 0 rfl rfl 6 (by decide) (hts _ k_274) (fun _ h9 => h9) rfl dX8_gather_111 ?_
            refine va_get (D := (dC, dI)) (ci := 4) (v := .int u3.1) (C := RX4) (T := TX4) (N := 7) hx hb hts i_X4 hown hK hP 3 rfl rfl 5 (by decide) (hts _ k_244) (fun _ h9 => h9) rfl dX8_gather_114 ?_
            refine lv_iadd hx hb dX8_gather_117 ?_
            refine lv_istore_n (lv' := [(1, .int (x1 + u3.1)), (0, .ref o), (2, .int x2)]) hx hb dX8_gather_118 rfl hl (by decide) rfl (fun ls hl => ?_)
            refine lv_goto (tgt := 137) hx hb dX8_gather_119 (by decide) ?_
            refine lv_iinc (v := (x2 + (1 : Int32))) (lv' := [(2, .int (x2 + (1 : Int32))), (1, .int (x1 + u3.1)), (0, .ref o)]) hx hb dX8_gather_137 hl (k := 2) rfl rfl (by decide) rfl (fun ls hl => ?_)
            refine lv_goto (tgt := 51) hx hb dX8_gather_140 (by decide) ?_
            exact ih u7.1 u7.2.1 u7.2.2.1 u7.2.2.2.2.1 u7.2.2.2.2.2 o_matcher_linked u3.1 u3.2 o_matcher_latest_v o_matcher_earlier_v u7.2.2.2.1 (x1 + u3.1) (x2 + (1 : Int32)) _ _ _ hP hD hS (lv_sub hl [2, 1, 0] rfl) h
  unfold pX8_gather at h
  refine lv_aload_n hx hb dX8_gather_0 rfl (lv_at hl 0 rfl) ?_
  refine lv_iconst (v := (0 : Int32)) hx hb dX8_gather_1 (by decide) ?_
  refine va_put (D := (dC, dI)) (ci := 8) (v := .int (0 : Int32)) (ty := .int) (C := RX8) (T := TX8) (N := 8) hx hb hts i_X8 tyX8 tyX8_ok nmX8 hown hK hP hD hS 0 rfl rfl 2 (by decide) (hts _ k_267) (fun _ h9 => h9) rfl (by decide +kernel) rfl rfl (Nat.le_of_ble_eq_true rfl) dX8_gather_2 (fun H locs hP hD hS => ?_)
  replace hP : va_P (dC, dI) fb_cl [(o, .inr (8, [.ref o_symbolCounts, .ref o_distanceCounts, .int (0 : Int32), .int o_matches, .int o_numberBits, .ref o_text, .ref o_matcher, .ref o_tokens])), (o_symbolCounts, .inl (o_symbolCounts_c, o_symbolCounts_n, .inl o_symbolCounts_v)), (o_distanceCounts, .inl (o_distanceCounts_c, o_distanceCounts_n, .inl o_distanceCounts_v)), (o_matcher, .inr (4, [.ref o_text, .int o_matcher_chain, .ref o_matcher_latest, .ref o_matcher_earlier, .int o_matcher_linked, .int o_matcher_length, .int o_matcher_distance])), (o_text, .inr (6, [.ref o_text_bytes, .int o_text_size])), (o_text_bytes, .inl (o_text_bytes_c, o_text_bytes_n, .inl o_text_bytes_v)), (o_matcher_latest, .inl (o_matcher_latest_c, o_matcher_latest_n, .inl o_matcher_latest_v)), (o_matcher_earlier, .inl (o_matcher_earlier_c, o_matcher_earlier_n, .inl o_matcher_earlier_v)), (o_tokens, .inl (o_tokens_c, o_tokens_n, .inl o_tokens_v))] H := hP
  replace hD : va_D A [(o, .inr (8, [.ref o_symbolCounts, .ref o_distanceCounts, .int (0 : Int32), .int o_matches, .int o_numberBits, .ref o_text, .ref o_matcher, .ref o_tokens])), (o_symbolCounts, .inl (o_symbolCounts_c, o_symbolCounts_n, .inl o_symbolCounts_v)), (o_distanceCounts, .inl (o_distanceCounts_c, o_distanceCounts_n, .inl o_distanceCounts_v)), (o_matcher, .inr (4, [.ref o_text, .int o_matcher_chain, .ref o_matcher_latest, .ref o_matcher_earlier, .int o_matcher_linked, .int o_matcher_length, .int o_matcher_distance])), (o_text, .inr (6, [.ref o_text_bytes, .int o_text_size])), (o_text_bytes, .inl (o_text_bytes_c, o_text_bytes_n, .inl o_text_bytes_v)), (o_matcher_latest, .inl (o_matcher_latest_c, o_matcher_latest_n, .inl o_matcher_latest_v)), (o_matcher_earlier, .inl (o_matcher_earlier_c, o_matcher_earlier_n, .inl o_matcher_earlier_v)), (o_tokens, .inl (o_tokens_c, o_tokens_n, .inl o_tokens_v))] := hD
  refine lv_aload_n hx hb dX8_gather_5 rfl (lv_at hl 0 rfl) ?_
  refine lv_iconst (v := (0 : Int32)) hx hb dX8_gather_6 (by decide) ?_
  refine va_put (D := (dC, dI)) (ci := 8) (v := .int (0 : Int32)) (ty := .int) (C := RX8) (T := TX8) (N := 8) hx hb hts i_X8 tyX8 tyX8_ok nmX8 hown hK hP hD hS 0 rfl rfl 3 (by decide) (hts _ k_270) (fun _ h9 => h9) rfl (by decide +kernel) rfl rfl (Nat.le_of_ble_eq_true rfl) dX8_gather_7 (fun H locs hP hD hS => ?_)
  replace hP : va_P (dC, dI) fb_cl [(o, .inr (8, [.ref o_symbolCounts, .ref o_distanceCounts, .int (0 : Int32), .int (0 : Int32), .int o_numberBits, .ref o_text, .ref o_matcher, .ref o_tokens])), (o_symbolCounts, .inl (o_symbolCounts_c, o_symbolCounts_n, .inl o_symbolCounts_v)), (o_distanceCounts, .inl (o_distanceCounts_c, o_distanceCounts_n, .inl o_distanceCounts_v)), (o_matcher, .inr (4, [.ref o_text, .int o_matcher_chain, .ref o_matcher_latest, .ref o_matcher_earlier, .int o_matcher_linked, .int o_matcher_length, .int o_matcher_distance])), (o_text, .inr (6, [.ref o_text_bytes, .int o_text_size])), (o_text_bytes, .inl (o_text_bytes_c, o_text_bytes_n, .inl o_text_bytes_v)), (o_matcher_latest, .inl (o_matcher_latest_c, o_matcher_latest_n, .inl o_matcher_latest_v)), (o_matcher_earlier, .inl (o_matcher_earlier_c, o_matcher_earlier_n, .inl o_matcher_earlier_v)), (o_tokens, .inl (o_tokens_c, o_tokens_n, .inl o_tokens_v))] H := hP
  replace hD : va_D A [(o, .inr (8, [.ref o_symbolCounts, .ref o_distanceCounts, .int (0 : Int32), .int (0 : Int32), .int o_numberBits, .ref o_text, .ref o_matcher, .ref o_tokens])), (o_symbolCounts, .inl (o_symbolCounts_c, o_symbolCounts_n, .inl o_symbolCounts_v)), (o_distanceCounts, .inl (o_distanceCounts_c, o_distanceCounts_n, .inl o_distanceCounts_v)), (o_matcher, .inr (4, [.ref o_text, .int o_matcher_chain, .ref o_matcher_latest, .ref o_matcher_earlier, .int o_matcher_linked, .int o_matcher_length, .int o_matcher_distance])), (o_text, .inr (6, [.ref o_text_bytes, .int o_text_size])), (o_text_bytes, .inl (o_text_bytes_c, o_text_bytes_n, .inl o_text_bytes_v)), (o_matcher_latest, .inl (o_matcher_latest_c, o_matcher_latest_n, .inl o_matcher_latest_v)), (o_matcher_earlier, .inl (o_matcher_earlier_c, o_matcher_earlier_n, .inl o_matcher_earlier_v)), (o_tokens, .inl (o_tokens_c, o_tokens_n, .inl o_tokens_v))] := hD
  refine lv_aload_n hx hb dX8_gather_10 rfl (lv_at hl 0 rfl) ?_
  refine lv_iconst (v := (0 : Int32)) hx hb dX8_gather_11 (by decide) ?_
  refine va_put (D := (dC, dI)) (ci := 8) (v := .int (0 : Int32)) (ty := .int) (C := RX8) (T := TX8) (N := 8) hx hb hts i_X8 tyX8 tyX8_ok nmX8 hown hK hP hD hS 0 rfl rfl 4 (by decide) (hts _ k_271) (fun _ h9 => h9) rfl (by decide +kernel) rfl rfl (Nat.le_of_ble_eq_true rfl) dX8_gather_12 (fun H locs hP hD hS => ?_)
  replace hP : va_P (dC, dI) fb_cl [(o, .inr (8, [.ref o_symbolCounts, .ref o_distanceCounts, .int (0 : Int32), .int (0 : Int32), .int (0 : Int32), .ref o_text, .ref o_matcher, .ref o_tokens])), (o_symbolCounts, .inl (o_symbolCounts_c, o_symbolCounts_n, .inl o_symbolCounts_v)), (o_distanceCounts, .inl (o_distanceCounts_c, o_distanceCounts_n, .inl o_distanceCounts_v)), (o_matcher, .inr (4, [.ref o_text, .int o_matcher_chain, .ref o_matcher_latest, .ref o_matcher_earlier, .int o_matcher_linked, .int o_matcher_length, .int o_matcher_distance])), (o_text, .inr (6, [.ref o_text_bytes, .int o_text_size])), (o_text_bytes, .inl (o_text_bytes_c, o_text_bytes_n, .inl o_text_bytes_v)), (o_matcher_latest, .inl (o_matcher_latest_c, o_matcher_latest_n, .inl o_matcher_latest_v)), (o_matcher_earlier, .inl (o_matcher_earlier_c, o_matcher_earlier_n, .inl o_matcher_earlier_v)), (o_tokens, .inl (o_tokens_c, o_tokens_n, .inl o_tokens_v))] H := hP
  replace hD : va_D A [(o, .inr (8, [.ref o_symbolCounts, .ref o_distanceCounts, .int (0 : Int32), .int (0 : Int32), .int (0 : Int32), .ref o_text, .ref o_matcher, .ref o_tokens])), (o_symbolCounts, .inl (o_symbolCounts_c, o_symbolCounts_n, .inl o_symbolCounts_v)), (o_distanceCounts, .inl (o_distanceCounts_c, o_distanceCounts_n, .inl o_distanceCounts_v)), (o_matcher, .inr (4, [.ref o_text, .int o_matcher_chain, .ref o_matcher_latest, .ref o_matcher_earlier, .int o_matcher_linked, .int o_matcher_length, .int o_matcher_distance])), (o_text, .inr (6, [.ref o_text_bytes, .int o_text_size])), (o_text_bytes, .inl (o_text_bytes_c, o_text_bytes_n, .inl o_text_bytes_v)), (o_matcher_latest, .inl (o_matcher_latest_c, o_matcher_latest_n, .inl o_matcher_latest_v)), (o_matcher_earlier, .inl (o_matcher_earlier_c, o_matcher_earlier_n, .inl o_matcher_earlier_v)), (o_tokens, .inl (o_tokens_c, o_tokens_n, .inl o_tokens_v))] := hD
  refine lv_aload_n hx hb dX8_gather_15 rfl (lv_at hl 0 rfl) ?_
  refine va_get (D := (dC, dI)) (ci := 8) (v := .ref o_symbolCounts) (C := RX8) (T := TX8) (N := 8) hx hb hts i_X8 hown hK hP 0 rfl rfl 0 (by decide) (hts _ k_263) (fun _ h9 => h9) rfl dX8_gather_16 ?_
  refine lv_iconst (v := (0 : Int32)) hx hb dX8_gather_19 (by decide) ?_
  obtain ⟨u8, e8, h⟩ := fb_b h
  refine fb_cv (wc := [(o_symbolCounts, .inl (o_symbolCounts_c, o_symbolCounts_n, .inl o_symbolCounts_v))]) (wr := [(o, .inr (8, [.ref o_symbolCounts, .ref o_distanceCounts, .int (0 : Int32), .int (0 : Int32), .int (0 : Int32), .ref o_text, .ref o_matcher, .ref o_tokens])), (o_distanceCounts, .inl (o_distanceCounts_c, o_distanceCounts_n, .inl o_distanceCounts_v)), (o_matcher, .inr (4, [.ref o_text, .int o_matcher_chain, .ref o_matcher_latest, .ref o_matcher_earlier, .int o_matcher_linked, .int o_matcher_length, .int o_matcher_distance])), (o_text, .inr (6, [.ref o_text_bytes, .int o_text_size])), (o_text_bytes, .inl (o_text_bytes_c, o_text_bytes_n, .inl o_text_bytes_v)), (o_matcher_latest, .inl (o_matcher_latest_c, o_matcher_latest_n, .inl o_matcher_latest_v)), (o_matcher_earlier, .inl (o_matcher_earlier_c, o_matcher_earlier_n, .inl o_matcher_earlier_v)), (o_tokens, .inl (o_tokens_c, o_tokens_n, .inl o_tokens_v))]) (w1 := [(o_symbolCounts, .inl (o_symbolCounts_c, o_symbolCounts_n, .inl u8))]) (ws' := [(o, .inr (8, [.ref o_symbolCounts, .ref o_distanceCounts, .int (0 : Int32), .int (0 : Int32), .int (0 : Int32), .ref o_text, .ref o_matcher, .ref o_tokens])), (o_symbolCounts, .inl (o_symbolCounts_c, o_symbolCounts_n, .inl u8)), (o_distanceCounts, .inl (o_distanceCounts_c, o_distanceCounts_n, .inl o_distanceCounts_v)), (o_matcher, .inr (4, [.ref o_text, .int o_matcher_chain, .ref o_matcher_latest, .ref o_matcher_earlier, .int o_matcher_linked, .int o_matcher_length, .int o_matcher_distance])), (o_text, .inr (6, [.ref o_text_bytes, .int o_text_size])), (o_text_bytes, .inl (o_text_bytes_c, o_text_bytes_n, .inl o_text_bytes_v)), (o_matcher_latest, .inl (o_matcher_latest_c, o_matcher_latest_n, .inl o_matcher_latest_v)), (o_matcher_earlier, .inl (o_matcher_earlier_c, o_matcher_earlier_n, .inl o_matcher_earlier_v)), (o_tokens, .inl (o_tokens_c, o_tokens_n, .inl o_tokens_v))]) (va_runS (As := [.ref o_symbolCounts, .int (0 : Int32)]) (rest := []) ⟨hx, hb, hml, hown, hts⟩ (mJ7_fill_53178 l dC dI o_symbolCounts o_symbolCounts_c o_symbolCounts_n o_symbolCounts_v (0 : Int32) H.size u8 e8) (va_cwS 2 hts (fb_GSx k_437 k_438 k_75 k_439) rfl rfl rfl hdJ7_fill_53178 ⟨Nat.le_of_ble_eq_true rfl, Nat.le_of_ble_eq_true rfl⟩) (fb_pS hP hD hS hA hK hN hZ [1] rfl rfl [0] rfl) rfl rfl hl.1 rfl (lv_room (Nat.le_of_ble_eq_true rfl)) dX8_gather_20 ⟨Nat.le_of_ble_eq_true rfl, Nat.le_of_ble_eq_true rfl⟩) hP hD hS hA [1] [0, 2, 3, 4, 5, 6, 7, 8] rfl rfl rfl (by decide) [0, 8, 1, 2, 3, 4, 5, 6, 7] rfl rfl (fun H locs hP hD hS => ?_)
  refine lv_aload_n hx hb dX8_gather_23 rfl (lv_at hl 0 rfl) ?_
  refine va_get (D := (dC, dI)) (ci := 8) (v := .ref o_distanceCounts) (C := RX8) (T := TX8) (N := 8) hx hb hts i_X8 hown hK hP 0 rfl rfl 1 (by decide) (hts _ k_265) (fun _ h9 => h9) rfl dX8_gather_24 ?_
  refine lv_iconst (v := (0 : Int32)) hx hb dX8_gather_27 (by decide) ?_
  obtain ⟨u9, e9, h⟩ := fb_b h
  refine fb_cv (wc := [(o_distanceCounts, .inl (o_distanceCounts_c, o_distanceCounts_n, .inl o_distanceCounts_v))]) (wr := [(o, .inr (8, [.ref o_symbolCounts, .ref o_distanceCounts, .int (0 : Int32), .int (0 : Int32), .int (0 : Int32), .ref o_text, .ref o_matcher, .ref o_tokens])), (o_symbolCounts, .inl (o_symbolCounts_c, o_symbolCounts_n, .inl u8)), (o_matcher, .inr (4, [.ref o_text, .int o_matcher_chain, .ref o_matcher_latest, .ref o_matcher_earlier, .int o_matcher_linked, .int o_matcher_length, .int o_matcher_distance])), (o_text, .inr (6, [.ref o_text_bytes, .int o_text_size])), (o_text_bytes, .inl (o_text_bytes_c, o_text_bytes_n, .inl o_text_bytes_v)), (o_matcher_latest, .inl (o_matcher_latest_c, o_matcher_latest_n, .inl o_matcher_latest_v)), (o_matcher_earlier, .inl (o_matcher_earlier_c, o_matcher_earlier_n, .inl o_matcher_earlier_v)), (o_tokens, .inl (o_tokens_c, o_tokens_n, .inl o_tokens_v))]) (w1 := [(o_distanceCounts, .inl (o_distanceCounts_c, o_distanceCounts_n, .inl u9))]) (ws' := [(o, .inr (8, [.ref o_symbolCounts, .ref o_distanceCounts, .int (0 : Int32), .int (0 : Int32), .int (0 : Int32), .ref o_text, .ref o_matcher, .ref o_tokens])), (o_symbolCounts, .inl (o_symbolCounts_c, o_symbolCounts_n, .inl u8)), (o_distanceCounts, .inl (o_distanceCounts_c, o_distanceCounts_n, .inl u9)), (o_matcher, .inr (4, [.ref o_text, .int o_matcher_chain, .ref o_matcher_latest, .ref o_matcher_earlier, .int o_matcher_linked, .int o_matcher_length, .int o_matcher_distance])), (o_text, .inr (6, [.ref o_text_bytes, .int o_text_size])), (o_text_bytes, .inl (o_text_bytes_c, o_text_bytes_n, .inl o_text_bytes_v)), (o_matcher_latest, .inl (o_matcher_latest_c, o_matcher_latest_n, .inl o_matcher_latest_v)), (o_matcher_earlier, .inl (o_matcher_earlier_c, o_matcher_earlier_n, .inl o_matcher_earlier_v)), (o_tokens, .inl (o_tokens_c, o_tokens_n, .inl o_tokens_v))]) (va_runS (As := [.ref o_distanceCounts, .int (0 : Int32)]) (rest := []) ⟨hx, hb, hml, hown, hts⟩ (mJ7_fill_53178 l dC dI o_distanceCounts o_distanceCounts_c o_distanceCounts_n o_distanceCounts_v (0 : Int32) H.size u9 e9) (va_cwS 2 hts (fb_GSx k_437 k_438 k_75 k_439) rfl rfl rfl hdJ7_fill_53178 ⟨Nat.le_of_ble_eq_true rfl, Nat.le_of_ble_eq_true rfl⟩) (fb_pS hP hD hS hA hK hN hZ [2] rfl rfl [1] rfl) rfl rfl hl.1 rfl (lv_room (Nat.le_of_ble_eq_true rfl)) dX8_gather_28 ⟨Nat.le_of_ble_eq_true rfl, Nat.le_of_ble_eq_true rfl⟩) hP hD hS hA [2] [0, 1, 3, 4, 5, 6, 7, 8] rfl rfl rfl (by decide) [0, 1, 8, 2, 3, 4, 5, 6, 7] rfl rfl (fun H locs hP hD hS => ?_)
  refine lv_aload_n hx hb dX8_gather_31 rfl (lv_at hl 0 rfl) ?_
  refine va_get (D := (dC, dI)) (ci := 8) (v := .ref o_symbolCounts) (C := RX8) (T := TX8) (N := 8) hx hb hts i_X8 hown hK hP 0 rfl rfl 0 (by decide) (hts _ k_263) (fun _ h9 => h9) rfl dX8_gather_32 ?_
  refine lv_sipush (v := (256 : Int32)) hx hb dX8_gather_35 (by decide) ?_
  refine lv_iconst (v := (1 : Int32)) hx hb dX8_gather_38 (by decide) ?_
  obtain ⟨g10, h⟩ := fb_g h
  refine va_iast hx hb hK hP hD hS 1 0 rfl rfl g10 dX8_gather_39 (fun H locs hP hD hS => ?_)
  replace hP : va_P (dC, dI) fb_cl [(o, .inr (8, [.ref o_symbolCounts, .ref o_distanceCounts, .int (0 : Int32), .int (0 : Int32), .int (0 : Int32), .ref o_text, .ref o_matcher, .ref o_tokens])), (o_symbolCounts, .inl (o_symbolCounts_c, o_symbolCounts_n, .inl (upd u8 ((256 : Int32)).toNatClampNeg (1 : Int32)))), (o_distanceCounts, .inl (o_distanceCounts_c, o_distanceCounts_n, .inl u9)), (o_matcher, .inr (4, [.ref o_text, .int o_matcher_chain, .ref o_matcher_latest, .ref o_matcher_earlier, .int o_matcher_linked, .int o_matcher_length, .int o_matcher_distance])), (o_text, .inr (6, [.ref o_text_bytes, .int o_text_size])), (o_text_bytes, .inl (o_text_bytes_c, o_text_bytes_n, .inl o_text_bytes_v)), (o_matcher_latest, .inl (o_matcher_latest_c, o_matcher_latest_n, .inl o_matcher_latest_v)), (o_matcher_earlier, .inl (o_matcher_earlier_c, o_matcher_earlier_n, .inl o_matcher_earlier_v)), (o_tokens, .inl (o_tokens_c, o_tokens_n, .inl o_tokens_v))] H := hP
  replace hD : va_D A [(o, .inr (8, [.ref o_symbolCounts, .ref o_distanceCounts, .int (0 : Int32), .int (0 : Int32), .int (0 : Int32), .ref o_text, .ref o_matcher, .ref o_tokens])), (o_symbolCounts, .inl (o_symbolCounts_c, o_symbolCounts_n, .inl (upd u8 ((256 : Int32)).toNatClampNeg (1 : Int32)))), (o_distanceCounts, .inl (o_distanceCounts_c, o_distanceCounts_n, .inl u9)), (o_matcher, .inr (4, [.ref o_text, .int o_matcher_chain, .ref o_matcher_latest, .ref o_matcher_earlier, .int o_matcher_linked, .int o_matcher_length, .int o_matcher_distance])), (o_text, .inr (6, [.ref o_text_bytes, .int o_text_size])), (o_text_bytes, .inl (o_text_bytes_c, o_text_bytes_n, .inl o_text_bytes_v)), (o_matcher_latest, .inl (o_matcher_latest_c, o_matcher_latest_n, .inl o_matcher_latest_v)), (o_matcher_earlier, .inl (o_matcher_earlier_c, o_matcher_earlier_n, .inl o_matcher_earlier_v)), (o_tokens, .inl (o_tokens_c, o_tokens_n, .inl o_tokens_v))] := hD
  refine lv_aload_n hx hb dX8_gather_40 rfl (lv_at hl 0 rfl) ?_
  refine va_get (D := (dC, dI)) (ci := 8) (v := .ref o_matcher) (C := RX8) (T := TX8) (N := 8) hx hb hts i_X8 hown hK hP 0 rfl rfl 6 (by decide) (hts _ k_274) (fun _ h9 => h9) rfl dX8_gather_41 ?_
  obtain ⟨u11, e11, h⟩ := fb_b h
  refine fb_cv (wc := [(o_matcher, .inr (4, [.ref o_text, .int o_matcher_chain, .ref o_matcher_latest, .ref o_matcher_earlier, .int o_matcher_linked, .int o_matcher_length, .int o_matcher_distance])), (o_text, .inr (6, [.ref o_text_bytes, .int o_text_size])), (o_text_bytes, .inl (o_text_bytes_c, o_text_bytes_n, .inl o_text_bytes_v)), (o_matcher_latest, .inl (o_matcher_latest_c, o_matcher_latest_n, .inl o_matcher_latest_v)), (o_matcher_earlier, .inl (o_matcher_earlier_c, o_matcher_earlier_n, .inl o_matcher_earlier_v))]) (wr := [(o, .inr (8, [.ref o_symbolCounts, .ref o_distanceCounts, .int (0 : Int32), .int (0 : Int32), .int (0 : Int32), .ref o_text, .ref o_matcher, .ref o_tokens])), (o_symbolCounts, .inl (o_symbolCounts_c, o_symbolCounts_n, .inl (upd u8 ((256 : Int32)).toNatClampNeg (1 : Int32)))), (o_distanceCounts, .inl (o_distanceCounts_c, o_distanceCounts_n, .inl u9)), (o_tokens, .inl (o_tokens_c, o_tokens_n, .inl o_tokens_v))]) (w1 := [(o_matcher, .inr (4, [.ref o_text, .int o_matcher_chain, .ref o_matcher_latest, .ref o_matcher_earlier, .int u11.1, .int o_matcher_length, .int o_matcher_distance])), (o_text, .inr (6, [.ref o_text_bytes, .int o_text_size])), (o_text_bytes, .inl (o_text_bytes_c, o_text_bytes_n, .inl o_text_bytes_v)), (o_matcher_latest, .inl (o_matcher_latest_c, o_matcher_latest_n, .inl u11.2.1)), (o_matcher_earlier, .inl (o_matcher_earlier_c, o_matcher_earlier_n, .inl u11.2.2))]) (ws' := [(o, .inr (8, [.ref o_symbolCounts, .ref o_distanceCounts, .int (0 : Int32), .int (0 : Int32), .int (0 : Int32), .ref o_text, .ref o_matcher, .ref o_tokens])), (o_symbolCounts, .inl (o_symbolCounts_c, o_symbolCounts_n, .inl (upd u8 ((256 : Int32)).toNatClampNeg (1 : Int32)))), (o_distanceCounts, .inl (o_distanceCounts_c, o_distanceCounts_n, .inl u9)), (o_matcher, .inr (4, [.ref o_text, .int o_matcher_chain, .ref o_matcher_latest, .ref o_matcher_earlier, .int u11.1, .int o_matcher_length, .int o_matcher_distance])), (o_text, .inr (6, [.ref o_text_bytes, .int o_text_size])), (o_text_bytes, .inl (o_text_bytes_c, o_text_bytes_n, .inl o_text_bytes_v)), (o_matcher_latest, .inl (o_matcher_latest_c, o_matcher_latest_n, .inl u11.2.1)), (o_matcher_earlier, .inl (o_matcher_earlier_c, o_matcher_earlier_n, .inl u11.2.2)), (o_tokens, .inl (o_tokens_c, o_tokens_n, .inl o_tokens_v))]) (va_runV (As := []) (rest := []) ⟨hx, hb, hml, hown, hts⟩ (mX4_link l dC dI o_matcher o_text o_text_bytes o_matcher_latest o_matcher_earlier o_text_bytes_c o_matcher_latest_c o_matcher_earlier_c o_text_bytes_n o_matcher_latest_n o_matcher_earlier_n o_matcher_chain o_matcher_linked o_matcher_length o_matcher_distance o_text_size o_text_bytes_v o_matcher_latest_v o_matcher_earlier_v H.size u11 e11) (cwV 0 hts (fb_GV k_440 k_441 k_442 k_70 k_443) rfl rfl rfl hdX4_link ⟨Nat.le_of_ble_eq_true rfl, Nat.le_of_ble_eq_true rfl⟩) (fb_pV hP hD hS hA hK hN hZ [3, 4, 5, 6, 7] rfl rfl [2, 3, 4] rfl (q0 := 3) (ci := 4) rfl rfl) rfl rfl hl.1 rfl (lv_room (Nat.le_of_ble_eq_true rfl)) dX8_gather_44 ⟨Nat.le_of_ble_eq_true rfl, Nat.le_of_ble_eq_true rfl⟩) hP hD hS hA [3, 4, 5, 6, 7] [0, 1, 2, 8] rfl rfl rfl (by decide) [0, 1, 2, 4, 5, 6, 7, 8, 3] rfl rfl (fun H locs hP hD hS => ?_)
  refine lv_iconst (v := (0 : Int32)) hx hb dX8_gather_47 (by decide) ?_
  refine lv_istore_n (lv' := [(1, .int (0 : Int32)), (0, .ref o)]) hx hb dX8_gather_48 rfl hl (by decide) rfl (fun ls hl => ?_)
  refine lv_iconst (v := (0 : Int32)) hx hb dX8_gather_49 (by decide) ?_
  refine lv_istore_n (lv' := [(2, .int (0 : Int32)), (1, .int (0 : Int32)), (0, .ref o)]) hx hb dX8_gather_50 rfl hl (by decide) rfl (fun ls hl => ?_)
  exact wB51 fb_F (0 : Int32) (0 : Int32) (0 : Int32) (upd u8 ((256 : Int32)).toNatClampNeg (1 : Int32)) u9 u11.1 o_matcher_length o_matcher_distance u11.2.1 u11.2.2 o_tokens_v (0 : Int32) (0 : Int32) _ _ _ hP hD hS (lv_sub hl [2, 1, 0] rfl) h
theorem dX7_runFrom_0 : decode cX7_runFrom 0 = .ok (.iload_n 1, 1) := by decide +kernel
theorem dX7_runFrom_1 : decode cX7_runFrom 1 = .ok (.iconst 1, 1) := by decide +kernel
theorem dX7_runFrom_2 : decode cX7_runFrom 2 = .ok (.iadd, 1) := by decide +kernel
theorem dX7_runFrom_3 : decode cX7_runFrom 3 = .ok (.istore_n 2, 1) := by decide +kernel
theorem dX7_runFrom_4 : decode cX7_runFrom 4 = .ok (.iload_n 2, 1) := by decide +kernel
theorem dX7_runFrom_5 : decode cX7_runFrom 5 = .ok (.aload_n 0, 1) := by decide +kernel
theorem dX7_runFrom_6 : decode cX7_runFrom 6 = .ok (.getfield 47, 3) := by decide +kernel
theorem dX7_runFrom_9 : decode cX7_runFrom 9 = .ok (.if_icmp .ge 24, 3) := by decide +kernel
theorem dX7_runFrom_12 : decode cX7_runFrom 12 = .ok (.aload_n 0, 1) := by decide +kernel
theorem dX7_runFrom_13 : decode cX7_runFrom 13 = .ok (.getfield 9, 3) := by decide +kernel
theorem dX7_runFrom_16 : decode cX7_runFrom 16 = .ok (.iload_n 2, 1) := by decide +kernel
theorem dX7_runFrom_17 : decode cX7_runFrom 17 = .ok (.iaload, 1) := by decide +kernel
theorem dX7_runFrom_18 : decode cX7_runFrom 18 = .ok (.aload_n 0, 1) := by decide +kernel
theorem dX7_runFrom_19 : decode cX7_runFrom 19 = .ok (.getfield 9, 3) := by decide +kernel
theorem dX7_runFrom_22 : decode cX7_runFrom 22 = .ok (.iload_n 1, 1) := by decide +kernel
theorem dX7_runFrom_23 : decode cX7_runFrom 23 = .ok (.iaload, 1) := by decide +kernel
theorem dX7_runFrom_24 : decode cX7_runFrom 24 = .ok (.if_icmp .ne 9, 3) := by decide +kernel
theorem dX7_runFrom_27 : decode cX7_runFrom 27 = .ok (.iinc 2 1, 3) := by decide +kernel
theorem dX7_runFrom_30 : decode cX7_runFrom 30 = .ok (.goto (-26), 3) := by decide +kernel
theorem dX7_runFrom_33 : decode cX7_runFrom 33 = .ok (.iload_n 2, 1) := by decide +kernel
theorem dX7_runFrom_34 : decode cX7_runFrom 34 = .ok (.iload_n 1, 1) := by decide +kernel
theorem dX7_runFrom_35 : decode cX7_runFrom 35 = .ok (.isub, 1) := by decide +kernel
theorem dX7_runFrom_36 : decode cX7_runFrom 36 = .ok (.ireturn, 1) := by decide +kernel
def pX7_runFrom_b4 (o_row_n : Nat) (o_rowSize : Int32) (o_row_v : Nat → Int32) (x1 : Int32)  : Nat → Int32 → Option (Int32)
  | 0 => fun _ => none
  | n + 1 => fun x2 =>
  if o_rowSize ≤ x2 then
  (some ((x2 - x1)))
  else
  (if x2 < 0 ∨ o_row_n ≤ (x2).toNatClampNeg then none else
  if x1 < 0 ∨ o_row_n ≤ (x1).toNatClampNeg then none else
  if (o_row_v (x2).toNatClampNeg) = (o_row_v (x1).toNatClampNeg) then
  ((pX7_runFrom_b4 o_row_n o_rowSize o_row_v x1 n) (x2 + (1 : Int32)))
  else
  (some ((x2 - x1))))
def pX7_runFrom (o_row_n : Nat) (o_rowSize : Int32) (o_row_v : Nat → Int32) (x1 : Int32)   : Option (Int32) :=
  pX7_runFrom_b4 o_row_n o_rowSize o_row_v x1 fb_F (x1 + (1 : Int32))
theorem hdX7_runFrom : yX7_runFrom.cls = RX7 ∧ yX7_runFrom.cls ≠ "java/lang/invoke/MethodHandle" ∧ yX7_runFrom.cls ≠ "java/lang/invoke/VarHandle" ∧ (parseMethodDescriptor yX7_runFrom.desc).map (fun d => d.parameters.length) = some 1 := by decide +kernel
set_option maxHeartbeats 8000000 in
set_option maxRecDepth 100000 in
theorem mX7_runFrom (l : Launch) (dC : Nat → ClassId) (dI : Nat → Nat → Nat) (o : Nat) (o_row : Nat) (o_cells : Nat) (o_counts : Nat) (o_codes : Nat) (o_row_c : ClassId) (o_row_n : Nat) (o_symbolsTold : Int32) (o_distancesTold : Int32) (o_rowSize : Int32) (o_size : Int32) (o_lengthsTold : Int32) (o_row_v : Nat → Int32) (x1 : Int32) (sz : Nat) (u : Int32) (h : pX7_runFrom o_row_n o_rowSize o_row_v x1 = some u) : Met l yX7_runFrom (Cond.code yX7_runFrom cX7_runFrom 3 (some .int) :: fb_tb) ({ frames := 0, cells := 0, slots := 0, locals := 0 }) (fb_Pc (dC, dI) [.ref o, .int x1] sz [(o_row_c, .int)] [(o, .inr (7, [.ref o_row, .ref o_cells, .ref o_counts, .ref o_codes, .int o_symbolsTold, .int o_distancesTold, .int o_rowSize, .int o_size, .int o_lengthsTold])), (o_row, .inl (o_row_c, o_row_n, .inl o_row_v))]) (fb_Qi (dC, dI) u [(o, .inr (7, [.ref o_row, .ref o_cells, .ref o_counts, .ref o_codes, .int o_symbolsTold, .int o_distancesTold, .int o_rowSize, .int o_size, .int o_lengthsTold])), (o_row, .inl (o_row_c, o_row_n, .inl o_row_v))] (va_A [(o, .inr (7, [.ref o_row, .ref o_cells, .ref o_counts, .ref o_codes, .int o_symbolsTold, .int o_distancesTold, .int o_rowSize, .int o_size, .int o_lengthsTold])), (o_row, .inl (o_row_c, o_row_n, .inl o_row_v))] sz)) 0 0 (va_A [(o, .inr (7, [.ref o_row, .ref o_cells, .ref o_counts, .ref o_codes, .int o_symbolsTold, .int o_distancesTold, .int o_rowSize, .int o_size, .int o_lengthsTold])), (o_row, .inl (o_row_c, o_row_n, .inl o_row_v))] sz) := by
  refine fb_meti (ty := .int) (by decide) (Nat.le_of_ble_eq_true rfl) (fun p e s m args below meth c A Q ls H hx hb hml hown hts hP hK hN hZ hD hA hS hret hl => ?_)
  replace hl : lv_has ls 3 [(0, .ref o), (1, .int x1)] := hl
  have wB4 : ∀ n : Nat, ∀ (x2 : Int32) (H : Heap) (locs : List Loc) (ls : Array Slot), va_P (dC, dI) fb_cl [(o, .inr (7, [.ref o_row, .ref o_cells, .ref o_counts, .ref o_codes, .int o_symbolsTold, .int o_distancesTold, .int o_rowSize, .int o_size, .int o_lengthsTold])), (o_row, .inl (o_row_c, o_row_n, .inl o_row_v))] H → va_D A [(o, .inr (7, [.ref o_row, .ref o_cells, .ref o_counts, .ref o_codes, .int o_symbolsTold, .int o_distancesTold, .int o_rowSize, .int o_size, .int o_lengthsTold])), (o_row, .inl (o_row_c, o_row_n, .inl o_row_v))] → va_S A s.heap H locs → lv_has ls 3 [(0, .ref o), (1, .int x1), (2, .int x2)] → pX7_runFrom_b4 o_row_n o_rowSize o_row_v x1 n x2 = some u → W p l e ({ frames := 0, cells := 0, slots := 0, locals := 0 }) s m args below meth c H locs 0 0 Q (F0 m 4 ls []) := by
    intro n
    induction n with
    | zero => intro x2 H locs ls hP hD hS hl h; cases h
    | succ n ih =>
      intro x2 H locs ls hP hD hS hl h
      rw [pX7_runFrom_b4] at h
      refine lv_iload_n hx hb dX7_runFrom_4 rfl (lv_at hl 2 rfl) ?_
      refine lv_aload_n hx hb dX7_runFrom_5 rfl (lv_at hl 0 rfl) ?_
      refine va_get (D := (dC, dI)) (ci := 7) (v := .int o_rowSize) (C := RX7) (T := TX7) (N := 9) hx hb hts i_X7 hown hK hP 0 rfl rfl 6 (by decide) (hts _ k_200) (fun _ h9 => h9) rfl dX7_runFrom_6 ?_
      refine lv_icmp_ge (tgt := 33) hx hb dX7_runFrom_9 (by decide) (fun c1 => ?_) (fun c1 => ?_)
      · replace h := fb_t c1 h
        refine lv_iload_n hx hb dX7_runFrom_33 rfl (lv_at hl 2 rfl) ?_
        refine lv_iload_n hx hb dX7_runFrom_34 rfl (lv_at hl 1 rfl) ?_
        refine lv_isub hx hb dX7_runFrom_35 ?_
        have hu := Option.some.inj h
        exact hret _ _ _ _ _ dX7_runFrom_36 rfl (by rw [← hu]) hP hD hS
      · replace h := fb_f c1 h
        refine lv_aload_n hx hb dX7_runFrom_12 rfl (lv_at hl 0 rfl) ?_
        refine va_get (D := (dC, dI)) (ci := 7) (v := .ref o_row) (C := RX7) (T := TX7) (N := 9) hx hb hts i_X7 hown hK hP 0 rfl rfl 0 (by decide) (hts _ k_194) (fun _ h9 => h9) rfl dX7_runFrom_13 ?_
        refine lv_iload_n hx hb dX7_runFrom_16 rfl (lv_at hl 2 rfl) ?_
        obtain ⟨g2, h⟩ := fb_g h
        refine va_iald hx hb hK hP 1 0 rfl rfl g2 dX7_runFrom_17 ?_
        refine lv_aload_n hx hb dX7_runFrom_18 rfl (lv_at hl 0 rfl) ?_
        refine va_get (D := (dC, dI)) (ci := 7) (v := .ref o_row) (C := RX7) (T := TX7) (N := 9) hx hb hts i_X7 hown hK hP 0 rfl rfl 0 (by decide) (hts _ k_194) (fun _ h9 => h9) rfl dX7_runFrom_19 ?_
        refine lv_iload_n hx hb dX7_runFrom_22 rfl (lv_at hl 1 rfl) ?_
        obtain ⟨g3, h⟩ := fb_g h
        refine va_iald hx hb hK hP 1 0 rfl rfl g3 dX7_runFrom_23 ?_
        refine lv_icmp_ne (tgt := 33) hx hb dX7_runFrom_24 (by decide) (fun c4 => ?_) (fun c4 => ?_)
        · replace h := fb_f c4 h
          refine lv_iload_n hx hb dX7_runFrom_33 rfl (lv_at hl 2 rfl) ?_
          refine lv_iload_n hx hb dX7_runFrom_34 rfl (lv_at hl 1 rfl) ?_
          refine lv_isub hx hb dX7_runFrom_35 ?_
          have hu := Option.some.inj h
          exact hret _ _ _ _ _ dX7_runFrom_36 rfl (by rw [← hu]) hP hD hS
        · replace h := fb_t c4 h
          refine lv_iinc (v := (x2 + (1 : Int32))) (lv' := [(2, .int (x2 + (1 : Int32))), (0, .ref o), (1, .int x1)]) hx hb dX7_runFrom_27 hl (k := 2) rfl rfl (by decide) rfl (fun ls hl => ?_)
          refine lv_goto (tgt := 4) hx hb dX7_runFrom_30 (by decide) ?_
          exact ih (x2 + (1 : Int32)) _ _ _ hP hD hS (lv_sub hl [1, 2, 0] rfl) h
  unfold pX7_runFrom at h
  refine lv_iload_n hx hb dX7_runFrom_0 rfl (lv_at hl 1 rfl) ?_
  refine lv_iconst (v := (1 : Int32)) hx hb dX7_runFrom_1 (by decide) ?_
  refine lv_iadd hx hb dX7_runFrom_2 ?_
  refine lv_istore_n (lv' := [(2, .int (x1 + (1 : Int32))), (0, .ref o), (1, .int x1)]) hx hb dX7_runFrom_3 rfl hl (by decide) rfl (fun ls hl => ?_)
  exact wB4 fb_F (x1 + (1 : Int32)) _ _ _ hP hD hS (lv_sub hl [1, 2, 0] rfl) h
theorem dX7_addCell_0 : decode cX7_addCell 0 = .ok (.aload_n 0, 1) := by decide +kernel
theorem dX7_addCell_1 : decode cX7_addCell 1 = .ok (.getfield 15, 3) := by decide +kernel
theorem dX7_addCell_4 : decode cX7_addCell 4 = .ok (.aload_n 0, 1) := by decide +kernel
theorem dX7_addCell_5 : decode cX7_addCell 5 = .ok (.getfield 77, 3) := by decide +kernel
theorem dX7_addCell_8 : decode cX7_addCell 8 = .ok (.iload_n 2, 1) := by decide +kernel
theorem dX7_addCell_9 : decode cX7_addCell 9 = .ok (.bipush 8, 2) := by decide +kernel
theorem dX7_addCell_11 : decode cX7_addCell 11 = .ok (.ishl, 1) := by decide +kernel
theorem dX7_addCell_12 : decode cX7_addCell 12 = .ok (.iload_n 1, 1) := by decide +kernel
theorem dX7_addCell_13 : decode cX7_addCell 13 = .ok (.ior, 1) := by decide +kernel
theorem dX7_addCell_14 : decode cX7_addCell 14 = .ok (.iastore, 1) := by decide +kernel
theorem dX7_addCell_15 : decode cX7_addCell 15 = .ok (.aload_n 0, 1) := by decide +kernel
theorem dX7_addCell_16 : decode cX7_addCell 16 = .ok (.dup, 1) := by decide +kernel
theorem dX7_addCell_17 : decode cX7_addCell 17 = .ok (.getfield 77, 3) := by decide +kernel
theorem dX7_addCell_20 : decode cX7_addCell 20 = .ok (.iconst 1, 1) := by decide +kernel
theorem dX7_addCell_21 : decode cX7_addCell 21 = .ok (.iadd, 1) := by decide +kernel
theorem dX7_addCell_22 : decode cX7_addCell 22 = .ok (.putfield 77, 3) := by decide +kernel
theorem dX7_addCell_25 : decode cX7_addCell 25 = .ok (.aload_n 0, 1) := by decide +kernel
theorem dX7_addCell_26 : decode cX7_addCell 26 = .ok (.getfield 18, 3) := by decide +kernel
theorem dX7_addCell_29 : decode cX7_addCell 29 = .ok (.iload_n 1, 1) := by decide +kernel
theorem dX7_addCell_30 : decode cX7_addCell 30 = .ok (.dup2, 1) := by decide +kernel
theorem dX7_addCell_31 : decode cX7_addCell 31 = .ok (.iaload, 1) := by decide +kernel
theorem dX7_addCell_32 : decode cX7_addCell 32 = .ok (.iconst 1, 1) := by decide +kernel
theorem dX7_addCell_33 : decode cX7_addCell 33 = .ok (.iadd, 1) := by decide +kernel
theorem dX7_addCell_34 : decode cX7_addCell 34 = .ok (.iastore, 1) := by decide +kernel
theorem dX7_addCell_35 : decode cX7_addCell 35 = .ok (.return_, 1) := by decide +kernel
def pX7_addCell (o_cells_n : Nat) (o_counts_n : Nat) (x1 : Int32) (x2 : Int32)  (o_size : Int32) (o_cells_v : Nat → Int32) (o_counts_v : Nat → Int32) : Option (Int32 × (Nat → Int32) × (Nat → Int32)) :=
  if o_size < 0 ∨ o_cells_n ≤ (o_size).toNatClampNeg then none else
  if x1 < 0 ∨ o_counts_n ≤ (x1).toNatClampNeg then none else
  if x1 < 0 ∨ o_counts_n ≤ (x1).toNatClampNeg then none else
  some ((o_size + (1 : Int32)), (upd o_cells_v (o_size).toNatClampNeg ((x2 <<< ((8 : Int32) &&& 31)) ||| x1)), (upd o_counts_v (x1).toNatClampNeg ((o_counts_v (x1).toNatClampNeg) + (1 : Int32))))
theorem hdX7_addCell : yX7_addCell.cls = RX7 ∧ yX7_addCell.cls ≠ "java/lang/invoke/MethodHandle" ∧ yX7_addCell.cls ≠ "java/lang/invoke/VarHandle" ∧ (parseMethodDescriptor yX7_addCell.desc).map (fun d => d.parameters.length) = some 2 := by decide +kernel
set_option maxHeartbeats 8000000 in
set_option maxRecDepth 100000 in
theorem mX7_addCell (l : Launch) (dC : Nat → ClassId) (dI : Nat → Nat → Nat) (o : Nat) (o_cells : Nat) (o_counts : Nat) (o_row : Nat) (o_codes : Nat) (o_cells_c : ClassId) (o_counts_c : ClassId) (o_cells_n : Nat) (o_counts_n : Nat) (o_symbolsTold : Int32) (o_distancesTold : Int32) (o_rowSize : Int32) (o_size : Int32) (o_lengthsTold : Int32) (o_cells_v : Nat → Int32) (o_counts_v : Nat → Int32) (x1 : Int32) (x2 : Int32) (sz : Nat) (u : Int32 × (Nat → Int32) × (Nat → Int32)) (h : pX7_addCell o_cells_n o_counts_n x1 x2 o_size o_cells_v o_counts_v = some u) : Met l yX7_addCell (Cond.code yX7_addCell cX7_addCell 3 none :: fb_tb) ({ frames := 0, cells := 0, slots := 0, locals := 0 }) (fb_Pc (dC, dI) [.ref o, .int x1, .int x2] sz [(o_cells_c, .int), (o_counts_c, .int)] [(o, .inr (7, [.ref o_row, .ref o_cells, .ref o_counts, .ref o_codes, .int o_symbolsTold, .int o_distancesTold, .int o_rowSize, .int o_size, .int o_lengthsTold])), (o_cells, .inl (o_cells_c, o_cells_n, .inl o_cells_v)), (o_counts, .inl (o_counts_c, o_counts_n, .inl o_counts_v))]) (fb_Qv (dC, dI) [(o, .inr (7, [.ref o_row, .ref o_cells, .ref o_counts, .ref o_codes, .int o_symbolsTold, .int o_distancesTold, .int o_rowSize, .int u.1, .int o_lengthsTold])), (o_cells, .inl (o_cells_c, o_cells_n, .inl u.2.1)), (o_counts, .inl (o_counts_c, o_counts_n, .inl u.2.2))] (va_A [(o, .inr (7, [.ref o_row, .ref o_cells, .ref o_counts, .ref o_codes, .int o_symbolsTold, .int o_distancesTold, .int o_rowSize, .int o_size, .int o_lengthsTold])), (o_cells, .inl (o_cells_c, o_cells_n, .inl o_cells_v)), (o_counts, .inl (o_counts_c, o_counts_n, .inl o_counts_v))] sz)) 0 0 (va_A [(o, .inr (7, [.ref o_row, .ref o_cells, .ref o_counts, .ref o_codes, .int o_symbolsTold, .int o_distancesTold, .int o_rowSize, .int o_size, .int o_lengthsTold])), (o_cells, .inl (o_cells_c, o_cells_n, .inl o_cells_v)), (o_counts, .inl (o_counts_c, o_counts_n, .inl o_counts_v))] sz) := by
  refine fb_metv (by decide) (Nat.le_of_ble_eq_true rfl) (fun p e s m args below meth c A Q ls H hx hb hml hown hts hP hK hN hZ hD hA hS hret hl => ?_)
  replace hl : lv_has ls 3 [(0, .ref o), (1, .int x1), (2, .int x2)] := hl
  unfold pX7_addCell at h
  refine lv_aload_n hx hb dX7_addCell_0 rfl (lv_at hl 0 rfl) ?_
  refine va_get (D := (dC, dI)) (ci := 7) (v := .ref o_cells) (C := RX7) (T := TX7) (N := 9) hx hb hts i_X7 hown hK hP 0 rfl rfl 1 (by decide) (hts _ k_195) (fun _ h9 => h9) rfl dX7_addCell_1 ?_
  refine lv_aload_n hx hb dX7_addCell_4 rfl (lv_at hl 0 rfl) ?_
  refine va_get (D := (dC, dI)) (ci := 7) (v := .int o_size) (C := RX7) (T := TX7) (N := 9) hx hb hts i_X7 hown hK hP 0 rfl rfl 7 (by decide) (hts _ k_201) (fun _ h9 => h9) rfl dX7_addCell_5 ?_
  refine lv_iload_n hx hb dX7_addCell_8 rfl (lv_at hl 2 rfl) ?_
  refine lv_bipush (v := (8 : Int32)) hx hb dX7_addCell_9 (by decide) ?_
  refine lv_ishl hx hb dX7_addCell_11 ?_
  refine lv_iload_n hx hb dX7_addCell_12 rfl (lv_at hl 1 rfl) ?_
  refine lv_ior hx hb dX7_addCell_13 ?_
  obtain ⟨g1, h⟩ := fb_g h
  refine va_iast hx hb hK hP hD hS 1 0 rfl rfl g1 dX7_addCell_14 (fun H locs hP hD hS => ?_)
  replace hP : va_P (dC, dI) fb_cl [(o, .inr (7, [.ref o_row, .ref o_cells, .ref o_counts, .ref o_codes, .int o_symbolsTold, .int o_distancesTold, .int o_rowSize, .int o_size, .int o_lengthsTold])), (o_cells, .inl (o_cells_c, o_cells_n, .inl (upd o_cells_v (o_size).toNatClampNeg ((x2 <<< ((8 : Int32) &&& 31)) ||| x1)))), (o_counts, .inl (o_counts_c, o_counts_n, .inl o_counts_v))] H := hP
  replace hD : va_D A [(o, .inr (7, [.ref o_row, .ref o_cells, .ref o_counts, .ref o_codes, .int o_symbolsTold, .int o_distancesTold, .int o_rowSize, .int o_size, .int o_lengthsTold])), (o_cells, .inl (o_cells_c, o_cells_n, .inl (upd o_cells_v (o_size).toNatClampNeg ((x2 <<< ((8 : Int32) &&& 31)) ||| x1)))), (o_counts, .inl (o_counts_c, o_counts_n, .inl o_counts_v))] := hD
  refine lv_aload_n hx hb dX7_addCell_15 rfl (lv_at hl 0 rfl) ?_
  refine lv_dup hx hb dX7_addCell_16 rfl ?_
  refine va_get (D := (dC, dI)) (ci := 7) (v := .int o_size) (C := RX7) (T := TX7) (N := 9) hx hb hts i_X7 hown hK hP 0 rfl rfl 7 (by decide) (hts _ k_201) (fun _ h9 => h9) rfl dX7_addCell_17 ?_
  refine lv_iconst (v := (1 : Int32)) hx hb dX7_addCell_20 (by decide) ?_
  refine lv_iadd hx hb dX7_addCell_21 ?_
  refine va_put (D := (dC, dI)) (ci := 7) (v := .int (o_size + (1 : Int32))) (ty := .int) (C := RX7) (T := TX7) (N := 9) hx hb hts i_X7 tyX7 tyX7_ok nmX7 hown hK hP hD hS 0 rfl rfl 7 (by decide) (hts _ k_201) (fun _ h9 => h9) rfl (by decide +kernel) rfl rfl (Nat.le_of_ble_eq_true rfl) dX7_addCell_22 (fun H locs hP hD hS => ?_)
  replace hP : va_P (dC, dI) fb_cl [(o, .inr (7, [.ref o_row, .ref o_cells, .ref o_counts, .ref o_codes, .int o_symbolsTold, .int o_distancesTold, .int o_rowSize, .int (o_size + (1 : Int32)), .int o_lengthsTold])), (o_cells, .inl (o_cells_c, o_cells_n, .inl (upd o_cells_v (o_size).toNatClampNeg ((x2 <<< ((8 : Int32) &&& 31)) ||| x1)))), (o_counts, .inl (o_counts_c, o_counts_n, .inl o_counts_v))] H := hP
  replace hD : va_D A [(o, .inr (7, [.ref o_row, .ref o_cells, .ref o_counts, .ref o_codes, .int o_symbolsTold, .int o_distancesTold, .int o_rowSize, .int (o_size + (1 : Int32)), .int o_lengthsTold])), (o_cells, .inl (o_cells_c, o_cells_n, .inl (upd o_cells_v (o_size).toNatClampNeg ((x2 <<< ((8 : Int32) &&& 31)) ||| x1)))), (o_counts, .inl (o_counts_c, o_counts_n, .inl o_counts_v))] := hD
  refine lv_aload_n hx hb dX7_addCell_25 rfl (lv_at hl 0 rfl) ?_
  refine va_get (D := (dC, dI)) (ci := 7) (v := .ref o_counts) (C := RX7) (T := TX7) (N := 9) hx hb hts i_X7 hown hK hP 0 rfl rfl 2 (by decide) (hts _ k_196) (fun _ h9 => h9) rfl dX7_addCell_26 ?_
  refine lv_iload_n hx hb dX7_addCell_29 rfl (lv_at hl 1 rfl) ?_
  refine lv_dup2_11 hx hb dX7_addCell_30 rfl rfl ?_
  obtain ⟨g2, h⟩ := fb_g h
  refine va_iald hx hb hK hP 2 1 rfl rfl g2 dX7_addCell_31 ?_
  refine lv_iconst (v := (1 : Int32)) hx hb dX7_addCell_32 (by decide) ?_
  refine lv_iadd hx hb dX7_addCell_33 ?_
  obtain ⟨g3, h⟩ := fb_g h
  refine va_iast hx hb hK hP hD hS 2 1 rfl rfl g3 dX7_addCell_34 (fun H locs hP hD hS => ?_)
  replace hP : va_P (dC, dI) fb_cl [(o, .inr (7, [.ref o_row, .ref o_cells, .ref o_counts, .ref o_codes, .int o_symbolsTold, .int o_distancesTold, .int o_rowSize, .int (o_size + (1 : Int32)), .int o_lengthsTold])), (o_cells, .inl (o_cells_c, o_cells_n, .inl (upd o_cells_v (o_size).toNatClampNeg ((x2 <<< ((8 : Int32) &&& 31)) ||| x1)))), (o_counts, .inl (o_counts_c, o_counts_n, .inl (upd o_counts_v (x1).toNatClampNeg ((o_counts_v (x1).toNatClampNeg) + (1 : Int32)))))] H := hP
  replace hD : va_D A [(o, .inr (7, [.ref o_row, .ref o_cells, .ref o_counts, .ref o_codes, .int o_symbolsTold, .int o_distancesTold, .int o_rowSize, .int (o_size + (1 : Int32)), .int o_lengthsTold])), (o_cells, .inl (o_cells_c, o_cells_n, .inl (upd o_cells_v (o_size).toNatClampNeg ((x2 <<< ((8 : Int32) &&& 31)) ||| x1)))), (o_counts, .inl (o_counts_c, o_counts_n, .inl (upd o_counts_v (x1).toNatClampNeg ((o_counts_v (x1).toNatClampNeg) + (1 : Int32)))))] := hD
  have hu := Option.some.inj h
  exact hret _ _ _ _ dX7_addCell_35 (by rw [← hu]; exact hP) (by rw [← hu]; exact hD) hS
theorem dX7_addZeros_0 : decode cX7_addZeros 0 = .ok (.iload_n 1, 1) := by decide +kernel
theorem dX7_addZeros_1 : decode cX7_addZeros 1 = .ok (.bipush 11, 2) := by decide +kernel
theorem dX7_addZeros_3 : decode cX7_addZeros 3 = .ok (.if_icmp .lt 23, 3) := by decide +kernel
theorem dX7_addZeros_6 : decode cX7_addZeros 6 = .ok (.iload_n 1, 1) := by decide +kernel
theorem dX7_addZeros_7 : decode cX7_addZeros 7 = .ok (.sipush 138, 3) := by decide +kernel
theorem dX7_addZeros_10 : decode cX7_addZeros 10 = .ok (.invokestatic 96, 3) := by decide +kernel
theorem dX7_addZeros_13 : decode cX7_addZeros 13 = .ok (.istore_n 2, 1) := by decide +kernel
theorem dX7_addZeros_14 : decode cX7_addZeros 14 = .ok (.aload_n 0, 1) := by decide +kernel
theorem dX7_addZeros_15 : decode cX7_addZeros 15 = .ok (.bipush 18, 2) := by decide +kernel
theorem dX7_addZeros_17 : decode cX7_addZeros 17 = .ok (.iload_n 2, 1) := by decide +kernel
theorem dX7_addZeros_18 : decode cX7_addZeros 18 = .ok (.bipush 11, 2) := by decide +kernel
theorem dX7_addZeros_20 : decode cX7_addZeros 20 = .ok (.isub, 1) := by decide +kernel
theorem dX7_addZeros_21 : decode cX7_addZeros 21 = .ok (.invokevirtual 99, 3) := by decide +kernel
theorem dX7_addZeros_24 : decode cX7_addZeros 24 = .ok (.iload_n 2, 1) := by decide +kernel
theorem dX7_addZeros_25 : decode cX7_addZeros 25 = .ok (.ireturn, 1) := by decide +kernel
theorem dX7_addZeros_26 : decode cX7_addZeros 26 = .ok (.iload_n 1, 1) := by decide +kernel
theorem dX7_addZeros_27 : decode cX7_addZeros 27 = .ok (.iconst 3, 1) := by decide +kernel
theorem dX7_addZeros_28 : decode cX7_addZeros 28 = .ok (.if_icmp .lt 14, 3) := by decide +kernel
theorem dX7_addZeros_31 : decode cX7_addZeros 31 = .ok (.aload_n 0, 1) := by decide +kernel
theorem dX7_addZeros_32 : decode cX7_addZeros 32 = .ok (.bipush 17, 2) := by decide +kernel
theorem dX7_addZeros_34 : decode cX7_addZeros 34 = .ok (.iload_n 1, 1) := by decide +kernel
theorem dX7_addZeros_35 : decode cX7_addZeros 35 = .ok (.iconst 3, 1) := by decide +kernel
theorem dX7_addZeros_36 : decode cX7_addZeros 36 = .ok (.isub, 1) := by decide +kernel
theorem dX7_addZeros_37 : decode cX7_addZeros 37 = .ok (.invokevirtual 99, 3) := by decide +kernel
theorem dX7_addZeros_40 : decode cX7_addZeros 40 = .ok (.iload_n 1, 1) := by decide +kernel
theorem dX7_addZeros_41 : decode cX7_addZeros 41 = .ok (.ireturn, 1) := by decide +kernel
theorem dX7_addZeros_42 : decode cX7_addZeros 42 = .ok (.aload_n 0, 1) := by decide +kernel
theorem dX7_addZeros_43 : decode cX7_addZeros 43 = .ok (.iconst 0, 1) := by decide +kernel
theorem dX7_addZeros_44 : decode cX7_addZeros 44 = .ok (.iconst 0, 1) := by decide +kernel
theorem dX7_addZeros_45 : decode cX7_addZeros 45 = .ok (.invokevirtual 99, 3) := by decide +kernel
theorem dX7_addZeros_48 : decode cX7_addZeros 48 = .ok (.iconst 1, 1) := by decide +kernel
theorem dX7_addZeros_49 : decode cX7_addZeros 49 = .ok (.ireturn, 1) := by decide +kernel
def pX7_addZeros (o_cells_n : Nat) (o_counts_n : Nat) (x1 : Int32)  (o_size : Int32) (o_cells_v : Nat → Int32) (o_counts_v : Nat → Int32) : Option (Int32 × Int32 × (Nat → Int32) × (Nat → Int32)) :=
  if x1 < (11 : Int32) then
  (if x1 < (3 : Int32) then
  ((pX7_addCell o_cells_n o_counts_n (0 : Int32) (0 : Int32) o_size o_cells_v o_counts_v).bind (fun u3 =>
  some ((1 : Int32), u3.1, u3.2.1, u3.2.2)))
  else
  ((pX7_addCell o_cells_n o_counts_n (17 : Int32) (x1 - (3 : Int32)) o_size o_cells_v o_counts_v).bind (fun u4 =>
  some (x1, u4.1, u4.2.1, u4.2.2))))
  else
  ((pX7_addCell o_cells_n o_counts_n (18 : Int32) ((if (138 : Int32) < x1 then (138 : Int32) else x1) - (11 : Int32)) o_size o_cells_v o_counts_v).bind (fun u5 =>
  some ((if (138 : Int32) < x1 then (138 : Int32) else x1), u5.1, u5.2.1, u5.2.2)))
theorem hdX7_addZeros : yX7_addZeros.cls = RX7 ∧ yX7_addZeros.cls ≠ "java/lang/invoke/MethodHandle" ∧ yX7_addZeros.cls ≠ "java/lang/invoke/VarHandle" ∧ (parseMethodDescriptor yX7_addZeros.desc).map (fun d => d.parameters.length) = some 1 := by decide +kernel
set_option maxHeartbeats 8000000 in
set_option maxRecDepth 100000 in
theorem mX7_addZeros (l : Launch) (dC : Nat → ClassId) (dI : Nat → Nat → Nat) (o : Nat) (o_cells : Nat) (o_counts : Nat) (o_row : Nat) (o_codes : Nat) (o_cells_c : ClassId) (o_counts_c : ClassId) (o_cells_n : Nat) (o_counts_n : Nat) (o_symbolsTold : Int32) (o_distancesTold : Int32) (o_rowSize : Int32) (o_size : Int32) (o_lengthsTold : Int32) (o_cells_v : Nat → Int32) (o_counts_v : Nat → Int32) (x1 : Int32) (sz : Nat) (u : Int32 × Int32 × (Nat → Int32) × (Nat → Int32)) (h : pX7_addZeros o_cells_n o_counts_n x1 o_size o_cells_v o_counts_v = some u) : Met l yX7_addZeros (Cond.code yX7_addZeros cX7_addZeros 3 (some .int) :: fb_tb) ({ frames := 1, cells := 0, slots := 0, locals := 22 }) (fb_Pc (dC, dI) [.ref o, .int x1] sz [(o_cells_c, .int), (o_counts_c, .int)] [(o, .inr (7, [.ref o_row, .ref o_cells, .ref o_counts, .ref o_codes, .int o_symbolsTold, .int o_distancesTold, .int o_rowSize, .int o_size, .int o_lengthsTold])), (o_cells, .inl (o_cells_c, o_cells_n, .inl o_cells_v)), (o_counts, .inl (o_counts_c, o_counts_n, .inl o_counts_v))]) (fb_Qi (dC, dI) u.1 [(o, .inr (7, [.ref o_row, .ref o_cells, .ref o_counts, .ref o_codes, .int o_symbolsTold, .int o_distancesTold, .int o_rowSize, .int u.2.1, .int o_lengthsTold])), (o_cells, .inl (o_cells_c, o_cells_n, .inl u.2.2.1)), (o_counts, .inl (o_counts_c, o_counts_n, .inl u.2.2.2))] (va_A [(o, .inr (7, [.ref o_row, .ref o_cells, .ref o_counts, .ref o_codes, .int o_symbolsTold, .int o_distancesTold, .int o_rowSize, .int o_size, .int o_lengthsTold])), (o_cells, .inl (o_cells_c, o_cells_n, .inl o_cells_v)), (o_counts, .inl (o_counts_c, o_counts_n, .inl o_counts_v))] sz)) 0 0 (va_A [(o, .inr (7, [.ref o_row, .ref o_cells, .ref o_counts, .ref o_codes, .int o_symbolsTold, .int o_distancesTold, .int o_rowSize, .int o_size, .int o_lengthsTold])), (o_cells, .inl (o_cells_c, o_cells_n, .inl o_cells_v)), (o_counts, .inl (o_counts_c, o_counts_n, .inl o_counts_v))] sz) := by
  refine fb_meti (ty := .int) (by decide) (Nat.le_of_ble_eq_true rfl) (fun p e s m args below meth c A Q ls H hx hb hml hown hts hP hK hN hZ hD hA hS hret hl => ?_)
  replace hl : lv_has ls 3 [(0, .ref o), (1, .int x1)] := hl
  unfold pX7_addZeros at h
  refine lv_iload_n hx hb dX7_addZeros_0 rfl (lv_at hl 1 rfl) ?_
  refine lv_bipush (v := (11 : Int32)) hx hb dX7_addZeros_1 (by decide) ?_
  refine lv_icmp_lt (tgt := 26) hx hb dX7_addZeros_3 (by decide) (fun c1 => ?_) (fun c1 => ?_)
  · replace h := fb_t c1 h
    refine lv_iload_n hx hb dX7_addZeros_26 rfl (lv_at hl 1 rfl) ?_
    refine lv_iconst (v := (3 : Int32)) hx hb dX7_addZeros_27 (by decide) ?_
    refine lv_icmp_lt (tgt := 42) hx hb dX7_addZeros_28 (by decide) (fun c2 => ?_) (fun c2 => ?_)
    · replace h := fb_t c2 h
      refine lv_aload_n hx hb dX7_addZeros_42 rfl (lv_at hl 0 rfl) ?_
      refine lv_iconst (v := (0 : Int32)) hx hb dX7_addZeros_43 (by decide) ?_
      refine lv_iconst (v := (0 : Int32)) hx hb dX7_addZeros_44 (by decide) ?_
      obtain ⟨u3, e3, h⟩ := fb_b h
      refine fb_cv (wc := [(o, .inr (7, [.ref o_row, .ref o_cells, .ref o_counts, .ref o_codes, .int o_symbolsTold, .int o_distancesTold, .int o_rowSize, .int o_size, .int o_lengthsTold])), (o_cells, .inl (o_cells_c, o_cells_n, .inl o_cells_v)), (o_counts, .inl (o_counts_c, o_counts_n, .inl o_counts_v))]) (wr := []) (w1 := [(o, .inr (7, [.ref o_row, .ref o_cells, .ref o_counts, .ref o_codes, .int o_symbolsTold, .int o_distancesTold, .int o_rowSize, .int u3.1, .int o_lengthsTold])), (o_cells, .inl (o_cells_c, o_cells_n, .inl u3.2.1)), (o_counts, .inl (o_counts_c, o_counts_n, .inl u3.2.2))]) (ws' := [(o, .inr (7, [.ref o_row, .ref o_cells, .ref o_counts, .ref o_codes, .int o_symbolsTold, .int o_distancesTold, .int o_rowSize, .int u3.1, .int o_lengthsTold])), (o_cells, .inl (o_cells_c, o_cells_n, .inl u3.2.1)), (o_counts, .inl (o_counts_c, o_counts_n, .inl u3.2.2))]) (va_runV (As := [.int (0 : Int32), .int (0 : Int32)]) (rest := []) ⟨hx, hb, hml, hown, hts⟩ (mX7_addCell l dC dI o o_cells o_counts o_row o_codes o_cells_c o_counts_c o_cells_n o_counts_n o_symbolsTold o_distancesTold o_rowSize o_size o_lengthsTold o_cells_v o_counts_v (0 : Int32) (0 : Int32) H.size u3 e3) (cwV 2 hts (fb_GV k_550 k_552 k_14 k_68 k_553) rfl rfl rfl hdX7_addCell ⟨Nat.le_of_ble_eq_true rfl, Nat.le_of_ble_eq_true rfl⟩) (fb_pV hP hD hS hA hK hN hZ [0, 1, 2] rfl rfl [0, 1] rfl (q0 := 0) (ci := 7) rfl rfl) rfl rfl hl.1 rfl (lv_room (Nat.le_of_ble_eq_true rfl)) dX7_addZeros_45 ⟨Nat.le_of_ble_eq_true rfl, Nat.le_of_ble_eq_true rfl⟩) hP hD hS hA [0, 1, 2] [] rfl rfl rfl (by decide) [0, 1, 2] rfl rfl (fun H locs hP hD hS => ?_)
      refine lv_iconst (v := (1 : Int32)) hx hb dX7_addZeros_48 (by decide) ?_
      have hu := Option.some.inj h
      exact hret _ _ _ _ _ dX7_addZeros_49 rfl (by rw [← hu]) (by rw [← hu]; exact hP) (by rw [← hu]; exact hD) hS
    · replace h := fb_f c2 h
      refine lv_aload_n hx hb dX7_addZeros_31 rfl (lv_at hl 0 rfl) ?_
      refine lv_bipush (v := (17 : Int32)) hx hb dX7_addZeros_32 (by decide) ?_
      refine lv_iload_n hx hb dX7_addZeros_34 rfl (lv_at hl 1 rfl) ?_
      refine lv_iconst (v := (3 : Int32)) hx hb dX7_addZeros_35 (by decide) ?_
      refine lv_isub hx hb dX7_addZeros_36 ?_
      obtain ⟨u4, e4, h⟩ := fb_b h
      refine fb_cv (wc := [(o, .inr (7, [.ref o_row, .ref o_cells, .ref o_counts, .ref o_codes, .int o_symbolsTold, .int o_distancesTold, .int o_rowSize, .int o_size, .int o_lengthsTold])), (o_cells, .inl (o_cells_c, o_cells_n, .inl o_cells_v)), (o_counts, .inl (o_counts_c, o_counts_n, .inl o_counts_v))]) (wr := []) (w1 := [(o, .inr (7, [.ref o_row, .ref o_cells, .ref o_counts, .ref o_codes, .int o_symbolsTold, .int o_distancesTold, .int o_rowSize, .int u4.1, .int o_lengthsTold])), (o_cells, .inl (o_cells_c, o_cells_n, .inl u4.2.1)), (o_counts, .inl (o_counts_c, o_counts_n, .inl u4.2.2))]) (ws' := [(o, .inr (7, [.ref o_row, .ref o_cells, .ref o_counts, .ref o_codes, .int o_symbolsTold, .int o_distancesTold, .int o_rowSize, .int u4.1, .int o_lengthsTold])), (o_cells, .inl (o_cells_c, o_cells_n, .inl u4.2.1)), (o_counts, .inl (o_counts_c, o_counts_n, .inl u4.2.2))]) (va_runV (As := [.int (17 : Int32), .int (x1 - (3 : Int32))]) (rest := []) ⟨hx, hb, hml, hown, hts⟩ (mX7_addCell l dC dI o o_cells o_counts o_row o_codes o_cells_c o_counts_c o_cells_n o_counts_n o_symbolsTold o_distancesTold o_rowSize o_size o_lengthsTold o_cells_v o_counts_v (17 : Int32) (x1 - (3 : Int32)) H.size u4 e4) (cwV 2 hts (fb_GV k_550 k_552 k_14 k_68 k_553) rfl rfl rfl hdX7_addCell ⟨Nat.le_of_ble_eq_true rfl, Nat.le_of_ble_eq_true rfl⟩) (fb_pV hP hD hS hA hK hN hZ [0, 1, 2] rfl rfl [0, 1] rfl (q0 := 0) (ci := 7) rfl rfl) rfl rfl hl.1 rfl (lv_room (Nat.le_of_ble_eq_true rfl)) dX7_addZeros_37 ⟨Nat.le_of_ble_eq_true rfl, Nat.le_of_ble_eq_true rfl⟩) hP hD hS hA [0, 1, 2] [] rfl rfl rfl (by decide) [0, 1, 2] rfl rfl (fun H locs hP hD hS => ?_)
      refine lv_iload_n hx hb dX7_addZeros_40 rfl (lv_at hl 1 rfl) ?_
      have hu := Option.some.inj h
      exact hret _ _ _ _ _ dX7_addZeros_41 rfl (by rw [← hu]) (by rw [← hu]; exact hP) (by rw [← hu]; exact hD) hS
  · replace h := fb_f c1 h
    refine lv_iload_n hx hb dX7_addZeros_6 rfl (lv_at hl 1 rfl) ?_
    refine lv_sipush (v := (138 : Int32)) hx hb dX7_addZeros_7 (by decide) ?_
    refine va_mmin hx hb (hml.trans hl.1.symm) hown (hts _ k_549) (hts _ k_90) (hts _ k_63) (hts _ k_91) (Nat.le_of_ble_eq_true rfl) (Nat.le_of_ble_eq_true rfl) (Nat.zero_le _) (Nat.zero_le _) dX7_addZeros_10 ?_
    refine lv_istore_n (lv' := [(2, .int (if (138 : Int32) < x1 then (138 : Int32) else x1)), (0, .ref o), (1, .int x1)]) hx hb dX7_addZeros_13 rfl hl (by decide) rfl (fun ls hl => ?_)
    refine lv_aload_n hx hb dX7_addZeros_14 rfl (lv_at hl 1 rfl) ?_
    refine lv_bipush (v := (18 : Int32)) hx hb dX7_addZeros_15 (by decide) ?_
    refine lv_iload_n hx hb dX7_addZeros_17 rfl (lv_at hl 0 rfl) ?_
    refine lv_bipush (v := (11 : Int32)) hx hb dX7_addZeros_18 (by decide) ?_
    refine lv_isub hx hb dX7_addZeros_20 ?_
    obtain ⟨u5, e5, h⟩ := fb_b h
    refine fb_cv (wc := [(o, .inr (7, [.ref o_row, .ref o_cells, .ref o_counts, .ref o_codes, .int o_symbolsTold, .int o_distancesTold, .int o_rowSize, .int o_size, .int o_lengthsTold])), (o_cells, .inl (o_cells_c, o_cells_n, .inl o_cells_v)), (o_counts, .inl (o_counts_c, o_counts_n, .inl o_counts_v))]) (wr := []) (w1 := [(o, .inr (7, [.ref o_row, .ref o_cells, .ref o_counts, .ref o_codes, .int o_symbolsTold, .int o_distancesTold, .int o_rowSize, .int u5.1, .int o_lengthsTold])), (o_cells, .inl (o_cells_c, o_cells_n, .inl u5.2.1)), (o_counts, .inl (o_counts_c, o_counts_n, .inl u5.2.2))]) (ws' := [(o, .inr (7, [.ref o_row, .ref o_cells, .ref o_counts, .ref o_codes, .int o_symbolsTold, .int o_distancesTold, .int o_rowSize, .int u5.1, .int o_lengthsTold])), (o_cells, .inl (o_cells_c, o_cells_n, .inl u5.2.1)), (o_counts, .inl (o_counts_c, o_counts_n, .inl u5.2.2))]) (va_runV (As := [.int (18 : Int32), .int ((if (138 : Int32) < x1 then (138 : Int32) else x1) - (11 : Int32))]) (rest := []) ⟨hx, hb, hml, hown, hts⟩ (mX7_addCell l dC dI o o_cells o_counts o_row o_codes o_cells_c o_counts_c o_cells_n o_counts_n o_symbolsTold o_distancesTold o_rowSize o_size o_lengthsTold o_cells_v o_counts_v (18 : Int32) ((if (138 : Int32) < x1 then (138 : Int32) else x1) - (11 : Int32)) H.size u5 e5) (cwV 2 hts (fb_GV k_550 k_552 k_14 k_68 k_553) rfl rfl rfl hdX7_addCell ⟨Nat.le_of_ble_eq_true rfl, Nat.le_of_ble_eq_true rfl⟩) (fb_pV hP hD hS hA hK hN hZ [0, 1, 2] rfl rfl [0, 1] rfl (q0 := 0) (ci := 7) rfl rfl) rfl rfl hl.1 rfl (lv_room (Nat.le_of_ble_eq_true rfl)) dX7_addZeros_21 ⟨Nat.le_of_ble_eq_true rfl, Nat.le_of_ble_eq_true rfl⟩) hP hD hS hA [0, 1, 2] [] rfl rfl rfl (by decide) [0, 1, 2] rfl rfl (fun H locs hP hD hS => ?_)
    refine lv_iload_n hx hb dX7_addZeros_24 rfl (lv_at hl 0 rfl) ?_
    have hu := Option.some.inj h
    exact hret _ _ _ _ _ dX7_addZeros_25 rfl (by rw [← hu]) (by rw [← hu]; exact hP) (by rw [← hu]; exact hD) hS
theorem dX7_addLengths_0 : decode cX7_addLengths 0 = .ok (.aload_n 0, 1) := by decide +kernel
theorem dX7_addLengths_1 : decode cX7_addLengths 1 = .ok (.iload_n 1, 1) := by decide +kernel
theorem dX7_addLengths_2 : decode cX7_addLengths 2 = .ok (.iconst 0, 1) := by decide +kernel
theorem dX7_addLengths_3 : decode cX7_addLengths 3 = .ok (.invokevirtual 99, 3) := by decide +kernel
theorem dX7_addLengths_6 : decode cX7_addLengths 6 = .ok (.iload_n 2, 1) := by decide +kernel
theorem dX7_addLengths_7 : decode cX7_addLengths 7 = .ok (.iconst 1, 1) := by decide +kernel
theorem dX7_addLengths_8 : decode cX7_addLengths 8 = .ok (.isub, 1) := by decide +kernel
theorem dX7_addLengths_9 : decode cX7_addLengths 9 = .ok (.istore_n 3, 1) := by decide +kernel
theorem dX7_addLengths_10 : decode cX7_addLengths 10 = .ok (.iload_n 3, 1) := by decide +kernel
theorem dX7_addLengths_11 : decode cX7_addLengths 11 = .ok (.iconst 3, 1) := by decide +kernel
theorem dX7_addLengths_12 : decode cX7_addLengths 12 = .ok (.if_icmp .lt 29, 3) := by decide +kernel
theorem dX7_addLengths_15 : decode cX7_addLengths 15 = .ok (.iload_n 3, 1) := by decide +kernel
theorem dX7_addLengths_16 : decode cX7_addLengths 16 = .ok (.bipush 6, 2) := by decide +kernel
theorem dX7_addLengths_18 : decode cX7_addLengths 18 = .ok (.invokestatic 96, 3) := by decide +kernel
theorem dX7_addLengths_21 : decode cX7_addLengths 21 = .ok (.istore 4, 2) := by decide +kernel
theorem dX7_addLengths_23 : decode cX7_addLengths 23 = .ok (.aload_n 0, 1) := by decide +kernel
theorem dX7_addLengths_24 : decode cX7_addLengths 24 = .ok (.bipush 16, 2) := by decide +kernel
theorem dX7_addLengths_26 : decode cX7_addLengths 26 = .ok (.iload 4, 2) := by decide +kernel
theorem dX7_addLengths_28 : decode cX7_addLengths 28 = .ok (.iconst 3, 1) := by decide +kernel
theorem dX7_addLengths_29 : decode cX7_addLengths 29 = .ok (.isub, 1) := by decide +kernel
theorem dX7_addLengths_30 : decode cX7_addLengths 30 = .ok (.invokevirtual 99, 3) := by decide +kernel
theorem dX7_addLengths_33 : decode cX7_addLengths 33 = .ok (.iload_n 3, 1) := by decide +kernel
theorem dX7_addLengths_34 : decode cX7_addLengths 34 = .ok (.iload 4, 2) := by decide +kernel
theorem dX7_addLengths_36 : decode cX7_addLengths 36 = .ok (.isub, 1) := by decide +kernel
theorem dX7_addLengths_37 : decode cX7_addLengths 37 = .ok (.istore_n 3, 1) := by decide +kernel
theorem dX7_addLengths_38 : decode cX7_addLengths 38 = .ok (.goto (-28), 3) := by decide +kernel
theorem dX7_addLengths_41 : decode cX7_addLengths 41 = .ok (.iload_n 2, 1) := by decide +kernel
theorem dX7_addLengths_42 : decode cX7_addLengths 42 = .ok (.iload_n 3, 1) := by decide +kernel
theorem dX7_addLengths_43 : decode cX7_addLengths 43 = .ok (.isub, 1) := by decide +kernel
theorem dX7_addLengths_44 : decode cX7_addLengths 44 = .ok (.ireturn, 1) := by decide +kernel
def pX7_addLengths_b10 (o_cells_n : Nat) (o_counts_n : Nat) (x2 : Int32)  : Nat → Int32 → (Nat → Int32) → (Nat → Int32) → Int32 → Option (Int32 × Int32 × (Nat → Int32) × (Nat → Int32))
  | 0 => fun _ _ _ _ => none
  | n + 1 => fun o_size o_cells_v o_counts_v x3 =>
  if x3 < (3 : Int32) then
  (some ((x2 - x3), o_size, o_cells_v, o_counts_v))
  else
  ((pX7_addCell o_cells_n o_counts_n (16 : Int32) ((if (6 : Int32) < x3 then (6 : Int32) else x3) - (3 : Int32)) o_size o_cells_v o_counts_v).bind (fun u2 =>
  (pX7_addLengths_b10 o_cells_n o_counts_n x2 n) u2.1 u2.2.1 u2.2.2 (x3 - (if (6 : Int32) < x3 then (6 : Int32) else x3))))
def pX7_addLengths (o_cells_n : Nat) (o_counts_n : Nat) (x1 : Int32) (x2 : Int32)  (o_size : Int32) (o_cells_v : Nat → Int32) (o_counts_v : Nat → Int32) : Option (Int32 × Int32 × (Nat → Int32) × (Nat → Int32)) :=
  (pX7_addCell o_cells_n o_counts_n x1 (0 : Int32) o_size o_cells_v o_counts_v).bind (fun u3 =>
  pX7_addLengths_b10 o_cells_n o_counts_n x2 fb_F u3.1 u3.2.1 u3.2.2 (x2 - (1 : Int32)))
theorem hdX7_addLengths : yX7_addLengths.cls = RX7 ∧ yX7_addLengths.cls ≠ "java/lang/invoke/MethodHandle" ∧ yX7_addLengths.cls ≠ "java/lang/invoke/VarHandle" ∧ (parseMethodDescriptor yX7_addLengths.desc).map (fun d => d.parameters.length) = some 2 := by decide +kernel
set_option maxHeartbeats 8000000 in
set_option maxRecDepth 100000 in
theorem mX7_addLengths (l : Launch) (dC : Nat → ClassId) (dI : Nat → Nat → Nat) (o : Nat) (o_cells : Nat) (o_counts : Nat) (o_row : Nat) (o_codes : Nat) (o_cells_c : ClassId) (o_counts_c : ClassId) (o_cells_n : Nat) (o_counts_n : Nat) (o_symbolsTold : Int32) (o_distancesTold : Int32) (o_rowSize : Int32) (o_size : Int32) (o_lengthsTold : Int32) (o_cells_v : Nat → Int32) (o_counts_v : Nat → Int32) (x1 : Int32) (x2 : Int32) (sz : Nat) (u : Int32 × Int32 × (Nat → Int32) × (Nat → Int32)) (h : pX7_addLengths o_cells_n o_counts_n x1 x2 o_size o_cells_v o_counts_v = some u) : Met l yX7_addLengths (Cond.code yX7_addLengths cX7_addLengths 5 (some .int) :: fb_tb) ({ frames := 1, cells := 0, slots := 0, locals := 22 }) (fb_Pc (dC, dI) [.ref o, .int x1, .int x2] sz [(o_cells_c, .int), (o_counts_c, .int)] [(o, .inr (7, [.ref o_row, .ref o_cells, .ref o_counts, .ref o_codes, .int o_symbolsTold, .int o_distancesTold, .int o_rowSize, .int o_size, .int o_lengthsTold])), (o_cells, .inl (o_cells_c, o_cells_n, .inl o_cells_v)), (o_counts, .inl (o_counts_c, o_counts_n, .inl o_counts_v))]) (fb_Qi (dC, dI) u.1 [(o, .inr (7, [.ref o_row, .ref o_cells, .ref o_counts, .ref o_codes, .int o_symbolsTold, .int o_distancesTold, .int o_rowSize, .int u.2.1, .int o_lengthsTold])), (o_cells, .inl (o_cells_c, o_cells_n, .inl u.2.2.1)), (o_counts, .inl (o_counts_c, o_counts_n, .inl u.2.2.2))] (va_A [(o, .inr (7, [.ref o_row, .ref o_cells, .ref o_counts, .ref o_codes, .int o_symbolsTold, .int o_distancesTold, .int o_rowSize, .int o_size, .int o_lengthsTold])), (o_cells, .inl (o_cells_c, o_cells_n, .inl o_cells_v)), (o_counts, .inl (o_counts_c, o_counts_n, .inl o_counts_v))] sz)) 0 0 (va_A [(o, .inr (7, [.ref o_row, .ref o_cells, .ref o_counts, .ref o_codes, .int o_symbolsTold, .int o_distancesTold, .int o_rowSize, .int o_size, .int o_lengthsTold])), (o_cells, .inl (o_cells_c, o_cells_n, .inl o_cells_v)), (o_counts, .inl (o_counts_c, o_counts_n, .inl o_counts_v))] sz) := by
  refine fb_meti (ty := .int) (by decide) (Nat.le_of_ble_eq_true rfl) (fun p e s m args below meth c A Q ls H hx hb hml hown hts hP hK hN hZ hD hA hS hret hl => ?_)
  replace hl : lv_has ls 5 [(0, .ref o), (1, .int x1), (2, .int x2)] := hl
  have wB10 : ∀ n : Nat, ∀ (o_size : Int32) (o_cells_v : Nat → Int32) (o_counts_v : Nat → Int32) (x3 : Int32) (H : Heap) (locs : List Loc) (ls : Array Slot), va_P (dC, dI) fb_cl [(o, .inr (7, [.ref o_row, .ref o_cells, .ref o_counts, .ref o_codes, .int o_symbolsTold, .int o_distancesTold, .int o_rowSize, .int o_size, .int o_lengthsTold])), (o_cells, .inl (o_cells_c, o_cells_n, .inl o_cells_v)), (o_counts, .inl (o_counts_c, o_counts_n, .inl o_counts_v))] H → va_D A [(o, .inr (7, [.ref o_row, .ref o_cells, .ref o_counts, .ref o_codes, .int o_symbolsTold, .int o_distancesTold, .int o_rowSize, .int o_size, .int o_lengthsTold])), (o_cells, .inl (o_cells_c, o_cells_n, .inl o_cells_v)), (o_counts, .inl (o_counts_c, o_counts_n, .inl o_counts_v))] → va_S A s.heap H locs → lv_has ls 5 [(0, .ref o), (2, .int x2), (3, .int x3)] → pX7_addLengths_b10 o_cells_n o_counts_n x2 n o_size o_cells_v o_counts_v x3 = some u → W p l e ({ frames := 1, cells := 0, slots := 0, locals := 22 }) s m args below meth c H locs 0 0 Q (F0 m 10 ls []) := by
    intro n
    induction n with
    | zero => intro o_size o_cells_v o_counts_v x3 H locs ls hP hD hS hl h; cases h
    | succ n ih =>
      intro o_size o_cells_v o_counts_v x3 H locs ls hP hD hS hl h
      rw [pX7_addLengths_b10] at h
      refine lv_iload_n hx hb dX7_addLengths_10 rfl (lv_at hl 2 rfl) ?_
      refine lv_iconst (v := (3 : Int32)) hx hb dX7_addLengths_11 (by decide) ?_
      refine lv_icmp_lt (tgt := 41) hx hb dX7_addLengths_12 (by decide) (fun c1 => ?_) (fun c1 => ?_)
      · replace h := fb_t c1 h
        refine lv_iload_n hx hb dX7_addLengths_41 rfl (lv_at hl 1 rfl) ?_
        refine lv_iload_n hx hb dX7_addLengths_42 rfl (lv_at hl 2 rfl) ?_
        refine lv_isub hx hb dX7_addLengths_43 ?_
        have hu := Option.some.inj h
        exact hret _ _ _ _ _ dX7_addLengths_44 rfl (by rw [← hu]) (by rw [← hu]; exact hP) (by rw [← hu]; exact hD) hS
      · replace h := fb_f c1 h
        refine lv_iload_n hx hb dX7_addLengths_15 rfl (lv_at hl 2 rfl) ?_
        refine lv_bipush (v := (6 : Int32)) hx hb dX7_addLengths_16 (by decide) ?_
        refine va_mmin hx hb (hml.trans hl.1.symm) hown (hts _ k_549) (hts _ k_90) (hts _ k_63) (hts _ k_91) (Nat.le_of_ble_eq_true rfl) (Nat.le_of_ble_eq_true rfl) (Nat.zero_le _) (Nat.zero_le _) dX7_addLengths_18 ?_
        refine lv_istore (lv' := [(4, .int (if (6 : Int32) < x3 then (6 : Int32) else x3)), (0, .ref o), (2, .int x2), (3, .int x3)]) hx hb dX7_addLengths_21 hl (by decide) rfl (fun ls hl => ?_)
        refine lv_aload_n hx hb dX7_addLengths_23 rfl (lv_at hl 1 rfl) ?_
        refine lv_bipush (v := (16 : Int32)) hx hb dX7_addLengths_24 (by decide) ?_
        refine lv_iload hx hb dX7_addLengths_26 (lv_at hl 0 rfl) ?_
        refine lv_iconst (v := (3 : Int32)) hx hb dX7_addLengths_28 (by decide) ?_
        refine lv_isub hx hb dX7_addLengths_29 ?_
        obtain ⟨u2, e2, h⟩ := fb_b h
        refine fb_cv (wc := [(o, .inr (7, [.ref o_row, .ref o_cells, .ref o_counts, .ref o_codes, .int o_symbolsTold, .int o_distancesTold, .int o_rowSize, .int o_size, .int o_lengthsTold])), (o_cells, .inl (o_cells_c, o_cells_n, .inl o_cells_v)), (o_counts, .inl (o_counts_c, o_counts_n, .inl o_counts_v))]) (wr := []) (w1 := [(o, .inr (7, [.ref o_row, .ref o_cells, .ref o_counts, .ref o_codes, .int o_symbolsTold, .int o_distancesTold, .int o_rowSize, .int u2.1, .int o_lengthsTold])), (o_cells, .inl (o_cells_c, o_cells_n, .inl u2.2.1)), (o_counts, .inl (o_counts_c, o_counts_n, .inl u2.2.2))]) (ws' := [(o, .inr (7, [.ref o_row, .ref o_cells, .ref o_counts, .ref o_codes, .int o_symbolsTold, .int o_distancesTold, .int o_rowSize, .int u2.1, .int o_lengthsTold])), (o_cells, .inl (o_cells_c, o_cells_n, .inl u2.2.1)), (o_counts, .inl (o_counts_c, o_counts_n, .inl u2.2.2))]) (va_runV (As := [.int (16 : Int32), .int ((if (6 : Int32) < x3 then (6 : Int32) else x3) - (3 : Int32))]) (rest := []) ⟨hx, hb, hml, hown, hts⟩ (mX7_addCell l dC dI o o_cells o_counts o_row o_codes o_cells_c o_counts_c o_cells_n o_counts_n o_symbolsTold o_distancesTold o_rowSize o_size o_lengthsTold o_cells_v o_counts_v (16 : Int32) ((if (6 : Int32) < x3 then (6 : Int32) else x3) - (3 : Int32)) H.size u2 e2) (cwV 2 hts (fb_GV k_550 k_552 k_14 k_68 k_553) rfl rfl rfl hdX7_addCell ⟨Nat.le_of_ble_eq_true rfl, Nat.le_of_ble_eq_true rfl⟩) (fb_pV hP hD hS hA hK hN hZ [0, 1, 2] rfl rfl [0, 1] rfl (q0 := 0) (ci := 7) rfl rfl) rfl rfl hl.1 rfl (lv_room (Nat.le_of_ble_eq_true rfl)) dX7_addLengths_30 ⟨Nat.le_of_ble_eq_true rfl, Nat.le_of_ble_eq_true rfl⟩) hP hD hS hA [0, 1, 2] [] rfl rfl rfl (by decide) [0, 1, 2] rfl rfl (fun H locs hP hD hS => ?_)
        refine lv_iload_n hx hb dX7_addLengths_33 rfl (lv_at hl 3 rfl) ?_
        refine lv_iload hx hb dX7_addLengths_34 (lv_at hl 0 rfl) ?_
        refine lv_isub hx hb dX7_addLengths_36 ?_
        refine lv_istore_n (lv' := [(3, .int (x3 - (if (6 : Int32) < x3 then (6 : Int32) else x3))), (4, .int (if (6 : Int32) < x3 then (6 : Int32) else x3)), (0, .ref o), (2, .int x2)]) hx hb dX7_addLengths_37 rfl hl (by decide) rfl (fun ls hl => ?_)
        refine lv_goto (tgt := 10) hx hb dX7_addLengths_38 (by decide) ?_
        exact ih u2.1 u2.2.1 u2.2.2 (x3 - (if (6 : Int32) < x3 then (6 : Int32) else x3)) _ _ _ hP hD hS (lv_sub hl [2, 3, 0] rfl) h
  unfold pX7_addLengths at h
  refine lv_aload_n hx hb dX7_addLengths_0 rfl (lv_at hl 0 rfl) ?_
  refine lv_iload_n hx hb dX7_addLengths_1 rfl (lv_at hl 1 rfl) ?_
  refine lv_iconst (v := (0 : Int32)) hx hb dX7_addLengths_2 (by decide) ?_
  obtain ⟨u3, e3, h⟩ := fb_b h
  refine fb_cv (wc := [(o, .inr (7, [.ref o_row, .ref o_cells, .ref o_counts, .ref o_codes, .int o_symbolsTold, .int o_distancesTold, .int o_rowSize, .int o_size, .int o_lengthsTold])), (o_cells, .inl (o_cells_c, o_cells_n, .inl o_cells_v)), (o_counts, .inl (o_counts_c, o_counts_n, .inl o_counts_v))]) (wr := []) (w1 := [(o, .inr (7, [.ref o_row, .ref o_cells, .ref o_counts, .ref o_codes, .int o_symbolsTold, .int o_distancesTold, .int o_rowSize, .int u3.1, .int o_lengthsTold])), (o_cells, .inl (o_cells_c, o_cells_n, .inl u3.2.1)), (o_counts, .inl (o_counts_c, o_counts_n, .inl u3.2.2))]) (ws' := [(o, .inr (7, [.ref o_row, .ref o_cells, .ref o_counts, .ref o_codes, .int o_symbolsTold, .int o_distancesTold, .int o_rowSize, .int u3.1, .int o_lengthsTold])), (o_cells, .inl (o_cells_c, o_cells_n, .inl u3.2.1)), (o_counts, .inl (o_counts_c, o_counts_n, .inl u3.2.2))]) (va_runV (As := [.int x1, .int (0 : Int32)]) (rest := []) ⟨hx, hb, hml, hown, hts⟩ (mX7_addCell l dC dI o o_cells o_counts o_row o_codes o_cells_c o_counts_c o_cells_n o_counts_n o_symbolsTold o_distancesTold o_rowSize o_size o_lengthsTold o_cells_v o_counts_v x1 (0 : Int32) H.size u3 e3) (cwV 2 hts (fb_GV k_550 k_552 k_14 k_68 k_553) rfl rfl rfl hdX7_addCell ⟨Nat.le_of_ble_eq_true rfl, Nat.le_of_ble_eq_true rfl⟩) (fb_pV hP hD hS hA hK hN hZ [0, 1, 2] rfl rfl [0, 1] rfl (q0 := 0) (ci := 7) rfl rfl) rfl rfl hl.1 rfl (lv_room (Nat.le_of_ble_eq_true rfl)) dX7_addLengths_3 ⟨Nat.le_of_ble_eq_true rfl, Nat.le_of_ble_eq_true rfl⟩) hP hD hS hA [0, 1, 2] [] rfl rfl rfl (by decide) [0, 1, 2] rfl rfl (fun H locs hP hD hS => ?_)
  refine lv_iload_n hx hb dX7_addLengths_6 rfl (lv_at hl 2 rfl) ?_
  refine lv_iconst (v := (1 : Int32)) hx hb dX7_addLengths_7 (by decide) ?_
  refine lv_isub hx hb dX7_addLengths_8 ?_
  refine lv_istore_n (lv' := [(3, .int (x2 - (1 : Int32))), (0, .ref o), (1, .int x1), (2, .int x2)]) hx hb dX7_addLengths_9 rfl hl (by decide) rfl (fun ls hl => ?_)
  exact wB10 fb_F u3.1 u3.2.1 u3.2.2 (x2 - (1 : Int32)) _ _ _ hP hD hS (lv_sub hl [1, 3, 0] rfl) h
theorem dX7_gatherCells_0 : decode cX7_gatherCells 0 = .ok (.aload_n 0, 1) := by decide +kernel
theorem dX7_gatherCells_1 : decode cX7_gatherCells 1 = .ok (.iconst 0, 1) := by decide +kernel
theorem dX7_gatherCells_2 : decode cX7_gatherCells 2 = .ok (.putfield 77, 3) := by decide +kernel
theorem dX7_gatherCells_5 : decode cX7_gatherCells 5 = .ok (.aload_n 0, 1) := by decide +kernel
theorem dX7_gatherCells_6 : decode cX7_gatherCells 6 = .ok (.getfield 18, 3) := by decide +kernel
theorem dX7_gatherCells_9 : decode cX7_gatherCells 9 = .ok (.iconst 0, 1) := by decide +kernel
theorem dX7_gatherCells_10 : decode cX7_gatherCells 10 = .ok (.invokestatic 80, 3) := by decide +kernel
theorem dX7_gatherCells_13 : decode cX7_gatherCells 13 = .ok (.iconst 0, 1) := by decide +kernel
theorem dX7_gatherCells_14 : decode cX7_gatherCells 14 = .ok (.istore_n 1, 1) := by decide +kernel
theorem dX7_gatherCells_15 : decode cX7_gatherCells 15 = .ok (.iconst 0, 1) := by decide +kernel
theorem dX7_gatherCells_16 : decode cX7_gatherCells 16 = .ok (.istore_n 2, 1) := by decide +kernel
theorem dX7_gatherCells_17 : decode cX7_gatherCells 17 = .ok (.iload_n 2, 1) := by decide +kernel
theorem dX7_gatherCells_18 : decode cX7_gatherCells 18 = .ok (.aload_n 0, 1) := by decide +kernel
theorem dX7_gatherCells_19 : decode cX7_gatherCells 19 = .ok (.getfield 47, 3) := by decide +kernel
theorem dX7_gatherCells_22 : decode cX7_gatherCells 22 = .ok (.if_icmp .ge 54, 3) := by decide +kernel
theorem dX7_gatherCells_25 : decode cX7_gatherCells 25 = .ok (.iload_n 1, 1) := by decide +kernel
theorem dX7_gatherCells_26 : decode cX7_gatherCells 26 = .ok (.aload_n 0, 1) := by decide +kernel
theorem dX7_gatherCells_27 : decode cX7_gatherCells 27 = .ok (.getfield 47, 3) := by decide +kernel
theorem dX7_gatherCells_30 : decode cX7_gatherCells 30 = .ok (.if_icmp .ge 46, 3) := by decide +kernel
theorem dX7_gatherCells_33 : decode cX7_gatherCells 33 = .ok (.aload_n 0, 1) := by decide +kernel
theorem dX7_gatherCells_34 : decode cX7_gatherCells 34 = .ok (.iload_n 1, 1) := by decide +kernel
theorem dX7_gatherCells_35 : decode cX7_gatherCells 35 = .ok (.invokevirtual 86, 3) := by decide +kernel
theorem dX7_gatherCells_38 : decode cX7_gatherCells 38 = .ok (.istore_n 3, 1) := by decide +kernel
theorem dX7_gatherCells_39 : decode cX7_gatherCells 39 = .ok (.iload_n 1, 1) := by decide +kernel
theorem dX7_gatherCells_40 : decode cX7_gatherCells 40 = .ok (.aload_n 0, 1) := by decide +kernel
theorem dX7_gatherCells_41 : decode cX7_gatherCells 41 = .ok (.getfield 9, 3) := by decide +kernel
theorem dX7_gatherCells_44 : decode cX7_gatherCells 44 = .ok (.iload_n 1, 1) := by decide +kernel
theorem dX7_gatherCells_45 : decode cX7_gatherCells 45 = .ok (.iaload, 1) := by decide +kernel
theorem dX7_gatherCells_46 : decode cX7_gatherCells 46 = .ok (.ifCond .ne 11, 3) := by decide +kernel
theorem dX7_gatherCells_49 : decode cX7_gatherCells 49 = .ok (.aload_n 0, 1) := by decide +kernel
theorem dX7_gatherCells_50 : decode cX7_gatherCells 50 = .ok (.iload_n 3, 1) := by decide +kernel
theorem dX7_gatherCells_51 : decode cX7_gatherCells 51 = .ok (.invokevirtual 90, 3) := by decide +kernel
theorem dX7_gatherCells_54 : decode cX7_gatherCells 54 = .ok (.goto 14, 3) := by decide +kernel
theorem dX7_gatherCells_57 : decode cX7_gatherCells 57 = .ok (.aload_n 0, 1) := by decide +kernel
theorem dX7_gatherCells_58 : decode cX7_gatherCells 58 = .ok (.aload_n 0, 1) := by decide +kernel
theorem dX7_gatherCells_59 : decode cX7_gatherCells 59 = .ok (.getfield 9, 3) := by decide +kernel
theorem dX7_gatherCells_62 : decode cX7_gatherCells 62 = .ok (.iload_n 1, 1) := by decide +kernel
theorem dX7_gatherCells_63 : decode cX7_gatherCells 63 = .ok (.iaload, 1) := by decide +kernel
theorem dX7_gatherCells_64 : decode cX7_gatherCells 64 = .ok (.iload_n 3, 1) := by decide +kernel
theorem dX7_gatherCells_65 : decode cX7_gatherCells 65 = .ok (.invokevirtual 93, 3) := by decide +kernel
theorem dX7_gatherCells_68 : decode cX7_gatherCells 68 = .ok (.iadd, 1) := by decide +kernel
theorem dX7_gatherCells_69 : decode cX7_gatherCells 69 = .ok (.istore_n 1, 1) := by decide +kernel
theorem dX7_gatherCells_70 : decode cX7_gatherCells 70 = .ok (.iinc 2 1, 3) := by decide +kernel
theorem dX7_gatherCells_73 : decode cX7_gatherCells 73 = .ok (.goto (-56), 3) := by decide +kernel
theorem dX7_gatherCells_76 : decode cX7_gatherCells 76 = .ok (.return_, 1) := by decide +kernel
def pX7_gatherCells_b17 (o_counts_n : Nat) (o_row_n : Nat) (o_cells_n : Nat) (o_rowSize : Int32) (o_row_v : Nat → Int32)  : Nat → Int32 → (Nat → Int32) → (Nat → Int32) → Int32 → Int32 → Option (Int32 × (Nat → Int32) × (Nat → Int32))
  | 0 => fun _ _ _ _ _ => none
  | n + 1 => fun o_size o_counts_v o_cells_v x1 x2 =>
  if o_rowSize ≤ x2 then
  (some (o_size, o_counts_v, o_cells_v))
  else
  (if o_rowSize ≤ x1 then
  (some (o_size, o_counts_v, o_cells_v))
  else
  ((pX7_runFrom o_row_n o_rowSize o_row_v x1).bind (fun u3 =>
  if x1 < 0 ∨ o_row_n ≤ (x1).toNatClampNeg then none else
  if (o_row_v (x1).toNatClampNeg) = 0 then
  ((pX7_addZeros o_cells_n o_counts_n u3 o_size o_cells_v o_counts_v).bind (fun u8 =>
  (pX7_gatherCells_b17 o_counts_n o_row_n o_cells_n o_rowSize o_row_v n) u8.2.1 u8.2.2.2 u8.2.2.1 (x1 + u8.1) (x2 + (1 : Int32))))
  else
  (if x1 < 0 ∨ o_row_n ≤ (x1).toNatClampNeg then none else
  (pX7_addLengths o_cells_n o_counts_n (o_row_v (x1).toNatClampNeg) u3 o_size o_cells_v o_counts_v).bind (fun u7 =>
  (pX7_gatherCells_b17 o_counts_n o_row_n o_cells_n o_rowSize o_row_v n) u7.2.1 u7.2.2.2 u7.2.2.1 (x1 + u7.1) (x2 + (1 : Int32)))))))
def pX7_gatherCells (o_counts_n : Nat) (o_row_n : Nat) (o_cells_n : Nat) (o_rowSize : Int32) (o_row_v : Nat → Int32)  (o_counts_v : Nat → Int32) (o_cells_v : Nat → Int32) : Option (Int32 × (Nat → Int32) × (Nat → Int32)) :=
  (pJ7_fill_53178 o_counts_n (0 : Int32) o_counts_v).bind (fun u9 =>
  pX7_gatherCells_b17 o_counts_n o_row_n o_cells_n o_rowSize o_row_v fb_F (0 : Int32) u9 o_cells_v (0 : Int32) (0 : Int32))
theorem hdX7_gatherCells : yX7_gatherCells.cls = RX7 ∧ yX7_gatherCells.cls ≠ "java/lang/invoke/MethodHandle" ∧ yX7_gatherCells.cls ≠ "java/lang/invoke/VarHandle" ∧ (parseMethodDescriptor yX7_gatherCells.desc).map (fun d => d.parameters.length) = some 0 := by decide +kernel
set_option maxHeartbeats 8000000 in
set_option maxRecDepth 100000 in
theorem mX7_gatherCells (l : Launch) (dC : Nat → ClassId) (dI : Nat → Nat → Nat) (o : Nat) (o_counts : Nat) (o_row : Nat) (o_cells : Nat) (o_codes : Nat) (o_counts_c : ClassId) (o_row_c : ClassId) (o_cells_c : ClassId) (o_counts_n : Nat) (o_row_n : Nat) (o_cells_n : Nat) (o_symbolsTold : Int32) (o_distancesTold : Int32) (o_rowSize : Int32) (o_size : Int32) (o_lengthsTold : Int32) (o_counts_v : Nat → Int32) (o_row_v : Nat → Int32) (o_cells_v : Nat → Int32)  (sz : Nat) (u : Int32 × (Nat → Int32) × (Nat → Int32)) (h : pX7_gatherCells o_counts_n o_row_n o_cells_n o_rowSize o_row_v o_counts_v o_cells_v = some u) : Met l yX7_gatherCells (Cond.code yX7_gatherCells cX7_gatherCells 4 none :: fb_tb) ({ frames := 2, cells := 0, slots := 0, locals := 46 }) (fb_Pc (dC, dI) [.ref o] sz [(o_counts_c, .int), (o_row_c, .int), (o_cells_c, .int)] [(o, .inr (7, [.ref o_row, .ref o_cells, .ref o_counts, .ref o_codes, .int o_symbolsTold, .int o_distancesTold, .int o_rowSize, .int o_size, .int o_lengthsTold])), (o_counts, .inl (o_counts_c, o_counts_n, .inl o_counts_v)), (o_row, .inl (o_row_c, o_row_n, .inl o_row_v)), (o_cells, .inl (o_cells_c, o_cells_n, .inl o_cells_v))]) (fb_Qv (dC, dI) [(o, .inr (7, [.ref o_row, .ref o_cells, .ref o_counts, .ref o_codes, .int o_symbolsTold, .int o_distancesTold, .int o_rowSize, .int u.1, .int o_lengthsTold])), (o_counts, .inl (o_counts_c, o_counts_n, .inl u.2.1)), (o_row, .inl (o_row_c, o_row_n, .inl o_row_v)), (o_cells, .inl (o_cells_c, o_cells_n, .inl u.2.2))] (va_A [(o, .inr (7, [.ref o_row, .ref o_cells, .ref o_counts, .ref o_codes, .int o_symbolsTold, .int o_distancesTold, .int o_rowSize, .int o_size, .int o_lengthsTold])), (o_counts, .inl (o_counts_c, o_counts_n, .inl o_counts_v)), (o_row, .inl (o_row_c, o_row_n, .inl o_row_v)), (o_cells, .inl (o_cells_c, o_cells_n, .inl o_cells_v))] sz)) 0 0 (va_A [(o, .inr (7, [.ref o_row, .ref o_cells, .ref o_counts, .ref o_codes, .int o_symbolsTold, .int o_distancesTold, .int o_rowSize, .int o_size, .int o_lengthsTold])), (o_counts, .inl (o_counts_c, o_counts_n, .inl o_counts_v)), (o_row, .inl (o_row_c, o_row_n, .inl o_row_v)), (o_cells, .inl (o_cells_c, o_cells_n, .inl o_cells_v))] sz) := by
  refine fb_metv (by decide) (Nat.le_of_ble_eq_true rfl) (fun p e s m args below meth c A Q ls H hx hb hml hown hts hP hK hN hZ hD hA hS hret hl => ?_)
  replace hl : lv_has ls 4 [(0, .ref o)] := hl
  have wB17 : ∀ n : Nat, ∀ (o_size : Int32) (o_counts_v : Nat → Int32) (o_cells_v : Nat → Int32) (x1 : Int32) (x2 : Int32) (H : Heap) (locs : List Loc) (ls : Array Slot), va_P (dC, dI) fb_cl [(o, .inr (7, [.ref o_row, .ref o_cells, .ref o_counts, .ref o_codes, .int o_symbolsTold, .int o_distancesTold, .int o_rowSize, .int o_size, .int o_lengthsTold])), (o_counts, .inl (o_counts_c, o_counts_n, .inl o_counts_v)), (o_row, .inl (o_row_c, o_row_n, .inl o_row_v)), (o_cells, .inl (o_cells_c, o_cells_n, .inl o_cells_v))] H → va_D A [(o, .inr (7, [.ref o_row, .ref o_cells, .ref o_counts, .ref o_codes, .int o_symbolsTold, .int o_distancesTold, .int o_rowSize, .int o_size, .int o_lengthsTold])), (o_counts, .inl (o_counts_c, o_counts_n, .inl o_counts_v)), (o_row, .inl (o_row_c, o_row_n, .inl o_row_v)), (o_cells, .inl (o_cells_c, o_cells_n, .inl o_cells_v))] → va_S A s.heap H locs → lv_has ls 4 [(0, .ref o), (1, .int x1), (2, .int x2)] → pX7_gatherCells_b17 o_counts_n o_row_n o_cells_n o_rowSize o_row_v n o_size o_counts_v o_cells_v x1 x2 = some u → W p l e ({ frames := 2, cells := 0, slots := 0, locals := 46 }) s m args below meth c H locs 0 0 Q (F0 m 17 ls []) := by
    intro n
    induction n with
    | zero => intro o_size o_counts_v o_cells_v x1 x2 H locs ls hP hD hS hl h; cases h
    | succ n ih =>
      intro o_size o_counts_v o_cells_v x1 x2 H locs ls hP hD hS hl h
      rw [pX7_gatherCells_b17] at h
      refine lv_iload_n hx hb dX7_gatherCells_17 rfl (lv_at hl 2 rfl) ?_
      refine lv_aload_n hx hb dX7_gatherCells_18 rfl (lv_at hl 0 rfl) ?_
      refine va_get (D := (dC, dI)) (ci := 7) (v := .int o_rowSize) (C := RX7) (T := TX7) (N := 9) hx hb hts i_X7 hown hK hP 0 rfl rfl 6 (by decide) (hts _ k_200) (fun _ h9 => h9) rfl dX7_gatherCells_19 ?_
      refine lv_icmp_ge (tgt := 76) hx hb dX7_gatherCells_22 (by decide) (fun c1 => ?_) (fun c1 => ?_)
      · replace h := fb_t c1 h
        have hu := Option.some.inj h
        exact hret _ _ _ _ dX7_gatherCells_76 (by rw [← hu]; exact hP) (by rw [← hu]; exact hD) hS
      · replace h := fb_f c1 h
        refine lv_iload_n hx hb dX7_gatherCells_25 rfl (lv_at hl 1 rfl) ?_
        refine lv_aload_n hx hb dX7_gatherCells_26 rfl (lv_at hl 0 rfl) ?_
        refine va_get (D := (dC, dI)) (ci := 7) (v := .int o_rowSize) (C := RX7) (T := TX7) (N := 9) hx hb hts i_X7 hown hK hP 0 rfl rfl 6 (by decide) (hts _ k_200) (fun _ h9 => h9) rfl dX7_gatherCells_27 ?_
        refine lv_icmp_ge (tgt := 76) hx hb dX7_gatherCells_30 (by decide) (fun c2 => ?_) (fun c2 => ?_)
        · replace h := fb_t c2 h
          have hu := Option.some.inj h
          exact hret _ _ _ _ dX7_gatherCells_76 (by rw [← hu]; exact hP) (by rw [← hu]; exact hD) hS
        · replace h := fb_f c2 h
          refine lv_aload_n hx hb dX7_gatherCells_33 rfl (lv_at hl 0 rfl) ?_
          refine lv_iload_n hx hb dX7_gatherCells_34 rfl (lv_at hl 1 rfl) ?_
          obtain ⟨u3, e3, h⟩ := fb_b h
          refine fb_ci (wc := [(o, .inr (7, [.ref o_row, .ref o_cells, .ref o_counts, .ref o_codes, .int o_symbolsTold, .int o_distancesTold, .int o_rowSize, .int o_size, .int o_lengthsTold])), (o_row, .inl (o_row_c, o_row_n, .inl o_row_v))]) (wr := [(o_counts, .inl (o_counts_c, o_counts_n, .inl o_counts_v)), (o_cells, .inl (o_cells_c, o_cells_n, .inl o_cells_v))]) (w1 := [(o, .inr (7, [.ref o_row, .ref o_cells, .ref o_counts, .ref o_codes, .int o_symbolsTold, .int o_distancesTold, .int o_rowSize, .int o_size, .int o_lengthsTold])), (o_row, .inl (o_row_c, o_row_n, .inl o_row_v))]) (ws' := [(o, .inr (7, [.ref o_row, .ref o_cells, .ref o_counts, .ref o_codes, .int o_symbolsTold, .int o_distancesTold, .int o_rowSize, .int o_size, .int o_lengthsTold])), (o_counts, .inl (o_counts_c, o_counts_n, .inl o_counts_v)), (o_row, .inl (o_row_c, o_row_n, .inl o_row_v)), (o_cells, .inl (o_cells_c, o_cells_n, .inl o_cells_v))]) (va_runV (As := [.int x1]) (rest := []) ⟨hx, hb, hml, hown, hts⟩ (mX7_runFrom l dC dI o o_row o_cells o_counts o_codes o_row_c o_row_n o_symbolsTold o_distancesTold o_rowSize o_size o_lengthsTold o_row_v x1 H.size u3 e3) (cwV 1 hts (fb_GV k_541 k_543 k_12 k_68 k_544) rfl rfl rfl hdX7_runFrom ⟨Nat.le_of_ble_eq_true rfl, Nat.le_of_ble_eq_true rfl⟩) (fb_pV hP hD hS hA hK hN hZ [0, 2] rfl rfl [1] rfl (q0 := 0) (ci := 7) rfl rfl) rfl rfl hl.1 rfl (lv_room (Nat.le_of_ble_eq_true rfl)) dX7_gatherCells_35 ⟨Nat.le_of_ble_eq_true rfl, Nat.le_of_ble_eq_true rfl⟩) hP hD hS hA [0, 2] [1, 3] rfl rfl rfl (by decide) [2, 0, 3, 1] rfl rfl (fun H locs hP hD hS => ?_)
          refine lv_istore_n (lv' := [(3, .int u3), (0, .ref o), (1, .int x1), (2, .int x2)]) hx hb dX7_gatherCells_38 rfl hl (by decide) rfl (fun ls hl => ?_)
          refine lv_iload_n hx hb dX7_gatherCells_39 rfl (lv_at hl 2 rfl) ?_
          refine lv_aload_n hx hb dX7_gatherCells_40 rfl (lv_at hl 1 rfl) ?_
          refine va_get (D := (dC, dI)) (ci := 7) (v := .ref o_row) (C := RX7) (T := TX7) (N := 9) hx hb hts i_X7 hown hK hP 0 rfl rfl 0 (by decide) (hts _ k_194) (fun _ h9 => h9) rfl dX7_gatherCells_41 ?_
          refine lv_iload_n hx hb dX7_gatherCells_44 rfl (lv_at hl 2 rfl) ?_
          obtain ⟨g4, h⟩ := fb_g h
          refine va_iald hx hb hK hP 2 1 rfl rfl g4 dX7_gatherCells_45 ?_
          refine lv_if_ne (tgt := 57) hx hb dX7_gatherCells_46 (by decide) (fun c5 => ?_) (fun c5 => ?_)
          · replace h := fb_f c5 h
            refine lv_aload_n hx hb dX7_gatherCells_57 rfl (lv_at hl 1 rfl) ?_
            refine lv_aload_n hx hb dX7_gatherCells_58 rfl (lv_at hl 1 rfl) ?_
            refine va_get (D := (dC, dI)) (ci := 7) (v := .ref o_row) (C := RX7) (T := TX7) (N := 9) hx hb hts i_X7 hown hK hP 0 rfl rfl 0 (by decide) (hts _ k_194) (fun _ h9 => h9) rfl dX7_gatherCells_59 ?_
            refine lv_iload_n hx hb dX7_gatherCells_62 rfl (lv_at hl 2 rfl) ?_
            obtain ⟨g6, h⟩ := fb_g h
            refine va_iald hx hb hK hP 2 1 rfl rfl g6 dX7_gatherCells_63 ?_
            refine lv_iload_n hx hb dX7_gatherCells_64 rfl (lv_at hl 0 rfl) ?_
            obtain ⟨u7, e7, h⟩ := fb_b h
            refine fb_ci (wc := [(o, .inr (7, [.ref o_row, .ref o_cells, .ref o_counts, .ref o_codes, .int o_symbolsTold, .int o_distancesTold, .int o_rowSize, .int o_size, .int o_lengthsTold])), (o_cells, .inl (o_cells_c, o_cells_n, .inl o_cells_v)), (o_counts, .inl (o_counts_c, o_counts_n, .inl o_counts_v))]) (wr := [(o_row, .inl (o_row_c, o_row_n, .inl o_row_v))]) (w1 := [(o, .inr (7, [.ref o_row, .ref o_cells, .ref o_counts, .ref o_codes, .int o_symbolsTold, .int o_distancesTold, .int o_rowSize, .int u7.2.1, .int o_lengthsTold])), (o_cells, .inl (o_cells_c, o_cells_n, .inl u7.2.2.1)), (o_counts, .inl (o_counts_c, o_counts_n, .inl u7.2.2.2))]) (ws' := [(o, .inr (7, [.ref o_row, .ref o_cells, .ref o_counts, .ref o_codes, .int o_symbolsTold, .int o_distancesTold, .int o_rowSize, .int u7.2.1, .int o_lengthsTold])), (o_counts, .inl (o_counts_c, o_counts_n, .inl u7.2.2.2)), (o_row, .inl (o_row_c, o_row_n, .inl o_row_v)), (o_cells, .inl (o_cells_c, o_cells_n, .inl u7.2.2.1))]) (va_runV (As := [.int (o_row_v (x1).toNatClampNeg), .int u3]) (rest := [.int x1]) ⟨hx, hb, hml, hown, hts⟩ (mX7_addLengths l dC dI o o_cells o_counts o_row o_codes o_cells_c o_counts_c o_cells_n o_counts_n o_symbolsTold o_distancesTold o_rowSize o_size o_lengthsTold o_cells_v o_counts_v (o_row_v (x1).toNatClampNeg) u3 H.size u7 e7) (cwV 2 hts (fb_GV k_554 k_556 k_15 k_68 k_557) rfl rfl rfl hdX7_addLengths ⟨Nat.le_of_ble_eq_true rfl, Nat.le_of_ble_eq_true rfl⟩) (fb_pV hP hD hS hA hK hN hZ [0, 3, 1] rfl rfl [2, 0] rfl (q0 := 0) (ci := 7) rfl rfl) rfl rfl hl.1 rfl (lv_room (Nat.le_of_ble_eq_true rfl)) dX7_gatherCells_65 ⟨Nat.le_of_ble_eq_true rfl, Nat.le_of_ble_eq_true rfl⟩) hP hD hS hA [0, 3, 1] [2] rfl rfl rfl (by decide) [1, 3, 0, 2] rfl rfl (fun H locs hP hD hS => ?_)
            refine lv_iadd hx hb dX7_gatherCells_68 ?_
            refine lv_istore_n (lv' := [(1, .int (x1 + u7.1)), (3, .int u3), (0, .ref o), (2, .int x2)]) hx hb dX7_gatherCells_69 rfl hl (by decide) rfl (fun ls hl => ?_)
            refine lv_iinc (v := (x2 + (1 : Int32))) (lv' := [(2, .int (x2 + (1 : Int32))), (1, .int (x1 + u7.1)), (3, .int u3), (0, .ref o)]) hx hb dX7_gatherCells_70 hl (k := 3) rfl rfl (by decide) rfl (fun ls hl => ?_)
            refine lv_goto (tgt := 17) hx hb dX7_gatherCells_73 (by decide) ?_
            exact ih u7.2.1 u7.2.2.2 u7.2.2.1 (x1 + u7.1) (x2 + (1 : Int32)) _ _ _ hP hD hS (lv_sub hl [3, 1, 0] rfl) h
          · replace h := fb_t c5 h
            refine lv_aload_n hx hb dX7_gatherCells_49 rfl (lv_at hl 1 rfl) ?_
            refine lv_iload_n hx hb dX7_gatherCells_50 rfl (lv_at hl 0 rfl) ?_
            obtain ⟨u8, e8, h⟩ := fb_b h
            refine fb_ci (wc := [(o, .inr (7, [.ref o_row, .ref o_cells, .ref o_counts, .ref o_codes, .int o_symbolsTold, .int o_distancesTold, .int o_rowSize, .int o_size, .int o_lengthsTold])), (o_cells, .inl (o_cells_c, o_cells_n, .inl o_cells_v)), (o_counts, .inl (o_counts_c, o_counts_n, .inl o_counts_v))]) (wr := [(o_row, .inl (o_row_c, o_row_n, .inl o_row_v))]) (w1 := [(o, .inr (7, [.ref o_row, .ref o_cells, .ref o_counts, .ref o_codes, .int o_symbolsTold, .int o_distancesTold, .int o_rowSize, .int u8.2.1, .int o_lengthsTold])), (o_cells, .inl (o_cells_c, o_cells_n, .inl u8.2.2.1)), (o_counts, .inl (o_counts_c, o_counts_n, .inl u8.2.2.2))]) (ws' := [(o, .inr (7, [.ref o_row, .ref o_cells, .ref o_counts, .ref o_codes, .int o_symbolsTold, .int o_distancesTold, .int o_rowSize, .int u8.2.1, .int o_lengthsTold])), (o_counts, .inl (o_counts_c, o_counts_n, .inl u8.2.2.2)), (o_row, .inl (o_row_c, o_row_n, .inl o_row_v)), (o_cells, .inl (o_cells_c, o_cells_n, .inl u8.2.2.1))]) (va_runV (As := [.int u3]) (rest := [.int x1]) ⟨hx, hb, hml, hown, hts⟩ (mX7_addZeros l dC dI o o_cells o_counts o_row o_codes o_cells_c o_counts_c o_cells_n o_counts_n o_symbolsTold o_distancesTold o_rowSize o_size o_lengthsTold o_cells_v o_counts_v u3 H.size u8 e8) (cwV 1 hts (fb_GV k_545 k_547 k_13 k_68 k_548) rfl rfl rfl hdX7_addZeros ⟨Nat.le_of_ble_eq_true rfl, Nat.le_of_ble_eq_true rfl⟩) (fb_pV hP hD hS hA hK hN hZ [0, 3, 1] rfl rfl [2, 0] rfl (q0 := 0) (ci := 7) rfl rfl) rfl rfl hl.1 rfl (lv_room (Nat.le_of_ble_eq_true rfl)) dX7_gatherCells_51 ⟨Nat.le_of_ble_eq_true rfl, Nat.le_of_ble_eq_true rfl⟩) hP hD hS hA [0, 3, 1] [2] rfl rfl rfl (by decide) [1, 3, 0, 2] rfl rfl (fun H locs hP hD hS => ?_)
            refine lv_goto (tgt := 68) hx hb dX7_gatherCells_54 (by decide) ?_
            refine lv_iadd hx hb dX7_gatherCells_68 ?_
            refine lv_istore_n (lv' := [(1, .int (x1 + u8.1)), (3, .int u3), (0, .ref o), (2, .int x2)]) hx hb dX7_gatherCells_69 rfl hl (by decide) rfl (fun ls hl => ?_)
            refine lv_iinc (v := (x2 + (1 : Int32))) (lv' := [(2, .int (x2 + (1 : Int32))), (1, .int (x1 + u8.1)), (3, .int u3), (0, .ref o)]) hx hb dX7_gatherCells_70 hl (k := 3) rfl rfl (by decide) rfl (fun ls hl => ?_)
            refine lv_goto (tgt := 17) hx hb dX7_gatherCells_73 (by decide) ?_
            exact ih u8.2.1 u8.2.2.2 u8.2.2.1 (x1 + u8.1) (x2 + (1 : Int32)) _ _ _ hP hD hS (lv_sub hl [3, 1, 0] rfl) h
  unfold pX7_gatherCells at h
  refine lv_aload_n hx hb dX7_gatherCells_0 rfl (lv_at hl 0 rfl) ?_
  refine lv_iconst (v := (0 : Int32)) hx hb dX7_gatherCells_1 (by decide) ?_
  refine va_put (D := (dC, dI)) (ci := 7) (v := .int (0 : Int32)) (ty := .int) (C := RX7) (T := TX7) (N := 9) hx hb hts i_X7 tyX7 tyX7_ok nmX7 hown hK hP hD hS 0 rfl rfl 7 (by decide) (hts _ k_201) (fun _ h9 => h9) rfl (by decide +kernel) rfl rfl (Nat.le_of_ble_eq_true rfl) dX7_gatherCells_2 (fun H locs hP hD hS => ?_)
  replace hP : va_P (dC, dI) fb_cl [(o, .inr (7, [.ref o_row, .ref o_cells, .ref o_counts, .ref o_codes, .int o_symbolsTold, .int o_distancesTold, .int o_rowSize, .int (0 : Int32), .int o_lengthsTold])), (o_counts, .inl (o_counts_c, o_counts_n, .inl o_counts_v)), (o_row, .inl (o_row_c, o_row_n, .inl o_row_v)), (o_cells, .inl (o_cells_c, o_cells_n, .inl o_cells_v))] H := hP
  replace hD : va_D A [(o, .inr (7, [.ref o_row, .ref o_cells, .ref o_counts, .ref o_codes, .int o_symbolsTold, .int o_distancesTold, .int o_rowSize, .int (0 : Int32), .int o_lengthsTold])), (o_counts, .inl (o_counts_c, o_counts_n, .inl o_counts_v)), (o_row, .inl (o_row_c, o_row_n, .inl o_row_v)), (o_cells, .inl (o_cells_c, o_cells_n, .inl o_cells_v))] := hD
  refine lv_aload_n hx hb dX7_gatherCells_5 rfl (lv_at hl 0 rfl) ?_
  refine va_get (D := (dC, dI)) (ci := 7) (v := .ref o_counts) (C := RX7) (T := TX7) (N := 9) hx hb hts i_X7 hown hK hP 0 rfl rfl 2 (by decide) (hts _ k_196) (fun _ h9 => h9) rfl dX7_gatherCells_6 ?_
  refine lv_iconst (v := (0 : Int32)) hx hb dX7_gatherCells_9 (by decide) ?_
  obtain ⟨u9, e9, h⟩ := fb_b h
  refine fb_cv (wc := [(o_counts, .inl (o_counts_c, o_counts_n, .inl o_counts_v))]) (wr := [(o, .inr (7, [.ref o_row, .ref o_cells, .ref o_counts, .ref o_codes, .int o_symbolsTold, .int o_distancesTold, .int o_rowSize, .int (0 : Int32), .int o_lengthsTold])), (o_row, .inl (o_row_c, o_row_n, .inl o_row_v)), (o_cells, .inl (o_cells_c, o_cells_n, .inl o_cells_v))]) (w1 := [(o_counts, .inl (o_counts_c, o_counts_n, .inl u9))]) (ws' := [(o, .inr (7, [.ref o_row, .ref o_cells, .ref o_counts, .ref o_codes, .int o_symbolsTold, .int o_distancesTold, .int o_rowSize, .int (0 : Int32), .int o_lengthsTold])), (o_counts, .inl (o_counts_c, o_counts_n, .inl u9)), (o_row, .inl (o_row_c, o_row_n, .inl o_row_v)), (o_cells, .inl (o_cells_c, o_cells_n, .inl o_cells_v))]) (va_runS (As := [.ref o_counts, .int (0 : Int32)]) (rest := []) ⟨hx, hb, hml, hown, hts⟩ (mJ7_fill_53178 l dC dI o_counts o_counts_c o_counts_n o_counts_v (0 : Int32) H.size u9 e9) (va_cwS 2 hts (fb_GSx k_540 k_438 k_75 k_439) rfl rfl rfl hdJ7_fill_53178 ⟨Nat.le_of_ble_eq_true rfl, Nat.le_of_ble_eq_true rfl⟩) (fb_pS hP hD hS hA hK hN hZ [1] rfl rfl [0] rfl) rfl rfl hl.1 rfl (lv_room (Nat.le_of_ble_eq_true rfl)) dX7_gatherCells_10 ⟨Nat.le_of_ble_eq_true rfl, Nat.le_of_ble_eq_true rfl⟩) hP hD hS hA [1] [0, 2, 3] rfl rfl rfl (by decide) [0, 3, 1, 2] rfl rfl (fun H locs hP hD hS => ?_)
  refine lv_iconst (v := (0 : Int32)) hx hb dX7_gatherCells_13 (by decide) ?_
  refine lv_istore_n (lv' := [(1, .int (0 : Int32)), (0, .ref o)]) hx hb dX7_gatherCells_14 rfl hl (by decide) rfl (fun ls hl => ?_)
  refine lv_iconst (v := (0 : Int32)) hx hb dX7_gatherCells_15 (by decide) ?_
  refine lv_istore_n (lv' := [(2, .int (0 : Int32)), (1, .int (0 : Int32)), (0, .ref o)]) hx hb dX7_gatherCells_16 rfl hl (by decide) rfl (fun ls hl => ?_)
  exact wB17 fb_F (0 : Int32) u9 o_cells_v (0 : Int32) (0 : Int32) _ _ _ hP hD hS (lv_sub hl [2, 1, 0] rfl) h
