theorem dX4_alike_0 : decode cX4_alike 0 = .ok (.iconst 0, 1) := by decide +kernel
theorem dX4_alike_1 : decode cX4_alike 1 = .ok (.istore 4, 2) := by decide +kernel
theorem dX4_alike_3 : decode cX4_alike 3 = .ok (.iload 4, 2) := by decide +kernel
theorem dX4_alike_5 : decode cX4_alike 5 = .ok (.iload_n 3, 1) := by decide +kernel
theorem dX4_alike_6 : decode cX4_alike 6 = .ok (.if_icmp .ge 36, 3) := by decide +kernel
theorem dX4_alike_9 : decode cX4_alike 9 = .ok (.aload_n 0, 1) := by decide +kernel
theorem dX4_alike_10 : decode cX4_alike 10 = .ok (.getfield 15, 3) := by decide +kernel
theorem dX4_alike_13 : decode cX4_alike 13 = .ok (.getfield 69, 3) := by decide +kernel
theorem dX4_alike_16 : decode cX4_alike 16 = .ok (.iload_n 1, 1) := by decide +kernel
theorem dX4_alike_17 : decode cX4_alike 17 = .ok (.iload 4, 2) := by decide +kernel
theorem dX4_alike_19 : decode cX4_alike 19 = .ok (.iadd, 1) := by decide +kernel
theorem dX4_alike_20 : decode cX4_alike 20 = .ok (.baload, 1) := by decide +kernel
theorem dX4_alike_21 : decode cX4_alike 21 = .ok (.aload_n 0, 1) := by decide +kernel
theorem dX4_alike_22 : decode cX4_alike 22 = .ok (.getfield 15, 3) := by decide +kernel
theorem dX4_alike_25 : decode cX4_alike 25 = .ok (.getfield 69, 3) := by decide +kernel
theorem dX4_alike_28 : decode cX4_alike 28 = .ok (.iload_n 2, 1) := by decide +kernel
theorem dX4_alike_29 : decode cX4_alike 29 = .ok (.iload 4, 2) := by decide +kernel
theorem dX4_alike_31 : decode cX4_alike 31 = .ok (.iadd, 1) := by decide +kernel
theorem dX4_alike_32 : decode cX4_alike 32 = .ok (.baload, 1) := by decide +kernel
theorem dX4_alike_33 : decode cX4_alike 33 = .ok (.if_icmp .ne 9, 3) := by decide +kernel
theorem dX4_alike_36 : decode cX4_alike 36 = .ok (.iinc 4 1, 3) := by decide +kernel
theorem dX4_alike_39 : decode cX4_alike 39 = .ok (.goto (-36), 3) := by decide +kernel
theorem dX4_alike_42 : decode cX4_alike 42 = .ok (.iload 4, 2) := by decide +kernel
theorem dX4_alike_44 : decode cX4_alike 44 = .ok (.ireturn, 1) := by decide +kernel
def pX4_alike_b3 (o_text_bytes_n : Nat) (o_text_bytes_v : Nat → Int32) (x1 : Int32) (x2 : Int32) (x3 : Int32)  : Nat → Int32 → Option (Int32)
  | 0 => fun _ => none
  | n + 1 => fun x4 =>
  if x3 ≤ x4 then
  (some (x4))
  else
  (if (x1 + x4) < 0 ∨ o_text_bytes_n ≤ ((x1 + x4)).toNatClampNeg then none else
  if (x2 + x4) < 0 ∨ o_text_bytes_n ≤ ((x2 + x4)).toNatClampNeg then none else
  if (o_text_bytes_v ((x1 + x4)).toNatClampNeg) = (o_text_bytes_v ((x2 + x4)).toNatClampNeg) then
  ((pX4_alike_b3 o_text_bytes_n o_text_bytes_v x1 x2 x3 n) (x4 + (1 : Int32)))
  else
  (some (x4)))
def pX4_alike (o_text_bytes_n : Nat) (o_text_bytes_v : Nat → Int32) (x1 : Int32) (x2 : Int32) (x3 : Int32)   : Option (Int32) :=
  pX4_alike_b3 o_text_bytes_n o_text_bytes_v x1 x2 x3 fb_F (0 : Int32)
theorem hdX4_alike : yX4_alike.cls = RX4 ∧ yX4_alike.cls ≠ "java/lang/invoke/MethodHandle" ∧ yX4_alike.cls ≠ "java/lang/invoke/VarHandle" ∧ (parseMethodDescriptor yX4_alike.desc).map (fun d => d.parameters.length) = some 3 := by decide +kernel
set_option maxHeartbeats 8000000 in
set_option maxRecDepth 100000 in
theorem mX4_alike (l : Launch) (dC : Nat → ClassId) (dI : Nat → Nat → Nat) (o : Nat) (o_text : Nat) (o_text_bytes : Nat) (o_latest : Nat) (o_earlier : Nat) (o_text_bytes_c : ClassId) (o_text_bytes_n : Nat) (o_chain : Int32) (o_linked : Int32) (o_length : Int32) (o_distance : Int32) (o_text_size : Int32) (o_text_bytes_v : Nat → Int32) (x1 : Int32) (x2 : Int32) (x3 : Int32) (sz : Nat) (u : Int32) (h : pX4_alike o_text_bytes_n o_text_bytes_v x1 x2 x3 = some u) : Met l yX4_alike (Cond.code yX4_alike cX4_alike 5 (some .int) :: fb_tb) ({ frames := 0, cells := 0, slots := 0, locals := 0 }) (fb_Pc (dC, dI) [.ref o, .int x1, .int x2, .int x3] sz [(o_text_bytes_c, .byte)] [(o, .inr (4, [.ref o_text, .int o_chain, .ref o_latest, .ref o_earlier, .int o_linked, .int o_length, .int o_distance])), (o_text, .inr (6, [.ref o_text_bytes, .int o_text_size])), (o_text_bytes, .inl (o_text_bytes_c, o_text_bytes_n, .inl o_text_bytes_v))]) (fb_Qi (dC, dI) u [(o, .inr (4, [.ref o_text, .int o_chain, .ref o_latest, .ref o_earlier, .int o_linked, .int o_length, .int o_distance])), (o_text, .inr (6, [.ref o_text_bytes, .int o_text_size])), (o_text_bytes, .inl (o_text_bytes_c, o_text_bytes_n, .inl o_text_bytes_v))] (va_A [(o, .inr (4, [.ref o_text, .int o_chain, .ref o_latest, .ref o_earlier, .int o_linked, .int o_length, .int o_distance])), (o_text, .inr (6, [.ref o_text_bytes, .int o_text_size])), (o_text_bytes, .inl (o_text_bytes_c, o_text_bytes_n, .inl o_text_bytes_v))] sz)) 0 0 (va_A [(o, .inr (4, [.ref o_text, .int o_chain, .ref o_latest, .ref o_earlier, .int o_linked, .int o_length, .int o_distance])), (o_text, .inr (6, [.ref o_text_bytes, .int o_text_size])), (o_text_bytes, .inl (o_text_bytes_c, o_text_bytes_n, .inl o_text_bytes_v))] sz) := by
  refine fb_meti (ty := .int) (by decide) (Nat.le_of_ble_eq_true rfl) (fun p e s m args below meth c A Q ls H hx hb hml hown hts hP hK hN hZ hD hA hS hret hl => ?_)
  replace hl : lv_has ls 5 [(0, .ref o), (1, .int x1), (2, .int x2), (3, .int x3)] := hl
  have wB3 : ∀ n : Nat, ∀ (x4 : Int32) (H : Heap) (locs : List Loc) (ls : Array Slot), va_P (dC, dI) fb_cl [(o, .inr (4, [.ref o_text, .int o_chain, .ref o_latest, .ref o_earlier, .int o_linked, .int o_length, .int o_distance])), (o_text, .inr (6, [.ref o_text_bytes, .int o_text_size])), (o_text_bytes, .inl (o_text_bytes_c, o_text_bytes_n, .inl o_text_bytes_v))] H → va_D A [(o, .inr (4, [.ref o_text, .int o_chain, .ref o_latest, .ref o_earlier, .int o_linked, .int o_length, .int o_distance])), (o_text, .inr (6, [.ref o_text_bytes, .int o_text_size])), (o_text_bytes, .inl (o_text_bytes_c, o_text_bytes_n, .inl o_text_bytes_v))] → va_S A s.heap H locs → lv_has ls 5 [(0, .ref o), (1, .int x1), (2, .int x2), (3, .int x3), (4, .int x4)] → pX4_alike_b3 o_text_bytes_n o_text_bytes_v x1 x2 x3 n x4 = some u → W p l e ({ frames := 0, cells := 0, slots := 0, locals := 0 }) s m args below meth c H locs 0 0 Q (F0 m 3 ls []) := by
    intro n
    induction n with
    | zero => intro x4 H locs ls hP hD hS hl h; cases h
    | succ n ih =>
      intro x4 H locs ls hP hD hS hl h
      rw [pX4_alike_b3] at h
      refine lv_iload hx hb dX4_alike_3 (lv_at hl 4 rfl) ?_
      refine lv_iload_n hx hb dX4_alike_5 rfl (lv_at hl 3 rfl) ?_
      refine lv_icmp_ge (tgt := 42) hx hb dX4_alike_6 (by decide) (fun c1 => ?_) (fun c1 => ?_)
      · replace h := fb_t c1 h
        refine lv_iload hx hb dX4_alike_42 (lv_at hl 4 rfl) ?_
        have hu := Option.some.inj h
        exact hret _ _ _ _ _ dX4_alike_44 rfl (by rw [← hu]) hP hD hS
      · replace h := fb_f c1 h
        refine lv_aload_n hx hb dX4_alike_9 rfl (lv_at hl 0 rfl) ?_
        refine va_get (D := (dC, dI)) (ci := 4) (v := .ref o_text) (C := RX4) (T := TX4) (N := 7) hx hb hts i_X4 hown hK hP 0 rfl rfl 0 (by decide) (hts _ k_238) (fun _ h9 => h9) rfl dX4_alike_10 ?_
        refine va_get (D := (dC, dI)) (ci := 6) (v := .ref o_text_bytes) (C := RX6) (T := TX6) (N := 2) hx hb hts i_X6 hown hK hP 1 rfl rfl 0 (by decide) (hts _ k_104) (fun _ h9 => h9) rfl dX4_alike_13 ?_
        refine lv_iload_n hx hb dX4_alike_16 rfl (lv_at hl 1 rfl) ?_
        refine lv_iload hx hb dX4_alike_17 (lv_at hl 4 rfl) ?_
        refine lv_iadd hx hb dX4_alike_19 ?_
        obtain ⟨g2, h⟩ := fb_g h
        refine va_bald hx hb hK hP 2 0 rfl rfl g2 dX4_alike_20 ?_
        refine lv_aload_n hx hb dX4_alike_21 rfl (lv_at hl 0 rfl) ?_
        refine va_get (D := (dC, dI)) (ci := 4) (v := .ref o_text) (C := RX4) (T := TX4) (N := 7) hx hb hts i_X4 hown hK hP 0 rfl rfl 0 (by decide) (hts _ k_238) (fun _ h9 => h9) rfl dX4_alike_22 ?_
        refine va_get (D := (dC, dI)) (ci := 6) (v := .ref o_text_bytes) (C := RX6) (T := TX6) (N := 2) hx hb hts i_X6 hown hK hP 1 rfl rfl 0 (by decide) (hts _ k_104) (fun _ h9 => h9) rfl dX4_alike_25 ?_
        refine lv_iload_n hx hb dX4_alike_28 rfl (lv_at hl 2 rfl) ?_
        refine lv_iload hx hb dX4_alike_29 (lv_at hl 4 rfl) ?_
        refine lv_iadd hx hb dX4_alike_31 ?_
        obtain ⟨g3, h⟩ := fb_g h
        refine va_bald hx hb hK hP 2 0 rfl rfl g3 dX4_alike_32 ?_
        refine lv_icmp_ne (tgt := 42) hx hb dX4_alike_33 (by decide) (fun c4 => ?_) (fun c4 => ?_)
        · replace h := fb_f c4 h
          refine lv_iload hx hb dX4_alike_42 (lv_at hl 4 rfl) ?_
          have hu := Option.some.inj h
          exact hret _ _ _ _ _ dX4_alike_44 rfl (by rw [← hu]) hP hD hS
        · replace h := fb_t c4 h
          refine lv_iinc (v := (x4 + (1 : Int32))) (lv' := [(4, .int (x4 + (1 : Int32))), (0, .ref o), (1, .int x1), (2, .int x2), (3, .int x3)]) hx hb dX4_alike_36 hl (k := 4) rfl rfl (by decide) rfl (fun ls hl => ?_)
          refine lv_goto (tgt := 3) hx hb dX4_alike_39 (by decide) ?_
          exact ih (x4 + (1 : Int32)) _ _ _ hP hD hS (lv_sub hl [1, 2, 3, 4, 0] rfl) h
  unfold pX4_alike at h
  refine lv_iconst (v := (0 : Int32)) hx hb dX4_alike_0 (by decide) ?_
  refine lv_istore (lv' := [(4, .int (0 : Int32)), (0, .ref o), (1, .int x1), (2, .int x2), (3, .int x3)]) hx hb dX4_alike_1 hl (by decide) rfl (fun ls hl => ?_)
  exact wB3 fb_F (0 : Int32) _ _ _ hP hD hS (lv_sub hl [1, 2, 3, 4, 0] rfl) h
theorem dX4_find_0 : decode cX4_find 0 = .ok (.aload_n 0, 1) := by decide +kernel
theorem dX4_find_1 : decode cX4_find 1 = .ok (.iconst 0, 1) := by decide +kernel
theorem dX4_find_2 : decode cX4_find 2 = .ok (.putfield 52, 3) := by decide +kernel
theorem dX4_find_5 : decode cX4_find 5 = .ok (.sipush 258, 3) := by decide +kernel
theorem dX4_find_8 : decode cX4_find 8 = .ok (.aload_n 0, 1) := by decide +kernel
theorem dX4_find_9 : decode cX4_find 9 = .ok (.getfield 15, 3) := by decide +kernel
theorem dX4_find_12 : decode cX4_find 12 = .ok (.getfield 41, 3) := by decide +kernel
theorem dX4_find_15 : decode cX4_find 15 = .ok (.iload_n 1, 1) := by decide +kernel
theorem dX4_find_16 : decode cX4_find 16 = .ok (.isub, 1) := by decide +kernel
theorem dX4_find_17 : decode cX4_find 17 = .ok (.invokestatic 55, 3) := by decide +kernel
theorem dX4_find_20 : decode cX4_find 20 = .ok (.istore_n 2, 1) := by decide +kernel
theorem dX4_find_21 : decode cX4_find 21 = .ok (.iload_n 2, 1) := by decide +kernel
theorem dX4_find_22 : decode cX4_find 22 = .ok (.iconst 3, 1) := by decide +kernel
theorem dX4_find_23 : decode cX4_find 23 = .ok (.if_icmp .ge 4, 3) := by decide +kernel
theorem dX4_find_26 : decode cX4_find 26 = .ok (.return_, 1) := by decide +kernel
theorem dX4_find_27 : decode cX4_find 27 = .ok (.iconst 0, 1) := by decide +kernel
theorem dX4_find_28 : decode cX4_find 28 = .ok (.istore_n 3, 1) := by decide +kernel
theorem dX4_find_29 : decode cX4_find 29 = .ok (.aload_n 0, 1) := by decide +kernel
theorem dX4_find_30 : decode cX4_find 30 = .ok (.getfield 29, 3) := by decide +kernel
theorem dX4_find_33 : decode cX4_find 33 = .ok (.iload_n 1, 1) := by decide +kernel
theorem dX4_find_34 : decode cX4_find 34 = .ok (.iaload, 1) := by decide +kernel
theorem dX4_find_35 : decode cX4_find 35 = .ok (.iconst 1, 1) := by decide +kernel
theorem dX4_find_36 : decode cX4_find 36 = .ok (.isub, 1) := by decide +kernel
theorem dX4_find_37 : decode cX4_find 37 = .ok (.istore 4, 2) := by decide +kernel
theorem dX4_find_39 : decode cX4_find 39 = .ok (.iconst 0, 1) := by decide +kernel
theorem dX4_find_40 : decode cX4_find 40 = .ok (.istore 5, 2) := by decide +kernel
theorem dX4_find_42 : decode cX4_find 42 = .ok (.iload 5, 2) := by decide +kernel
theorem dX4_find_44 : decode cX4_find 44 = .ok (.ldc 61, 2) := by decide +kernel
theorem dX4_find_46 : decode cX4_find 46 = .ok (.if_icmp .ge 93, 3) := by decide +kernel
theorem dX4_find_49 : decode cX4_find 49 = .ok (.iload 4, 2) := by decide +kernel
theorem dX4_find_51 : decode cX4_find 51 = .ok (.ifCond .lt 88, 3) := by decide +kernel
theorem dX4_find_54 : decode cX4_find 54 = .ok (.iload_n 1, 1) := by decide +kernel
theorem dX4_find_55 : decode cX4_find 55 = .ok (.iload 4, 2) := by decide +kernel
theorem dX4_find_57 : decode cX4_find 57 = .ok (.isub, 1) := by decide +kernel
theorem dX4_find_58 : decode cX4_find 58 = .ok (.ldc 61, 2) := by decide +kernel
theorem dX4_find_60 : decode cX4_find 60 = .ok (.if_icmp .gt 79, 3) := by decide +kernel
theorem dX4_find_63 : decode cX4_find 63 = .ok (.aload_n 0, 1) := by decide +kernel
theorem dX4_find_64 : decode cX4_find 64 = .ok (.iload 4, 2) := by decide +kernel
theorem dX4_find_66 : decode cX4_find 66 = .ok (.iload_n 1, 1) := by decide +kernel
theorem dX4_find_67 : decode cX4_find 67 = .ok (.iload_n 2, 1) := by decide +kernel
theorem dX4_find_68 : decode cX4_find 68 = .ok (.invokevirtual 62, 3) := by decide +kernel
theorem dX4_find_71 : decode cX4_find 71 = .ok (.istore 6, 2) := by decide +kernel
theorem dX4_find_73 : decode cX4_find 73 = .ok (.iload 6, 2) := by decide +kernel
theorem dX4_find_75 : decode cX4_find 75 = .ok (.iconst 3, 1) := by decide +kernel
theorem dX4_find_76 : decode cX4_find 76 = .ok (.if_icmp .lt 29, 3) := by decide +kernel
theorem dX4_find_79 : decode cX4_find 79 = .ok (.iinc 3 1, 3) := by decide +kernel
theorem dX4_find_82 : decode cX4_find 82 = .ok (.iload 6, 2) := by decide +kernel
theorem dX4_find_84 : decode cX4_find 84 = .ok (.aload_n 0, 1) := by decide +kernel
theorem dX4_find_85 : decode cX4_find 85 = .ok (.getfield 52, 3) := by decide +kernel
theorem dX4_find_88 : decode cX4_find 88 = .ok (.if_icmp .le 17, 3) := by decide +kernel
theorem dX4_find_91 : decode cX4_find 91 = .ok (.aload_n 0, 1) := by decide +kernel
theorem dX4_find_92 : decode cX4_find 92 = .ok (.iload 6, 2) := by decide +kernel
theorem dX4_find_94 : decode cX4_find 94 = .ok (.putfield 52, 3) := by decide +kernel
theorem dX4_find_97 : decode cX4_find 97 = .ok (.aload_n 0, 1) := by decide +kernel
theorem dX4_find_98 : decode cX4_find 98 = .ok (.iload_n 1, 1) := by decide +kernel
theorem dX4_find_99 : decode cX4_find 99 = .ok (.iload 4, 2) := by decide +kernel
theorem dX4_find_101 : decode cX4_find 101 = .ok (.isub, 1) := by decide +kernel
theorem dX4_find_102 : decode cX4_find 102 = .ok (.putfield 66, 3) := by decide +kernel
theorem dX4_find_105 : decode cX4_find 105 = .ok (.iload_n 3, 1) := by decide +kernel
theorem dX4_find_106 : decode cX4_find 106 = .ok (.aload_n 0, 1) := by decide +kernel
theorem dX4_find_107 : decode cX4_find 107 = .ok (.getfield 19, 3) := by decide +kernel
theorem dX4_find_110 : decode cX4_find 110 = .ok (.if_icmp .eq 11, 3) := by decide +kernel
theorem dX4_find_113 : decode cX4_find 113 = .ok (.aload_n 0, 1) := by decide +kernel
theorem dX4_find_114 : decode cX4_find 114 = .ok (.getfield 52, 3) := by decide +kernel
theorem dX4_find_117 : decode cX4_find 117 = .ok (.iload_n 2, 1) := by decide +kernel
theorem dX4_find_118 : decode cX4_find 118 = .ok (.if_icmp .ne 4, 3) := by decide +kernel
theorem dX4_find_121 : decode cX4_find 121 = .ok (.return_, 1) := by decide +kernel
theorem dX4_find_122 : decode cX4_find 122 = .ok (.aload_n 0, 1) := by decide +kernel
theorem dX4_find_123 : decode cX4_find 123 = .ok (.getfield 29, 3) := by decide +kernel
theorem dX4_find_126 : decode cX4_find 126 = .ok (.iload 4, 2) := by decide +kernel
theorem dX4_find_128 : decode cX4_find 128 = .ok (.iaload, 1) := by decide +kernel
theorem dX4_find_129 : decode cX4_find 129 = .ok (.iconst 1, 1) := by decide +kernel
theorem dX4_find_130 : decode cX4_find 130 = .ok (.isub, 1) := by decide +kernel
theorem dX4_find_131 : decode cX4_find 131 = .ok (.istore 4, 2) := by decide +kernel
theorem dX4_find_133 : decode cX4_find 133 = .ok (.iinc 5 1, 3) := by decide +kernel
theorem dX4_find_136 : decode cX4_find 136 = .ok (.goto (-94), 3) := by decide +kernel
theorem dX4_find_139 : decode cX4_find 139 = .ok (.return_, 1) := by decide +kernel
def pX4_find_b105 (o_earlier_n : Nat) (o_chain : Int32) (o_earlier_v : Nat → Int32) (K42 : Int32 → Int32 → Int32 → Int32 → Int32 → Int32 → Option (Int32 × Int32)) (o_length : Int32) (o_distance : Int32) (x2 : Int32) (x3 : Int32) (x4 : Int32) (x5 : Int32) : Option (Int32 × Int32) :=
  if x3 = o_chain then
  (some (o_length, o_distance))
  else
  (if o_length = x2 then
  (some (o_length, o_distance))
  else
  (if x4 < 0 ∨ o_earlier_n ≤ (x4).toNatClampNeg then none else
  K42 o_length o_distance x2 x3 ((o_earlier_v (x4).toNatClampNeg) - (1 : Int32)) (x5 + (1 : Int32))))
def pX4_find_b42 (o_earlier_n : Nat) (o_text_bytes_n : Nat) (o_chain : Int32) (o_earlier_v : Nat → Int32) (o_text_bytes_v : Nat → Int32) (x1 : Int32)  : Nat → Int32 → Int32 → Int32 → Int32 → Int32 → Int32 → Option (Int32 × Int32)
  | 0 => fun _ _ _ _ _ _ => none
  | n + 1 => fun o_length o_distance x2 x3 x4 x5 =>
  if (32768 : Int32) ≤ x5 then
  (some (o_length, o_distance))
  else
  (if x4 < 0 then
  (some (o_length, o_distance))
  else
  (if (32768 : Int32) < (x1 - x4) then
  (some (o_length, o_distance))
  else
  ((pX4_alike o_text_bytes_n o_text_bytes_v x4 x1 x2).bind (fun u7 =>
  if u7 < (3 : Int32) then
  (pX4_find_b105 o_earlier_n o_chain o_earlier_v (pX4_find_b42 o_earlier_n o_text_bytes_n o_chain o_earlier_v o_text_bytes_v x1 n) o_length o_distance x2 x3 x4 x5)
  else
  (if u7 ≤ o_length then
  (pX4_find_b105 o_earlier_n o_chain o_earlier_v (pX4_find_b42 o_earlier_n o_text_bytes_n o_chain o_earlier_v o_text_bytes_v x1 n) o_length o_distance x2 (x3 + (1 : Int32)) x4 x5)
  else
  (pX4_find_b105 o_earlier_n o_chain o_earlier_v (pX4_find_b42 o_earlier_n o_text_bytes_n o_chain o_earlier_v o_text_bytes_v x1 n) u7 (x1 - x4) x2 (x3 + (1 : Int32)) x4 x5))))))
def pX4_find (o_earlier_n : Nat) (o_text_bytes_n : Nat) (o_chain : Int32) (o_text_size : Int32) (o_earlier_v : Nat → Int32) (o_text_bytes_v : Nat → Int32) (x1 : Int32)  (o_distance : Int32) : Option (Int32 × Int32) :=
  if (3 : Int32) ≤ (if (o_text_size - x1) < (258 : Int32) then (o_text_size - x1) else (258 : Int32)) then
  (if x1 < 0 ∨ o_earlier_n ≤ (x1).toNatClampNeg then none else
  pX4_find_b42 o_earlier_n o_text_bytes_n o_chain o_earlier_v o_text_bytes_v x1 fb_F (0 : Int32) o_distance (if (o_text_size - x1) < (258 : Int32) then (o_text_size - x1) else (258 : Int32)) (0 : Int32) ((o_earlier_v (x1).toNatClampNeg) - (1 : Int32)) (0 : Int32))
  else
  (some ((0 : Int32), o_distance))
theorem hdX4_find : yX4_find.cls = RX4 ∧ yX4_find.cls ≠ "java/lang/invoke/MethodHandle" ∧ yX4_find.cls ≠ "java/lang/invoke/VarHandle" ∧ (parseMethodDescriptor yX4_find.desc).map (fun d => d.parameters.length) = some 1 := by decide +kernel
set_option maxHeartbeats 8000000 in
set_option maxRecDepth 100000 in
theorem mX4_find (l : Launch) (dC : Nat → ClassId) (dI : Nat → Nat → Nat) (o : Nat) (o_text : Nat) (o_earlier : Nat) (o_text_bytes : Nat) (o_latest : Nat) (o_earlier_c : ClassId) (o_text_bytes_c : ClassId) (o_earlier_n : Nat) (o_text_bytes_n : Nat) (o_chain : Int32) (o_linked : Int32) (o_length : Int32) (o_distance : Int32) (o_text_size : Int32) (o_earlier_v : Nat → Int32) (o_text_bytes_v : Nat → Int32) (x1 : Int32) (sz : Nat) (u : Int32 × Int32) (h : pX4_find o_earlier_n o_text_bytes_n o_chain o_text_size o_earlier_v o_text_bytes_v x1 o_distance = some u) : Met l yX4_find (Cond.code yX4_find cX4_find 7 none :: fb_tb) ({ frames := 1, cells := 0, slots := 0, locals := 24 }) (fb_Pc (dC, dI) [.ref o, .int x1] sz [(o_earlier_c, .int), (o_text_bytes_c, .byte)] [(o, .inr (4, [.ref o_text, .int o_chain, .ref o_latest, .ref o_earlier, .int o_linked, .int o_length, .int o_distance])), (o_text, .inr (6, [.ref o_text_bytes, .int o_text_size])), (o_earlier, .inl (o_earlier_c, o_earlier_n, .inl o_earlier_v)), (o_text_bytes, .inl (o_text_bytes_c, o_text_bytes_n, .inl o_text_bytes_v))]) (fb_Qv (dC, dI) [(o, .inr (4, [.ref o_text, .int o_chain, .ref o_latest, .ref o_earlier, .int o_linked, .int u.1, .int u.2])), (o_text, .inr (6, [.ref o_text_bytes, .int o_text_size])), (o_earlier, .inl (o_earlier_c, o_earlier_n, .inl o_earlier_v)), (o_text_bytes, .inl (o_text_bytes_c, o_text_bytes_n, .inl o_text_bytes_v))] (va_A [(o, .inr (4, [.ref o_text, .int o_chain, .ref o_latest, .ref o_earlier, .int o_linked, .int o_length, .int o_distance])), (o_text, .inr (6, [.ref o_text_bytes, .int o_text_size])), (o_earlier, .inl (o_earlier_c, o_earlier_n, .inl o_earlier_v)), (o_text_bytes, .inl (o_text_bytes_c, o_text_bytes_n, .inl o_text_bytes_v))] sz)) 0 0 (va_A [(o, .inr (4, [.ref o_text, .int o_chain, .ref o_latest, .ref o_earlier, .int o_linked, .int o_length, .int o_distance])), (o_text, .inr (6, [.ref o_text_bytes, .int o_text_size])), (o_earlier, .inl (o_earlier_c, o_earlier_n, .inl o_earlier_v)), (o_text_bytes, .inl (o_text_bytes_c, o_text_bytes_n, .inl o_text_bytes_v))] sz) := by
  refine fb_metv (by decide) (Nat.le_of_ble_eq_true rfl) (fun p e s m args below meth c A Q ls H hx hb hml hown hts hP hK hN hZ hD hA hS hret hl => ?_)
  replace hl : lv_has ls 7 [(0, .ref o), (1, .int x1)] := hl
  have wB105 : ∀ (K42 : Int32 → Int32 → Int32 → Int32 → Int32 → Int32 → Option (Int32 × Int32)), (∀ (o_length : Int32) (o_distance : Int32) (x2 : Int32) (x3 : Int32) (x4 : Int32) (x5 : Int32) (H : Heap) (locs : List Loc) (ls : Array Slot), va_P (dC, dI) fb_cl [(o, .inr (4, [.ref o_text, .int o_chain, .ref o_latest, .ref o_earlier, .int o_linked, .int o_length, .int o_distance])), (o_text, .inr (6, [.ref o_text_bytes, .int o_text_size])), (o_earlier, .inl (o_earlier_c, o_earlier_n, .inl o_earlier_v)), (o_text_bytes, .inl (o_text_bytes_c, o_text_bytes_n, .inl o_text_bytes_v))] H → va_D A [(o, .inr (4, [.ref o_text, .int o_chain, .ref o_latest, .ref o_earlier, .int o_linked, .int o_length, .int o_distance])), (o_text, .inr (6, [.ref o_text_bytes, .int o_text_size])), (o_earlier, .inl (o_earlier_c, o_earlier_n, .inl o_earlier_v)), (o_text_bytes, .inl (o_text_bytes_c, o_text_bytes_n, .inl o_text_bytes_v))] → va_S A s.heap H locs → lv_has ls 7 [(0, .ref o), (1, .int x1), (2, .int x2), (3, .int x3), (4, .int x4), (5, .int x5)] → K42 o_length o_distance x2 x3 x4 x5 = some u → W p l e ({ frames := 1, cells := 0, slots := 0, locals := 24 }) s m args below meth c H locs 0 0 Q (F0 m 42 ls [])) → ∀ (o_length : Int32) (o_distance : Int32) (x2 : Int32) (x3 : Int32) (x4 : Int32) (x5 : Int32) (H : Heap) (locs : List Loc) (ls : Array Slot), va_P (dC, dI) fb_cl [(o, .inr (4, [.ref o_text, .int o_chain, .ref o_latest, .ref o_earlier, .int o_linked, .int o_length, .int o_distance])), (o_text, .inr (6, [.ref o_text_bytes, .int o_text_size])), (o_earlier, .inl (o_earlier_c, o_earlier_n, .inl o_earlier_v)), (o_text_bytes, .inl (o_text_bytes_c, o_text_bytes_n, .inl o_text_bytes_v))] H → va_D A [(o, .inr (4, [.ref o_text, .int o_chain, .ref o_latest, .ref o_earlier, .int o_linked, .int o_length, .int o_distance])), (o_text, .inr (6, [.ref o_text_bytes, .int o_text_size])), (o_earlier, .inl (o_earlier_c, o_earlier_n, .inl o_earlier_v)), (o_text_bytes, .inl (o_text_bytes_c, o_text_bytes_n, .inl o_text_bytes_v))] → va_S A s.heap H locs → lv_has ls 7 [(0, .ref o), (1, .int x1), (2, .int x2), (3, .int x3), (4, .int x4), (5, .int x5)] → pX4_find_b105 o_earlier_n o_chain o_earlier_v K42 o_length o_distance x2 x3 x4 x5 = some u → W p l e ({ frames := 1, cells := 0, slots := 0, locals := 24 }) s m args below meth c H locs 0 0 Q (F0 m 105 ls []) := by
    intro K42 hK42 o_length o_distance x2 x3 x4 x5 H locs ls hP hD hS hl h
    unfold pX4_find_b105 at h
    refine lv_iload_n hx hb dX4_find_105 rfl (lv_at hl 3 rfl) ?_
    refine lv_aload_n hx hb dX4_find_106 rfl (lv_at hl 0 rfl) ?_
    refine va_get (D := (dC, dI)) (ci := 4) (v := .int o_chain) (C := RX4) (T := TX4) (N := 7) hx hb hts i_X4 hown hK hP 0 rfl rfl 1 (by decide) (hts _ k_239) (fun _ h9 => h9) rfl dX4_find_107 ?_
    refine lv_icmp_eq (tgt := 121) hx hb dX4_find_110 (by decide) (fun c1 => ?_) (fun c1 => ?_)
    · replace h := fb_t c1 h
      have hu := Option.some.inj h
      exact hret _ _ _ _ dX4_find_121 (by rw [← hu]; exact hP) (by rw [← hu]; exact hD) hS
    · replace h := fb_f c1 h
      refine lv_aload_n hx hb dX4_find_113 rfl (lv_at hl 0 rfl) ?_
      refine va_get (D := (dC, dI)) (ci := 4) (v := .int o_length) (C := RX4) (T := TX4) (N := 7) hx hb hts i_X4 hown hK hP 0 rfl rfl 5 (by decide) (hts _ k_243) (fun _ h9 => h9) rfl dX4_find_114 ?_
      refine lv_iload_n hx hb dX4_find_117 rfl (lv_at hl 2 rfl) ?_
      refine lv_icmp_ne (tgt := 122) hx hb dX4_find_118 (by decide) (fun c2 => ?_) (fun c2 => ?_)
      · replace h := fb_f c2 h
        refine lv_aload_n hx hb dX4_find_122 rfl (lv_at hl 0 rfl) ?_
        refine va_get (D := (dC, dI)) (ci := 4) (v := .ref o_earlier) (C := RX4) (T := TX4) (N := 7) hx hb hts i_X4 hown hK hP 0 rfl rfl 3 (by decide) (hts _ k_241) (fun _ h9 => h9) rfl dX4_find_123 ?_
        refine lv_iload hx hb dX4_find_126 (lv_at hl 4 rfl) ?_
        obtain ⟨g3, h⟩ := fb_g h
        refine va_iald hx hb hK hP 2 0 rfl rfl g3 dX4_find_128 ?_
        refine lv_iconst (v := (1 : Int32)) hx hb dX4_find_129 (by decide) ?_
        refine lv_isub hx hb dX4_find_130 ?_
        refine lv_istore (lv' := [(4, .int ((o_earlier_v (x4).toNatClampNeg) - (1 : Int32))), (0, .ref o), (1, .int x1), (2, .int x2), (3, .int x3), (5, .int x5)]) hx hb dX4_find_131 hl (by decide) rfl (fun ls hl => ?_)
        refine lv_iinc (v := (x5 + (1 : Int32))) (lv' := [(5, .int (x5 + (1 : Int32))), (4, .int ((o_earlier_v (x4).toNatClampNeg) - (1 : Int32))), (0, .ref o), (1, .int x1), (2, .int x2), (3, .int x3)]) hx hb dX4_find_133 hl (k := 5) rfl rfl (by decide) rfl (fun ls hl => ?_)
        refine lv_goto (tgt := 42) hx hb dX4_find_136 (by decide) ?_
        exact hK42 o_length o_distance x2 x3 ((o_earlier_v (x4).toNatClampNeg) - (1 : Int32)) (x5 + (1 : Int32)) _ _ _ hP hD hS (lv_sub hl [2, 3, 4, 5, 1, 0] rfl) h
      · replace h := fb_t c2 h
        have hu := Option.some.inj h
        exact hret _ _ _ _ dX4_find_121 (by rw [← hu]; exact hP) (by rw [← hu]; exact hD) hS
  have wB42 : ∀ n : Nat, ∀ (o_length : Int32) (o_distance : Int32) (x2 : Int32) (x3 : Int32) (x4 : Int32) (x5 : Int32) (H : Heap) (locs : List Loc) (ls : Array Slot), va_P (dC, dI) fb_cl [(o, .inr (4, [.ref o_text, .int o_chain, .ref o_latest, .ref o_earlier, .int o_linked, .int o_length, .int o_distance])), (o_text, .inr (6, [.ref o_text_bytes, .int o_text_size])), (o_earlier, .inl (o_earlier_c, o_earlier_n, .inl o_earlier_v)), (o_text_bytes, .inl (o_text_bytes_c, o_text_bytes_n, .inl o_text_bytes_v))] H → va_D A [(o, .inr (4, [.ref o_text, .int o_chain, .ref o_latest, .ref o_earlier, .int o_linked, .int o_length, .int o_distance])), (o_text, .inr (6, [.ref o_text_bytes, .int o_text_size])), (o_earlier, .inl (o_earlier_c, o_earlier_n, .inl o_earlier_v)), (o_text_bytes, .inl (o_text_bytes_c, o_text_bytes_n, .inl o_text_bytes_v))] → va_S A s.heap H locs → lv_has ls 7 [(0, .ref o), (1, .int x1), (2, .int x2), (3, .int x3), (4, .int x4), (5, .int x5)] → pX4_find_b42 o_earlier_n o_text_bytes_n o_chain o_earlier_v o_text_bytes_v x1 n o_length o_distance x2 x3 x4 x5 = some u → W p l e ({ frames := 1, cells := 0, slots := 0, locals := 24 }) s m args below meth c H locs 0 0 Q (F0 m 42 ls []) := by
    intro n
    induction n with
    | zero => intro o_length o_distance x2 x3 x4 x5 H locs ls hP hD hS hl h; cases h
    | succ n ih =>
      intro o_length o_distance x2 x3 x4 x5 H locs ls hP hD hS hl h
      rw [pX4_find_b42] at h
      refine lv_iload hx hb dX4_find_42 (lv_at hl 5 rfl) ?_
      refine lv_ldc (v := (32768 : Int32)) hx hb hown (hts _ k_458) dX4_find_44 ?_
      refine lv_icmp_ge (tgt := 139) hx hb dX4_find_46 (by decide) (fun c4 => ?_) (fun c4 => ?_)
      · replace h := fb_t c4 h
        have hu := Option.some.inj h
        exact hret _ _ _ _ dX4_find_139 (by rw [← hu]; exact hP) (by rw [← hu]; exact hD) hS
      · replace h := fb_f c4 h
        refine lv_iload hx hb dX4_find_49 (lv_at hl 4 rfl) ?_
        refine lv_if_lt (tgt := 139) hx hb dX4_find_51 (by decide) (fun c5 => ?_) (fun c5 => ?_)
        · replace h := fb_t c5 h
          have hu := Option.some.inj h
          exact hret _ _ _ _ dX4_find_139 (by rw [← hu]; exact hP) (by rw [← hu]; exact hD) hS
        · replace h := fb_f c5 h
          refine lv_iload_n hx hb dX4_find_54 rfl (lv_at hl 1 rfl) ?_
          refine lv_iload hx hb dX4_find_55 (lv_at hl 4 rfl) ?_
          refine lv_isub hx hb dX4_find_57 ?_
          refine lv_ldc (v := (32768 : Int32)) hx hb hown (hts _ k_458) dX4_find_58 ?_
          refine lv_icmp_gt (tgt := 139) hx hb dX4_find_60 (by decide) (fun c6 => ?_) (fun c6 => ?_)
          · replace h := fb_t c6 h
            have hu := Option.some.inj h
            exact hret _ _ _ _ dX4_find_139 (by rw [← hu]; exact hP) (by rw [← hu]; exact hD) hS
          · replace h := fb_f c6 h
            refine lv_aload_n hx hb dX4_find_63 rfl (lv_at hl 0 rfl) ?_
            refine lv_iload hx hb dX4_find_64 (lv_at hl 4 rfl) ?_
            refine lv_iload_n hx hb dX4_find_66 rfl (lv_at hl 1 rfl) ?_
            refine lv_iload_n hx hb dX4_find_67 rfl (lv_at hl 2 rfl) ?_
            obtain ⟨u7, e7, h⟩ := fb_b h
            refine fb_ci (wc := [(o, .inr (4, [.ref o_text, .int o_chain, .ref o_latest, .ref o_earlier, .int o_linked, .int o_length, .int o_distance])), (o_text, .inr (6, [.ref o_text_bytes, .int o_text_size])), (o_text_bytes, .inl (o_text_bytes_c, o_text_bytes_n, .inl o_text_bytes_v))]) (wr := [(o_earlier, .inl (o_earlier_c, o_earlier_n, .inl o_earlier_v))]) (w1 := [(o, .inr (4, [.ref o_text, .int o_chain, .ref o_latest, .ref o_earlier, .int o_linked, .int o_length, .int o_distance])), (o_text, .inr (6, [.ref o_text_bytes, .int o_text_size])), (o_text_bytes, .inl (o_text_bytes_c, o_text_bytes_n, .inl o_text_bytes_v))]) (ws' := [(o, .inr (4, [.ref o_text, .int o_chain, .ref o_latest, .ref o_earlier, .int o_linked, .int o_length, .int o_distance])), (o_text, .inr (6, [.ref o_text_bytes, .int o_text_size])), (o_earlier, .inl (o_earlier_c, o_earlier_n, .inl o_earlier_v)), (o_text_bytes, .inl (o_text_bytes_c, o_text_bytes_n, .inl o_text_bytes_v))]) (va_runV (As := [.int x4, .int x1, .int x2]) (rest := []) ⟨hx, hb, hml, hown, hts⟩ (mX4_alike l dC dI o o_text o_text_bytes o_latest o_earlier o_text_bytes_c o_text_bytes_n o_chain o_linked o_length o_distance o_text_size o_text_bytes_v x4 x1 x2 H.size u7 e7) (cwV 3 hts (fb_GV k_459 k_461 k_2 k_70 k_462) rfl rfl rfl hdX4_alike ⟨Nat.le_of_ble_eq_true rfl, Nat.le_of_ble_eq_true rfl⟩) (fb_pV hP hD hS hA hK hN hZ [0, 1, 3] rfl rfl [1] rfl (q0 := 0) (ci := 4) rfl rfl) rfl rfl hl.1 rfl (lv_room (Nat.le_of_ble_eq_true rfl)) dX4_find_68 ⟨Nat.le_of_ble_eq_true rfl, Nat.le_of_ble_eq_true rfl⟩) hP hD hS hA [0, 1, 3] [2] rfl rfl rfl (by decide) [1, 2, 0, 3] rfl rfl (fun H locs hP hD hS => ?_)
            refine lv_istore (lv' := [(6, .int u7), (0, .ref o), (1, .int x1), (2, .int x2), (3, .int x3), (4, .int x4), (5, .int x5)]) hx hb dX4_find_71 hl (by decide) rfl (fun ls hl => ?_)
            refine lv_iload hx hb dX4_find_73 (lv_at hl 0 rfl) ?_
            refine lv_iconst (v := (3 : Int32)) hx hb dX4_find_75 (by decide) ?_
            refine lv_icmp_lt (tgt := 105) hx hb dX4_find_76 (by decide) (fun c8 => ?_) (fun c8 => ?_)
            · replace h := fb_t c8 h
              exact wB105 (pX4_find_b42 o_earlier_n o_text_bytes_n o_chain o_earlier_v o_text_bytes_v x1 n) ih o_length o_distance x2 x3 x4 x5 _ _ _ hP hD hS (lv_sub hl [1, 2, 3, 4, 5, 6] rfl) h
            · replace h := fb_f c8 h
              refine lv_iinc (v := (x3 + (1 : Int32))) (lv' := [(3, .int (x3 + (1 : Int32))), (6, .int u7), (0, .ref o), (1, .int x1), (2, .int x2), (4, .int x4), (5, .int x5)]) hx hb dX4_find_79 hl (k := 4) rfl rfl (by decide) rfl (fun ls hl => ?_)
              refine lv_iload hx hb dX4_find_82 (lv_at hl 1 rfl) ?_
              refine lv_aload_n hx hb dX4_find_84 rfl (lv_at hl 2 rfl) ?_
              refine va_get (D := (dC, dI)) (ci := 4) (v := .int o_length) (C := RX4) (T := TX4) (N := 7) hx hb hts i_X4 hown hK hP 0 rfl rfl 5 (by decide) (hts _ k_243) (fun _ h9 => h9) rfl dX4_find_85 ?_
              refine lv_icmp_le (tgt := 105) hx hb dX4_find_88 (by decide) (fun c9 => ?_) (fun c9 => ?_)
              · replace h := fb_t c9 h
                exact wB105 (pX4_find_b42 o_earlier_n o_text_bytes_n o_chain o_earlier_v o_text_bytes_v x1 n) ih o_length o_distance x2 (x3 + (1 : Int32)) x4 x5 _ _ _ hP hD hS (lv_sub hl [2, 3, 4, 0, 5, 6] rfl) h
              · replace h := fb_f c9 h
                refine lv_aload_n hx hb dX4_find_91 rfl (lv_at hl 2 rfl) ?_
                refine lv_iload hx hb dX4_find_92 (lv_at hl 1 rfl) ?_
                refine va_put (D := (dC, dI)) (ci := 4) (v := .int u7) (ty := .int) (C := RX4) (T := TX4) (N := 7) hx hb hts i_X4 tyX4 tyX4_ok nmX4 hown hK hP hD hS 0 rfl rfl 5 (by decide) (hts _ k_243) (fun _ h9 => h9) rfl (by decide +kernel) rfl rfl (Nat.le_of_ble_eq_true rfl) dX4_find_94 (fun H locs hP hD hS => ?_)
                replace hP : va_P (dC, dI) fb_cl [(o, .inr (4, [.ref o_text, .int o_chain, .ref o_latest, .ref o_earlier, .int o_linked, .int u7, .int o_distance])), (o_text, .inr (6, [.ref o_text_bytes, .int o_text_size])), (o_earlier, .inl (o_earlier_c, o_earlier_n, .inl o_earlier_v)), (o_text_bytes, .inl (o_text_bytes_c, o_text_bytes_n, .inl o_text_bytes_v))] H := hP
                replace hD : va_D A [(o, .inr (4, [.ref o_text, .int o_chain, .ref o_latest, .ref o_earlier, .int o_linked, .int u7, .int o_distance])), (o_text, .inr (6, [.ref o_text_bytes, .int o_text_size])), (o_earlier, .inl (o_earlier_c, o_earlier_n, .inl o_earlier_v)), (o_text_bytes, .inl (o_text_bytes_c, o_text_bytes_n, .inl o_text_bytes_v))] := hD
                refine lv_aload_n hx hb dX4_find_97 rfl (lv_at hl 2 rfl) ?_
                refine lv_iload_n hx hb dX4_find_98 rfl (lv_at hl 3 rfl) ?_
                refine lv_iload hx hb dX4_find_99 (lv_at hl 5 rfl) ?_
                refine lv_isub hx hb dX4_find_101 ?_
                refine va_put (D := (dC, dI)) (ci := 4) (v := .int (x1 - x4)) (ty := .int) (C := RX4) (T := TX4) (N := 7) hx hb hts i_X4 tyX4 tyX4_ok nmX4 hown hK hP hD hS 0 rfl rfl 6 (by decide) (hts _ k_245) (fun _ h9 => h9) rfl (by decide +kernel) rfl rfl (Nat.le_of_ble_eq_true rfl) dX4_find_102 (fun H locs hP hD hS => ?_)
                replace hP : va_P (dC, dI) fb_cl [(o, .inr (4, [.ref o_text, .int o_chain, .ref o_latest, .ref o_earlier, .int o_linked, .int u7, .int (x1 - x4)])), (o_text, .inr (6, [.ref o_text_bytes, .int o_text_size])), (o_earlier, .inl (o_earlier_c, o_earlier_n, .inl o_earlier_v)), (o_text_bytes, .inl (o_text_bytes_c, o_text_bytes_n, .inl o_text_bytes_v))] H := hP
                replace hD : va_D A [(o, .inr (4, [.ref o_text, .int o_chain, .ref o_latest, .ref o_earlier, .int o_linked, .int u7, .int (x1 - x4)])), (o_text, .inr (6, [.ref o_text_bytes, .int o_text_size])), (o_earlier, .inl (o_earlier_c, o_earlier_n, .inl o_earlier_v)), (o_text_bytes, .inl (o_text_bytes_c, o_text_bytes_n, .inl o_text_bytes_v))] := hD
                exact wB105 (pX4_find_b42 o_earlier_n o_text_bytes_n o_chain o_earlier_v o_text_bytes_v x1 n) ih u7 (x1 - x4) x2 (x3 + (1 : Int32)) x4 x5 _ _ _ hP hD hS (lv_sub hl [2, 3, 4, 0, 5, 6] rfl) h
  unfold pX4_find at h
  refine lv_aload_n hx hb dX4_find_0 rfl (lv_at hl 0 rfl) ?_
  refine lv_iconst (v := (0 : Int32)) hx hb dX4_find_1 (by decide) ?_
  refine va_put (D := (dC, dI)) (ci := 4) (v := .int (0 : Int32)) (ty := .int) (C := RX4) (T := TX4) (N := 7) hx hb hts i_X4 tyX4 tyX4_ok nmX4 hown hK hP hD hS 0 rfl rfl 5 (by decide) (hts _ k_243) (fun _ h9 => h9) rfl (by decide +kernel) rfl rfl (Nat.le_of_ble_eq_true rfl) dX4_find_2 (fun H locs hP hD hS => ?_)
  replace hP : va_P (dC, dI) fb_cl [(o, .inr (4, [.ref o_text, .int o_chain, .ref o_latest, .ref o_earlier, .int o_linked, .int (0 : Int32), .int o_distance])), (o_text, .inr (6, [.ref o_text_bytes, .int o_text_size])), (o_earlier, .inl (o_earlier_c, o_earlier_n, .inl o_earlier_v)), (o_text_bytes, .inl (o_text_bytes_c, o_text_bytes_n, .inl o_text_bytes_v))] H := hP
  replace hD : va_D A [(o, .inr (4, [.ref o_text, .int o_chain, .ref o_latest, .ref o_earlier, .int o_linked, .int (0 : Int32), .int o_distance])), (o_text, .inr (6, [.ref o_text_bytes, .int o_text_size])), (o_earlier, .inl (o_earlier_c, o_earlier_n, .inl o_earlier_v)), (o_text_bytes, .inl (o_text_bytes_c, o_text_bytes_n, .inl o_text_bytes_v))] := hD
  refine lv_sipush (v := (258 : Int32)) hx hb dX4_find_5 (by decide) ?_
  refine lv_aload_n hx hb dX4_find_8 rfl (lv_at hl 0 rfl) ?_
  refine va_get (D := (dC, dI)) (ci := 4) (v := .ref o_text) (C := RX4) (T := TX4) (N := 7) hx hb hts i_X4 hown hK hP 0 rfl rfl 0 (by decide) (hts _ k_238) (fun _ h9 => h9) rfl dX4_find_9 ?_
  refine va_get (D := (dC, dI)) (ci := 6) (v := .int o_text_size) (C := RX6) (T := TX6) (N := 2) hx hb hts i_X6 hown hK hP 1 rfl rfl 1 (by decide) (hts _ k_107) (fun _ h9 => h9) rfl dX4_find_12 ?_
  refine lv_iload_n hx hb dX4_find_15 rfl (lv_at hl 1 rfl) ?_
  refine lv_isub hx hb dX4_find_16 ?_
  refine va_mmin hx hb (hml.trans hl.1.symm) hown (hts _ k_457) (hts _ k_90) (hts _ k_63) (hts _ k_91) (Nat.le_of_ble_eq_true rfl) (Nat.le_of_ble_eq_true rfl) (Nat.zero_le _) (Nat.zero_le _) dX4_find_17 ?_
  refine lv_istore_n (lv' := [(2, .int (if (o_text_size - x1) < (258 : Int32) then (o_text_size - x1) else (258 : Int32))), (0, .ref o), (1, .int x1)]) hx hb dX4_find_20 rfl hl (by decide) rfl (fun ls hl => ?_)
  refine lv_iload_n hx hb dX4_find_21 rfl (lv_at hl 0 rfl) ?_
  refine lv_iconst (v := (3 : Int32)) hx hb dX4_find_22 (by decide) ?_
  refine lv_icmp_ge (tgt := 27) hx hb dX4_find_23 (by decide) (fun c10 => ?_) (fun c10 => ?_)
  · replace h := fb_t c10 h
    refine lv_iconst (v := (0 : Int32)) hx hb dX4_find_27 (by decide) ?_
    refine lv_istore_n (lv' := [(3, .int (0 : Int32)), (2, .int (if (o_text_size - x1) < (258 : Int32) then (o_text_size - x1) else (258 : Int32))), (0, .ref o), (1, .int x1)]) hx hb dX4_find_28 rfl hl (by decide) rfl (fun ls hl => ?_)
    refine lv_aload_n hx hb dX4_find_29 rfl (lv_at hl 2 rfl) ?_
    refine va_get (D := (dC, dI)) (ci := 4) (v := .ref o_earlier) (C := RX4) (T := TX4) (N := 7) hx hb hts i_X4 hown hK hP 0 rfl rfl 3 (by decide) (hts _ k_241) (fun _ h9 => h9) rfl dX4_find_30 ?_
    refine lv_iload_n hx hb dX4_find_33 rfl (lv_at hl 3 rfl) ?_
    obtain ⟨g11, h⟩ := fb_g h
    refine va_iald hx hb hK hP 2 0 rfl rfl g11 dX4_find_34 ?_
    refine lv_iconst (v := (1 : Int32)) hx hb dX4_find_35 (by decide) ?_
    refine lv_isub hx hb dX4_find_36 ?_
    refine lv_istore (lv' := [(4, .int ((o_earlier_v (x1).toNatClampNeg) - (1 : Int32))), (3, .int (0 : Int32)), (2, .int (if (o_text_size - x1) < (258 : Int32) then (o_text_size - x1) else (258 : Int32))), (0, .ref o), (1, .int x1)]) hx hb dX4_find_37 hl (by decide) rfl (fun ls hl => ?_)
    refine lv_iconst (v := (0 : Int32)) hx hb dX4_find_39 (by decide) ?_
    refine lv_istore (lv' := [(5, .int (0 : Int32)), (4, .int ((o_earlier_v (x1).toNatClampNeg) - (1 : Int32))), (3, .int (0 : Int32)), (2, .int (if (o_text_size - x1) < (258 : Int32) then (o_text_size - x1) else (258 : Int32))), (0, .ref o), (1, .int x1)]) hx hb dX4_find_40 hl (by decide) rfl (fun ls hl => ?_)
    exact wB42 fb_F (0 : Int32) o_distance (if (o_text_size - x1) < (258 : Int32) then (o_text_size - x1) else (258 : Int32)) (0 : Int32) ((o_earlier_v (x1).toNatClampNeg) - (1 : Int32)) (0 : Int32) _ _ _ hP hD hS (lv_sub hl [4, 5, 3, 2, 1, 0] rfl) h
  · replace h := fb_f c10 h
    have hu := Option.some.inj h
    exact hret _ _ _ _ dX4_find_26 (by rw [← hu]; exact hP) (by rw [← hu]; exact hD) hS
theorem dX8_forget_0 : decode cX8_forget 0 = .ok (.aload_n 0, 1) := by decide +kernel
theorem dX8_forget_1 : decode cX8_forget 1 = .ok (.getfield 27, 3) := by decide +kernel
theorem dX8_forget_4 : decode cX8_forget 4 = .ok (.invokevirtual 40, 3) := by decide +kernel
theorem dX8_forget_7 : decode cX8_forget 7 = .ok (.return_, 1) := by decide +kernel
def pX8_forget (o_matcher_latest_n : Nat)  (o_matcher_latest_v : Nat → Int32) : Option (Int32 × (Nat → Int32)) :=
  (pX4_forget o_matcher_latest_n o_matcher_latest_v).bind (fun u1 =>
  some (u1.1, u1.2))
theorem hdX8_forget : yX8_forget.cls = RX8 ∧ yX8_forget.cls ≠ "java/lang/invoke/MethodHandle" ∧ yX8_forget.cls ≠ "java/lang/invoke/VarHandle" ∧ (parseMethodDescriptor yX8_forget.desc).map (fun d => d.parameters.length) = some 0 := by decide +kernel
set_option maxHeartbeats 8000000 in
set_option maxRecDepth 100000 in
theorem mX8_forget (l : Launch) (dC : Nat → ClassId) (dI : Nat → Nat → Nat) (o : Nat) (o_matcher : Nat) (o_matcher_latest : Nat) (o_symbolCounts : Nat) (o_distanceCounts : Nat) (o_text : Nat) (o_tokens : Nat) (o_matcher_earlier : Nat) (o_matcher_latest_c : ClassId) (o_matcher_latest_n : Nat) (o_size : Int32) (o_matches : Int32) (o_numberBits : Int32) (o_matcher_chain : Int32) (o_matcher_linked : Int32) (o_matcher_length : Int32) (o_matcher_distance : Int32) (o_matcher_latest_v : Nat → Int32)  (sz : Nat) (u : Int32 × (Nat → Int32)) (h : pX8_forget o_matcher_latest_n o_matcher_latest_v = some u) : Met l yX8_forget (Cond.code yX8_forget cX8_forget 1 none :: fb_tb) ({ frames := 2, cells := 0, slots := 0, locals := 43 }) (fb_Pc (dC, dI) [.ref o] sz [(o_matcher_latest_c, .int)] [(o, .inr (8, [.ref o_symbolCounts, .ref o_distanceCounts, .int o_size, .int o_matches, .int o_numberBits, .ref o_text, .ref o_matcher, .ref o_tokens])), (o_matcher, .inr (4, [.ref o_text, .int o_matcher_chain, .ref o_matcher_latest, .ref o_matcher_earlier, .int o_matcher_linked, .int o_matcher_length, .int o_matcher_distance])), (o_matcher_latest, .inl (o_matcher_latest_c, o_matcher_latest_n, .inl o_matcher_latest_v))]) (fb_Qv (dC, dI) [(o, .inr (8, [.ref o_symbolCounts, .ref o_distanceCounts, .int o_size, .int o_matches, .int o_numberBits, .ref o_text, .ref o_matcher, .ref o_tokens])), (o_matcher, .inr (4, [.ref o_text, .int o_matcher_chain, .ref o_matcher_latest, .ref o_matcher_earlier, .int u.1, .int o_matcher_length, .int o_matcher_distance])), (o_matcher_latest, .inl (o_matcher_latest_c, o_matcher_latest_n, .inl u.2))] (va_A [(o, .inr (8, [.ref o_symbolCounts, .ref o_distanceCounts, .int o_size, .int o_matches, .int o_numberBits, .ref o_text, .ref o_matcher, .ref o_tokens])), (o_matcher, .inr (4, [.ref o_text, .int o_matcher_chain, .ref o_matcher_latest, .ref o_matcher_earlier, .int o_matcher_linked, .int o_matcher_length, .int o_matcher_distance])), (o_matcher_latest, .inl (o_matcher_latest_c, o_matcher_latest_n, .inl o_matcher_latest_v))] sz)) 0 0 (va_A [(o, .inr (8, [.ref o_symbolCounts, .ref o_distanceCounts, .int o_size, .int o_matches, .int o_numberBits, .ref o_text, .ref o_matcher, .ref o_tokens])), (o_matcher, .inr (4, [.ref o_text, .int o_matcher_chain, .ref o_matcher_latest, .ref o_matcher_earlier, .int o_matcher_linked, .int o_matcher_length, .int o_matcher_distance])), (o_matcher_latest, .inl (o_matcher_latest_c, o_matcher_latest_n, .inl o_matcher_latest_v))] sz) := by
  refine fb_metv (by decide) (Nat.le_of_ble_eq_true rfl) (fun p e s m args below meth c A Q ls H hx hb hml hown hts hP hK hN hZ hD hA hS hret hl => ?_)
  replace hl : lv_has ls 1 [(0, .ref o)] := hl
  unfold pX8_forget at h
  refine lv_aload_n hx hb dX8_forget_0 rfl (lv_at hl 0 rfl) ?_
  refine va_get (D := (dC, dI)) (ci := 8) (v := .ref o_matcher) (C := RX8) (T := TX8) (N := 8) hx hb hts i_X8 hown hK hP 0 rfl rfl 6 (by decide) (hts _ k_274) (fun _ h9 => h9) rfl dX8_forget_1 ?_
  obtain ⟨u1, e1, h⟩ := fb_b h
  refine fb_cv (wc := [(o_matcher, .inr (4, [.ref o_text, .int o_matcher_chain, .ref o_matcher_latest, .ref o_matcher_earlier, .int o_matcher_linked, .int o_matcher_length, .int o_matcher_distance])), (o_matcher_latest, .inl (o_matcher_latest_c, o_matcher_latest_n, .inl o_matcher_latest_v))]) (wr := [(o, .inr (8, [.ref o_symbolCounts, .ref o_distanceCounts, .int o_size, .int o_matches, .int o_numberBits, .ref o_text, .ref o_matcher, .ref o_tokens]))]) (w1 := [(o_matcher, .inr (4, [.ref o_text, .int o_matcher_chain, .ref o_matcher_latest, .ref o_matcher_earlier, .int u1.1, .int o_matcher_length, .int o_matcher_distance])), (o_matcher_latest, .inl (o_matcher_latest_c, o_matcher_latest_n, .inl u1.2))]) (ws' := [(o, .inr (8, [.ref o_symbolCounts, .ref o_distanceCounts, .int o_size, .int o_matches, .int o_numberBits, .ref o_text, .ref o_matcher, .ref o_tokens])), (o_matcher, .inr (4, [.ref o_text, .int o_matcher_chain, .ref o_matcher_latest, .ref o_matcher_earlier, .int u1.1, .int o_matcher_length, .int o_matcher_distance])), (o_matcher_latest, .inl (o_matcher_latest_c, o_matcher_latest_n, .inl u1.2))]) (va_runV (As := []) (rest := []) ⟨hx, hb, hml, hown, hts⟩ (mX4_forget l dC dI o_matcher o_matcher_latest o_text o_matcher_earlier o_matcher_latest_c o_matcher_latest_n o_matcher_chain o_matcher_linked o_matcher_length o_matcher_distance o_matcher_latest_v H.size u1 e1) (cwV 0 hts (fb_GV k_814 k_815 k_816 k_70 k_817) rfl rfl rfl hdX4_forget ⟨Nat.le_of_ble_eq_true rfl, Nat.le_of_ble_eq_true rfl⟩) (fb_pV hP hD hS hA hK hN hZ [1, 2] rfl rfl [0] rfl (q0 := 1) (ci := 4) rfl rfl) rfl rfl hl.1 rfl (lv_room (Nat.le_of_ble_eq_true rfl)) dX8_forget_4 ⟨Nat.le_of_ble_eq_true rfl, Nat.le_of_ble_eq_true rfl⟩) hP hD hS hA [1, 2] [0] rfl rfl rfl (by decide) [0, 1, 2] rfl rfl (fun H locs hP hD hS => ?_)
  have hu := Option.some.inj h
  exact hret _ _ _ _ dX8_forget_7 (by rw [← hu]; exact hP) (by rw [← hu]; exact hD) hS
theorem dX5_forget_0 : decode cX5_forget 0 = .ok (.aload_n 0, 1) := by decide +kernel
theorem dX5_forget_1 : decode cX5_forget 1 = .ok (.iconst 0, 1) := by decide +kernel
theorem dX5_forget_2 : decode cX5_forget 2 = .ok (.putfield 62, 3) := by decide +kernel
theorem dX5_forget_5 : decode cX5_forget 5 = .ok (.aload_n 0, 1) := by decide +kernel
theorem dX5_forget_6 : decode cX5_forget 6 = .ok (.getfield 49, 3) := by decide +kernel
theorem dX5_forget_9 : decode cX5_forget 9 = .ok (.invokevirtual 66, 3) := by decide +kernel
theorem dX5_forget_12 : decode cX5_forget 12 = .ok (.return_, 1) := by decide +kernel
def pX5_forget (o_tokens_matcher_latest_n : Nat)  (o_tokens_matcher_latest_v : Nat → Int32) : Option (Int32 × Int32 × (Nat → Int32)) :=
  (pX8_forget o_tokens_matcher_latest_n o_tokens_matcher_latest_v).bind (fun u1 =>
  some ((0 : Int32), u1.1, u1.2))
theorem hdX5_forget : yX5_forget.cls = RX5 ∧ yX5_forget.cls ≠ "java/lang/invoke/MethodHandle" ∧ yX5_forget.cls ≠ "java/lang/invoke/VarHandle" ∧ (parseMethodDescriptor yX5_forget.desc).map (fun d => d.parameters.length) = some 0 := by decide +kernel
set_option maxHeartbeats 8000000 in
set_option maxRecDepth 100000 in
theorem mX5_forget (l : Launch) (dC : Nat → ClassId) (dI : Nat → Nat → Nat) (o : Nat) (o_tokens : Nat) (o_tokens_matcher : Nat) (o_tokens_matcher_latest : Nat) (o_text : Nat) (o_made : Nat) (o_depths : Nat) (o_symbols : Nat) (o_distances : Nat) (o_telling : Nat) (o_out : Nat) (o_tokens_symbolCounts : Nat) (o_tokens_distanceCounts : Nat) (o_tokens_tokens : Nat) (o_tokens_matcher_earlier : Nat) (o_tokens_matcher_latest_c : ClassId) (o_tokens_matcher_latest_n : Nat) (o_matches : Int32) (o_tokens_size : Int32) (o_tokens_matches : Int32) (o_tokens_numberBits : Int32) (o_tokens_matcher_chain : Int32) (o_tokens_matcher_linked : Int32) (o_tokens_matcher_length : Int32) (o_tokens_matcher_distance : Int32) (o_tokens_matcher_latest_v : Nat → Int32)  (sz : Nat) (u : Int32 × Int32 × (Nat → Int32)) (h : pX5_forget o_tokens_matcher_latest_n o_tokens_matcher_latest_v = some u) : Met l yX5_forget (Cond.code yX5_forget cX5_forget 1 none :: fb_tb) ({ frames := 3, cells := 0, slots := 0, locals := 63 }) (fb_Pc (dC, dI) [.ref o] sz [(o_tokens_matcher_latest_c, .int)] [(o, .inr (5, [.int o_matches, .ref o_text, .ref o_made, .ref o_tokens, .ref o_depths, .ref o_symbols, .ref o_distances, .ref o_telling, .ref o_out])), (o_tokens, .inr (8, [.ref o_tokens_symbolCounts, .ref o_tokens_distanceCounts, .int o_tokens_size, .int o_tokens_matches, .int o_tokens_numberBits, .ref o_text, .ref o_tokens_matcher, .ref o_tokens_tokens])), (o_tokens_matcher, .inr (4, [.ref o_text, .int o_tokens_matcher_chain, .ref o_tokens_matcher_latest, .ref o_tokens_matcher_earlier, .int o_tokens_matcher_linked, .int o_tokens_matcher_length, .int o_tokens_matcher_distance])), (o_tokens_matcher_latest, .inl (o_tokens_matcher_latest_c, o_tokens_matcher_latest_n, .inl o_tokens_matcher_latest_v))]) (fb_Qv (dC, dI) [(o, .inr (5, [.int u.1, .ref o_text, .ref o_made, .ref o_tokens, .ref o_depths, .ref o_symbols, .ref o_distances, .ref o_telling, .ref o_out])), (o_tokens, .inr (8, [.ref o_tokens_symbolCounts, .ref o_tokens_distanceCounts, .int o_tokens_size, .int o_tokens_matches, .int o_tokens_numberBits, .ref o_text, .ref o_tokens_matcher, .ref o_tokens_tokens])), (o_tokens_matcher, .inr (4, [.ref o_text, .int o_tokens_matcher_chain, .ref o_tokens_matcher_latest, .ref o_tokens_matcher_earlier, .int u.2.1, .int o_tokens_matcher_length, .int o_tokens_matcher_distance])), (o_tokens_matcher_latest, .inl (o_tokens_matcher_latest_c, o_tokens_matcher_latest_n, .inl u.2.2))] (va_A [(o, .inr (5, [.int o_matches, .ref o_text, .ref o_made, .ref o_tokens, .ref o_depths, .ref o_symbols, .ref o_distances, .ref o_telling, .ref o_out])), (o_tokens, .inr (8, [.ref o_tokens_symbolCounts, .ref o_tokens_distanceCounts, .int o_tokens_size, .int o_tokens_matches, .int o_tokens_numberBits, .ref o_text, .ref o_tokens_matcher, .ref o_tokens_tokens])), (o_tokens_matcher, .inr (4, [.ref o_text, .int o_tokens_matcher_chain, .ref o_tokens_matcher_latest, .ref o_tokens_matcher_earlier, .int o_tokens_matcher_linked, .int o_tokens_matcher_length, .int o_tokens_matcher_distance])), (o_tokens_matcher_latest, .inl (o_tokens_matcher_latest_c, o_tokens_matcher_latest_n, .inl o_tokens_matcher_latest_v))] sz)) 0 0 (va_A [(o, .inr (5, [.int o_matches, .ref o_text, .ref o_made, .ref o_tokens, .ref o_depths, .ref o_symbols, .ref o_distances, .ref o_telling, .ref o_out])), (o_tokens, .inr (8, [.ref o_tokens_symbolCounts, .ref o_tokens_distanceCounts, .int o_tokens_size, .int o_tokens_matches, .int o_tokens_numberBits, .ref o_text, .ref o_tokens_matcher, .ref o_tokens_tokens])), (o_tokens_matcher, .inr (4, [.ref o_text, .int o_tokens_matcher_chain, .ref o_tokens_matcher_latest, .ref o_tokens_matcher_earlier, .int o_tokens_matcher_linked, .int o_tokens_matcher_length, .int o_tokens_matcher_distance])), (o_tokens_matcher_latest, .inl (o_tokens_matcher_latest_c, o_tokens_matcher_latest_n, .inl o_tokens_matcher_latest_v))] sz) := by
  refine fb_metv (by decide) (Nat.le_of_ble_eq_true rfl) (fun p e s m args below meth c A Q ls H hx hb hml hown hts hP hK hN hZ hD hA hS hret hl => ?_)
  replace hl : lv_has ls 1 [(0, .ref o)] := hl
  unfold pX5_forget at h
  refine lv_aload_n hx hb dX5_forget_0 rfl (lv_at hl 0 rfl) ?_
  refine lv_iconst (v := (0 : Int32)) hx hb dX5_forget_1 (by decide) ?_
  refine va_put (D := (dC, dI)) (ci := 5) (v := .int (0 : Int32)) (ty := .int) (C := RX5) (T := TX5) (N := 9) hx hb hts i_X5 tyX5 tyX5_ok nmX5 hown hK hP hD hS 0 rfl rfl 0 (by decide) (hts _ k_309) (fun _ h9 => h9) rfl (by decide +kernel) rfl rfl (Nat.le_of_ble_eq_true rfl) dX5_forget_2 (fun H locs hP hD hS => ?_)
  replace hP : va_P (dC, dI) fb_cl [(o, .inr (5, [.int (0 : Int32), .ref o_text, .ref o_made, .ref o_tokens, .ref o_depths, .ref o_symbols, .ref o_distances, .ref o_telling, .ref o_out])), (o_tokens, .inr (8, [.ref o_tokens_symbolCounts, .ref o_tokens_distanceCounts, .int o_tokens_size, .int o_tokens_matches, .int o_tokens_numberBits, .ref o_text, .ref o_tokens_matcher, .ref o_tokens_tokens])), (o_tokens_matcher, .inr (4, [.ref o_text, .int o_tokens_matcher_chain, .ref o_tokens_matcher_latest, .ref o_tokens_matcher_earlier, .int o_tokens_matcher_linked, .int o_tokens_matcher_length, .int o_tokens_matcher_distance])), (o_tokens_matcher_latest, .inl (o_tokens_matcher_latest_c, o_tokens_matcher_latest_n, .inl o_tokens_matcher_latest_v))] H := hP
  replace hD : va_D A [(o, .inr (5, [.int (0 : Int32), .ref o_text, .ref o_made, .ref o_tokens, .ref o_depths, .ref o_symbols, .ref o_distances, .ref o_telling, .ref o_out])), (o_tokens, .inr (8, [.ref o_tokens_symbolCounts, .ref o_tokens_distanceCounts, .int o_tokens_size, .int o_tokens_matches, .int o_tokens_numberBits, .ref o_text, .ref o_tokens_matcher, .ref o_tokens_tokens])), (o_tokens_matcher, .inr (4, [.ref o_text, .int o_tokens_matcher_chain, .ref o_tokens_matcher_latest, .ref o_tokens_matcher_earlier, .int o_tokens_matcher_linked, .int o_tokens_matcher_length, .int o_tokens_matcher_distance])), (o_tokens_matcher_latest, .inl (o_tokens_matcher_latest_c, o_tokens_matcher_latest_n, .inl o_tokens_matcher_latest_v))] := hD
  refine lv_aload_n hx hb dX5_forget_5 rfl (lv_at hl 0 rfl) ?_
  refine va_get (D := (dC, dI)) (ci := 5) (v := .ref o_tokens) (C := RX5) (T := TX5) (N := 9) hx hb hts i_X5 hown hK hP 0 rfl rfl 3 (by decide) (hts _ k_313) (fun _ h9 => h9) rfl dX5_forget_6 ?_
  obtain ⟨u1, e1, h⟩ := fb_b h
  refine fb_cv (wc := [(o_tokens, .inr (8, [.ref o_tokens_symbolCounts, .ref o_tokens_distanceCounts, .int o_tokens_size, .int o_tokens_matches, .int o_tokens_numberBits, .ref o_text, .ref o_tokens_matcher, .ref o_tokens_tokens])), (o_tokens_matcher, .inr (4, [.ref o_text, .int o_tokens_matcher_chain, .ref o_tokens_matcher_latest, .ref o_tokens_matcher_earlier, .int o_tokens_matcher_linked, .int o_tokens_matcher_length, .int o_tokens_matcher_distance])), (o_tokens_matcher_latest, .inl (o_tokens_matcher_latest_c, o_tokens_matcher_latest_n, .inl o_tokens_matcher_latest_v))]) (wr := [(o, .inr (5, [.int (0 : Int32), .ref o_text, .ref o_made, .ref o_tokens, .ref o_depths, .ref o_symbols, .ref o_distances, .ref o_telling, .ref o_out]))]) (w1 := [(o_tokens, .inr (8, [.ref o_tokens_symbolCounts, .ref o_tokens_distanceCounts, .int o_tokens_size, .int o_tokens_matches, .int o_tokens_numberBits, .ref o_text, .ref o_tokens_matcher, .ref o_tokens_tokens])), (o_tokens_matcher, .inr (4, [.ref o_text, .int o_tokens_matcher_chain, .ref o_tokens_matcher_latest, .ref o_tokens_matcher_earlier, .int u1.1, .int o_tokens_matcher_length, .int o_tokens_matcher_distance])), (o_tokens_matcher_latest, .inl (o_tokens_matcher_latest_c, o_tokens_matcher_latest_n, .inl u1.2))]) (ws' := [(o, .inr (5, [.int (0 : Int32), .ref o_text, .ref o_made, .ref o_tokens, .ref o_depths, .ref o_symbols, .ref o_distances, .ref o_telling, .ref o_out])), (o_tokens, .inr (8, [.ref o_tokens_symbolCounts, .ref o_tokens_distanceCounts, .int o_tokens_size, .int o_tokens_matches, .int o_tokens_numberBits, .ref o_text, .ref o_tokens_matcher, .ref o_tokens_tokens])), (o_tokens_matcher, .inr (4, [.ref o_text, .int o_tokens_matcher_chain, .ref o_tokens_matcher_latest, .ref o_tokens_matcher_earlier, .int u1.1, .int o_tokens_matcher_length, .int o_tokens_matcher_distance])), (o_tokens_matcher_latest, .inl (o_tokens_matcher_latest_c, o_tokens_matcher_latest_n, .inl u1.2))]) (va_runV (As := []) (rest := []) ⟨hx, hb, hml, hown, hts⟩ (mX8_forget l dC dI o_tokens o_tokens_matcher o_tokens_matcher_latest o_tokens_symbolCounts o_tokens_distanceCounts o_text o_tokens_tokens o_tokens_matcher_earlier o_tokens_matcher_latest_c o_tokens_matcher_latest_n o_tokens_size o_tokens_matches o_tokens_numberBits o_tokens_matcher_chain o_tokens_matcher_linked o_tokens_matcher_length o_tokens_matcher_distance o_tokens_matcher_latest_v H.size u1 e1) (cwV 0 hts (fb_GV k_810 k_811 k_812 k_69 k_813) rfl rfl rfl hdX8_forget ⟨Nat.le_of_ble_eq_true rfl, Nat.le_of_ble_eq_true rfl⟩) (fb_pV hP hD hS hA hK hN hZ [1, 2, 3] rfl rfl [0] rfl (q0 := 1) (ci := 8) rfl rfl) rfl rfl hl.1 rfl (lv_room (Nat.le_of_ble_eq_true rfl)) dX5_forget_9 ⟨Nat.le_of_ble_eq_true rfl, Nat.le_of_ble_eq_true rfl⟩) hP hD hS hA [1, 2, 3] [0] rfl rfl rfl (by decide) [0, 1, 2, 3] rfl rfl (fun H locs hP hD hS => ?_)
  have hu := Option.some.inj h
  exact hret _ _ _ _ dX5_forget_12 (by rw [← hu]; exact hP) (by rw [← hu]; exact hD) hS
theorem dX10_bitsToCut_0 : decode cX10_bitsToCut 0 = .ok (.iconst 0, 1) := by decide +kernel
theorem dX10_bitsToCut_1 : decode cX10_bitsToCut 1 = .ok (.istore_n 2, 1) := by decide +kernel
theorem dX10_bitsToCut_2 : decode cX10_bitsToCut 2 = .ok (.iload_n 2, 1) := by decide +kernel
theorem dX10_bitsToCut_3 : decode cX10_bitsToCut 3 = .ok (.bipush 15, 2) := by decide +kernel
theorem dX10_bitsToCut_5 : decode cX10_bitsToCut 5 = .ok (.if_icmp .ge 16, 3) := by decide +kernel
theorem dX10_bitsToCut_8 : decode cX10_bitsToCut 8 = .ok (.iload_n 0, 1) := by decide +kernel
theorem dX10_bitsToCut_9 : decode cX10_bitsToCut 9 = .ok (.iload_n 2, 1) := by decide +kernel
theorem dX10_bitsToCut_10 : decode cX10_bitsToCut 10 = .ok (.ishr, 1) := by decide +kernel
theorem dX10_bitsToCut_11 : decode cX10_bitsToCut 11 = .ok (.iload_n 1, 1) := by decide +kernel
theorem dX10_bitsToCut_12 : decode cX10_bitsToCut 12 = .ok (.if_icmp .lt 9, 3) := by decide +kernel
theorem dX10_bitsToCut_15 : decode cX10_bitsToCut 15 = .ok (.iinc 2 1, 3) := by decide +kernel
theorem dX10_bitsToCut_18 : decode cX10_bitsToCut 18 = .ok (.goto (-16), 3) := by decide +kernel
theorem dX10_bitsToCut_21 : decode cX10_bitsToCut 21 = .ok (.iload_n 2, 1) := by decide +kernel
theorem dX10_bitsToCut_22 : decode cX10_bitsToCut 22 = .ok (.ireturn, 1) := by decide +kernel
def pX10_bitsToCut_b2 (x0 : Int32) (x1 : Int32)  : Nat → Int32 → Option (Int32)
  | 0 => fun _ => none
  | n + 1 => fun x2 =>
  if (15 : Int32) ≤ x2 then
  (some (x2))
  else
  (if (x0 >>> (x2 &&& 31)) < x1 then
  (some (x2))
  else
  ((pX10_bitsToCut_b2 x0 x1 n) (x2 + (1 : Int32))))
def pX10_bitsToCut (x0 : Int32) (x1 : Int32)   : Option (Int32) :=
  pX10_bitsToCut_b2 x0 x1 fb_F (0 : Int32)
theorem hdX10_bitsToCut : yX10_bitsToCut.cls ≠ "java/lang/invoke/MethodHandle" ∧ yX10_bitsToCut.cls ≠ "java/lang/invoke/VarHandle" ∧ (parseMethodDescriptor yX10_bitsToCut.desc).map (fun d => d.parameters.length) = some 2 := by decide +kernel
set_option maxHeartbeats 8000000 in
set_option maxRecDepth 100000 in
theorem mX10_bitsToCut (l : Launch) (dC : Nat → ClassId) (dI : Nat → Nat → Nat)     (x0 : Int32) (x1 : Int32) (sz : Nat) (u : Int32) (h : pX10_bitsToCut x0 x1 = some u) : Met l yX10_bitsToCut (Cond.code yX10_bitsToCut cX10_bitsToCut 3 (some .int) :: fb_tb) ({ frames := 0, cells := 0, slots := 0, locals := 0 }) (fb_Pc (dC, dI) [.int x0, .int x1] sz [] []) (fb_Qi (dC, dI) u [] (va_A [] sz)) 0 0 (va_A [] sz) := by
  refine fb_meti (ty := .int) (by decide) (Nat.le_of_ble_eq_true rfl) (fun p e s m args below meth c A Q ls H hx hb hml hown hts hP hK hN hZ hD hA hS hret hl => ?_)
  replace hl : lv_has ls 3 [(0, .int x0), (1, .int x1)] := hl
  have wB2 : ∀ n : Nat, ∀ (x2 : Int32) (H : Heap) (locs : List Loc) (ls : Array Slot), va_P (dC, dI) fb_cl [] H → va_D A [] → va_S A s.heap H locs → lv_has ls 3 [(0, .int x0), (1, .int x1), (2, .int x2)] → pX10_bitsToCut_b2 x0 x1 n x2 = some u → W p l e ({ frames := 0, cells := 0, slots := 0, locals := 0 }) s m args below meth c H locs 0 0 Q (F0 m 2 ls []) := by
    intro n
    induction n with
    | zero => intro x2 H locs ls hP hD hS hl h; cases h
    | succ n ih =>
      intro x2 H locs ls hP hD hS hl h
      rw [pX10_bitsToCut_b2] at h
      refine lv_iload_n hx hb dX10_bitsToCut_2 rfl (lv_at hl 2 rfl) ?_
      refine lv_bipush (v := (15 : Int32)) hx hb dX10_bitsToCut_3 (by decide) ?_
      refine lv_icmp_ge (tgt := 21) hx hb dX10_bitsToCut_5 (by decide) (fun c1 => ?_) (fun c1 => ?_)
      · replace h := fb_t c1 h
        refine lv_iload_n hx hb dX10_bitsToCut_21 rfl (lv_at hl 2 rfl) ?_
        have hu := Option.some.inj h
        exact hret _ _ _ _ _ dX10_bitsToCut_22 rfl (by rw [← hu]) hP hD hS
      · replace h := fb_f c1 h
        refine lv_iload_n hx hb dX10_bitsToCut_8 rfl (lv_at hl 0 rfl) ?_
        refine lv_iload_n hx hb dX10_bitsToCut_9 rfl (lv_at hl 2 rfl) ?_
        refine lv_ishr hx hb dX10_bitsToCut_10 ?_
        refine lv_iload_n hx hb dX10_bitsToCut_11 rfl (lv_at hl 1 rfl) ?_
        refine lv_icmp_lt (tgt := 21) hx hb dX10_bitsToCut_12 (by decide) (fun c2 => ?_) (fun c2 => ?_)
        · replace h := fb_t c2 h
          refine lv_iload_n hx hb dX10_bitsToCut_21 rfl (lv_at hl 2 rfl) ?_
          have hu := Option.some.inj h
          exact hret _ _ _ _ _ dX10_bitsToCut_22 rfl (by rw [← hu]) hP hD hS
        · replace h := fb_f c2 h
          refine lv_iinc (v := (x2 + (1 : Int32))) (lv' := [(2, .int (x2 + (1 : Int32))), (0, .int x0), (1, .int x1)]) hx hb dX10_bitsToCut_15 hl (k := 2) rfl rfl (by decide) rfl (fun ls hl => ?_)
          refine lv_goto (tgt := 2) hx hb dX10_bitsToCut_18 (by decide) ?_
          exact ih (x2 + (1 : Int32)) _ _ _ hP hD hS (lv_sub hl [1, 2, 0] rfl) h
  unfold pX10_bitsToCut at h
  refine lv_iconst (v := (0 : Int32)) hx hb dX10_bitsToCut_0 (by decide) ?_
  refine lv_istore_n (lv' := [(2, .int (0 : Int32)), (0, .int x0), (1, .int x1)]) hx hb dX10_bitsToCut_1 rfl hl (by decide) rfl (fun ls hl => ?_)
  exact wB2 fb_F (0 : Int32) _ _ _ hP hD hS (lv_sub hl [1, 2, 0] rfl) h
theorem dX10_lengthSymbol_0 : decode cX10_lengthSymbol 0 = .ok (.iload_n 0, 1) := by decide +kernel
theorem dX10_lengthSymbol_1 : decode cX10_lengthSymbol 1 = .ok (.sipush 258, 3) := by decide +kernel
theorem dX10_lengthSymbol_4 : decode cX10_lengthSymbol 4 = .ok (.if_icmp .ne 6, 3) := by decide +kernel
theorem dX10_lengthSymbol_7 : decode cX10_lengthSymbol 7 = .ok (.bipush 28, 2) := by decide +kernel
theorem dX10_lengthSymbol_9 : decode cX10_lengthSymbol 9 = .ok (.ireturn, 1) := by decide +kernel
theorem dX10_lengthSymbol_10 : decode cX10_lengthSymbol 10 = .ok (.iload_n 0, 1) := by decide +kernel
theorem dX10_lengthSymbol_11 : decode cX10_lengthSymbol 11 = .ok (.iconst 3, 1) := by decide +kernel
theorem dX10_lengthSymbol_12 : decode cX10_lengthSymbol 12 = .ok (.isub, 1) := by decide +kernel
theorem dX10_lengthSymbol_13 : decode cX10_lengthSymbol 13 = .ok (.istore_n 1, 1) := by decide +kernel
theorem dX10_lengthSymbol_14 : decode cX10_lengthSymbol 14 = .ok (.iload_n 1, 1) := by decide +kernel
theorem dX10_lengthSymbol_15 : decode cX10_lengthSymbol 15 = .ok (.bipush 8, 2) := by decide +kernel
theorem dX10_lengthSymbol_17 : decode cX10_lengthSymbol 17 = .ok (.invokestatic 110, 3) := by decide +kernel
theorem dX10_lengthSymbol_20 : decode cX10_lengthSymbol 20 = .ok (.istore_n 2, 1) := by decide +kernel
theorem dX10_lengthSymbol_21 : decode cX10_lengthSymbol 21 = .ok (.iconst 4, 1) := by decide +kernel
theorem dX10_lengthSymbol_22 : decode cX10_lengthSymbol 22 = .ok (.iload_n 2, 1) := by decide +kernel
theorem dX10_lengthSymbol_23 : decode cX10_lengthSymbol 23 = .ok (.imul, 1) := by decide +kernel
theorem dX10_lengthSymbol_24 : decode cX10_lengthSymbol 24 = .ok (.iload_n 1, 1) := by decide +kernel
theorem dX10_lengthSymbol_25 : decode cX10_lengthSymbol 25 = .ok (.iload_n 2, 1) := by decide +kernel
theorem dX10_lengthSymbol_26 : decode cX10_lengthSymbol 26 = .ok (.ishr, 1) := by decide +kernel
theorem dX10_lengthSymbol_27 : decode cX10_lengthSymbol 27 = .ok (.iadd, 1) := by decide +kernel
theorem dX10_lengthSymbol_28 : decode cX10_lengthSymbol 28 = .ok (.ireturn, 1) := by decide +kernel
def pX10_lengthSymbol (x0 : Int32)   : Option (Int32) :=
  if x0 = (258 : Int32) then
  (some ((28 : Int32)))
  else
  ((pX10_bitsToCut (x0 - (3 : Int32)) (8 : Int32)).bind (fun u2 =>
  some ((((4 : Int32) * u2) + ((x0 - (3 : Int32)) >>> (u2 &&& 31))))))
theorem hdX10_lengthSymbol : yX10_lengthSymbol.cls ≠ "java/lang/invoke/MethodHandle" ∧ yX10_lengthSymbol.cls ≠ "java/lang/invoke/VarHandle" ∧ (parseMethodDescriptor yX10_lengthSymbol.desc).map (fun d => d.parameters.length) = some 1 := by decide +kernel
set_option maxHeartbeats 8000000 in
set_option maxRecDepth 100000 in
theorem mX10_lengthSymbol (l : Launch) (dC : Nat → ClassId) (dI : Nat → Nat → Nat)     (x0 : Int32) (sz : Nat) (u : Int32) (h : pX10_lengthSymbol x0 = some u) : Met l yX10_lengthSymbol (Cond.code yX10_lengthSymbol cX10_lengthSymbol 3 (some .int) :: fb_tb) ({ frames := 1, cells := 0, slots := 0, locals := 22 }) (fb_Pc (dC, dI) [.int x0] sz [] []) (fb_Qi (dC, dI) u [] (va_A [] sz)) 0 0 (va_A [] sz) := by
  refine fb_meti (ty := .int) (by decide) (Nat.le_of_ble_eq_true rfl) (fun p e s m args below meth c A Q ls H hx hb hml hown hts hP hK hN hZ hD hA hS hret hl => ?_)
  replace hl : lv_has ls 3 [(0, .int x0)] := hl
  unfold pX10_lengthSymbol at h
  refine lv_iload_n hx hb dX10_lengthSymbol_0 rfl (lv_at hl 0 rfl) ?_
  refine lv_sipush (v := (258 : Int32)) hx hb dX10_lengthSymbol_1 (by decide) ?_
  refine lv_icmp_ne (tgt := 10) hx hb dX10_lengthSymbol_4 (by decide) (fun c1 => ?_) (fun c1 => ?_)
  · replace h := fb_f c1 h
    refine lv_iload_n hx hb dX10_lengthSymbol_10 rfl (lv_at hl 0 rfl) ?_
    refine lv_iconst (v := (3 : Int32)) hx hb dX10_lengthSymbol_11 (by decide) ?_
    refine lv_isub hx hb dX10_lengthSymbol_12 ?_
    refine lv_istore_n (lv' := [(1, .int (x0 - (3 : Int32))), (0, .int x0)]) hx hb dX10_lengthSymbol_13 rfl hl (by decide) rfl (fun ls hl => ?_)
    refine lv_iload_n hx hb dX10_lengthSymbol_14 rfl (lv_at hl 0 rfl) ?_
    refine lv_bipush (v := (8 : Int32)) hx hb dX10_lengthSymbol_15 (by decide) ?_
    obtain ⟨u2, e2, h⟩ := fb_b h
    refine fb_ci (wc := []) (wr := []) (w1 := []) (ws' := []) (va_runS (As := [.int (x0 - (3 : Int32)), .int (8 : Int32)]) (rest := []) ⟨hx, hb, hml, hown, hts⟩ (mX10_bitsToCut l dC dI (x0 - (3 : Int32)) (8 : Int32) H.size u2 e2) (va_cwS 2 hts (fb_GSx k_470 k_471 k_62 k_472) rfl rfl rfl hdX10_bitsToCut ⟨Nat.le_of_ble_eq_true rfl, Nat.le_of_ble_eq_true rfl⟩) (fb_pS hP hD hS hA hK hN hZ [] rfl rfl [] rfl) rfl rfl hl.1 rfl (lv_room (Nat.le_of_ble_eq_true rfl)) dX10_lengthSymbol_17 ⟨Nat.le_of_ble_eq_true rfl, Nat.le_of_ble_eq_true rfl⟩) hP hD hS hA [] [] rfl rfl rfl (by decide) [] rfl rfl (fun H locs hP hD hS => ?_)
    refine lv_istore_n (lv' := [(2, .int u2), (1, .int (x0 - (3 : Int32))), (0, .int x0)]) hx hb dX10_lengthSymbol_20 rfl hl (by decide) rfl (fun ls hl => ?_)
    refine lv_iconst (v := (4 : Int32)) hx hb dX10_lengthSymbol_21 (by decide) ?_
    refine lv_iload_n hx hb dX10_lengthSymbol_22 rfl (lv_at hl 0 rfl) ?_
    refine lv_imul hx hb dX10_lengthSymbol_23 ?_
    refine lv_iload_n hx hb dX10_lengthSymbol_24 rfl (lv_at hl 1 rfl) ?_
    refine lv_iload_n hx hb dX10_lengthSymbol_25 rfl (lv_at hl 0 rfl) ?_
    refine lv_ishr hx hb dX10_lengthSymbol_26 ?_
    refine lv_iadd hx hb dX10_lengthSymbol_27 ?_
    have hu := Option.some.inj h
    exact hret _ _ _ _ _ dX10_lengthSymbol_28 rfl (by rw [← hu]) hP hD hS
  · replace h := fb_t c1 h
    refine lv_bipush (v := (28 : Int32)) hx hb dX10_lengthSymbol_7 (by decide) ?_
    have hu := Option.some.inj h
    exact hret _ _ _ _ _ dX10_lengthSymbol_9 rfl (by rw [← hu]) hP hD hS
theorem dX10_distanceSymbol_0 : decode cX10_distanceSymbol 0 = .ok (.iload_n 0, 1) := by decide +kernel
theorem dX10_distanceSymbol_1 : decode cX10_distanceSymbol 1 = .ok (.iconst 1, 1) := by decide +kernel
theorem dX10_distanceSymbol_2 : decode cX10_distanceSymbol 2 = .ok (.isub, 1) := by decide +kernel
theorem dX10_distanceSymbol_3 : decode cX10_distanceSymbol 3 = .ok (.istore_n 1, 1) := by decide +kernel
theorem dX10_distanceSymbol_4 : decode cX10_distanceSymbol 4 = .ok (.iload_n 1, 1) := by decide +kernel
theorem dX10_distanceSymbol_5 : decode cX10_distanceSymbol 5 = .ok (.iconst 4, 1) := by decide +kernel
theorem dX10_distanceSymbol_6 : decode cX10_distanceSymbol 6 = .ok (.invokestatic 110, 3) := by decide +kernel
theorem dX10_distanceSymbol_9 : decode cX10_distanceSymbol 9 = .ok (.istore_n 2, 1) := by decide +kernel
theorem dX10_distanceSymbol_10 : decode cX10_distanceSymbol 10 = .ok (.iconst 2, 1) := by decide +kernel
theorem dX10_distanceSymbol_11 : decode cX10_distanceSymbol 11 = .ok (.iload_n 2, 1) := by decide +kernel
theorem dX10_distanceSymbol_12 : decode cX10_distanceSymbol 12 = .ok (.imul, 1) := by decide +kernel
theorem dX10_distanceSymbol_13 : decode cX10_distanceSymbol 13 = .ok (.iload_n 1, 1) := by decide +kernel
theorem dX10_distanceSymbol_14 : decode cX10_distanceSymbol 14 = .ok (.iload_n 2, 1) := by decide +kernel
theorem dX10_distanceSymbol_15 : decode cX10_distanceSymbol 15 = .ok (.ishr, 1) := by decide +kernel
theorem dX10_distanceSymbol_16 : decode cX10_distanceSymbol 16 = .ok (.iadd, 1) := by decide +kernel
theorem dX10_distanceSymbol_17 : decode cX10_distanceSymbol 17 = .ok (.ireturn, 1) := by decide +kernel
def pX10_distanceSymbol (x0 : Int32)   : Option (Int32) :=
  (pX10_bitsToCut (x0 - (1 : Int32)) (4 : Int32)).bind (fun u1 =>
  some ((((2 : Int32) * u1) + ((x0 - (1 : Int32)) >>> (u1 &&& 31)))))
theorem hdX10_distanceSymbol : yX10_distanceSymbol.cls ≠ "java/lang/invoke/MethodHandle" ∧ yX10_distanceSymbol.cls ≠ "java/lang/invoke/VarHandle" ∧ (parseMethodDescriptor yX10_distanceSymbol.desc).map (fun d => d.parameters.length) = some 1 := by decide +kernel
set_option maxHeartbeats 8000000 in
set_option maxRecDepth 100000 in
theorem mX10_distanceSymbol (l : Launch) (dC : Nat → ClassId) (dI : Nat → Nat → Nat)     (x0 : Int32) (sz : Nat) (u : Int32) (h : pX10_distanceSymbol x0 = some u) : Met l yX10_distanceSymbol (Cond.code yX10_distanceSymbol cX10_distanceSymbol 3 (some .int) :: fb_tb) ({ frames := 1, cells := 0, slots := 0, locals := 22 }) (fb_Pc (dC, dI) [.int x0] sz [] []) (fb_Qi (dC, dI) u [] (va_A [] sz)) 0 0 (va_A [] sz) := by
  refine fb_meti (ty := .int) (by decide) (Nat.le_of_ble_eq_true rfl) (fun p e s m args below meth c A Q ls H hx hb hml hown hts hP hK hN hZ hD hA hS hret hl => ?_)
  replace hl : lv_has ls 3 [(0, .int x0)] := hl
  unfold pX10_distanceSymbol at h
  refine lv_iload_n hx hb dX10_distanceSymbol_0 rfl (lv_at hl 0 rfl) ?_
  refine lv_iconst (v := (1 : Int32)) hx hb dX10_distanceSymbol_1 (by decide) ?_
  refine lv_isub hx hb dX10_distanceSymbol_2 ?_
  refine lv_istore_n (lv' := [(1, .int (x0 - (1 : Int32))), (0, .int x0)]) hx hb dX10_distanceSymbol_3 rfl hl (by decide) rfl (fun ls hl => ?_)
  refine lv_iload_n hx hb dX10_distanceSymbol_4 rfl (lv_at hl 0 rfl) ?_
  refine lv_iconst (v := (4 : Int32)) hx hb dX10_distanceSymbol_5 (by decide) ?_
  obtain ⟨u1, e1, h⟩ := fb_b h
  refine fb_ci (wc := []) (wr := []) (w1 := []) (ws' := []) (va_runS (As := [.int (x0 - (1 : Int32)), .int (4 : Int32)]) (rest := []) ⟨hx, hb, hml, hown, hts⟩ (mX10_bitsToCut l dC dI (x0 - (1 : Int32)) (4 : Int32) H.size u1 e1) (va_cwS 2 hts (fb_GSx k_470 k_471 k_62 k_472) rfl rfl rfl hdX10_bitsToCut ⟨Nat.le_of_ble_eq_true rfl, Nat.le_of_ble_eq_true rfl⟩) (fb_pS hP hD hS hA hK hN hZ [] rfl rfl [] rfl) rfl rfl hl.1 rfl (lv_room (Nat.le_of_ble_eq_true rfl)) dX10_distanceSymbol_6 ⟨Nat.le_of_ble_eq_true rfl, Nat.le_of_ble_eq_true rfl⟩) hP hD hS hA [] [] rfl rfl rfl (by decide) [] rfl rfl (fun H locs hP hD hS => ?_)
  refine lv_istore_n (lv' := [(2, .int u1), (1, .int (x0 - (1 : Int32))), (0, .int x0)]) hx hb dX10_distanceSymbol_9 rfl hl (by decide) rfl (fun ls hl => ?_)
  refine lv_iconst (v := (2 : Int32)) hx hb dX10_distanceSymbol_10 (by decide) ?_
  refine lv_iload_n hx hb dX10_distanceSymbol_11 rfl (lv_at hl 0 rfl) ?_
  refine lv_imul hx hb dX10_distanceSymbol_12 ?_
  refine lv_iload_n hx hb dX10_distanceSymbol_13 rfl (lv_at hl 1 rfl) ?_
  refine lv_iload_n hx hb dX10_distanceSymbol_14 rfl (lv_at hl 0 rfl) ?_
  refine lv_ishr hx hb dX10_distanceSymbol_15 ?_
  refine lv_iadd hx hb dX10_distanceSymbol_16 ?_
  have hu := Option.some.inj h
  exact hret _ _ _ _ _ dX10_distanceSymbol_17 rfl (by rw [← hu]) hP hD hS
theorem dX10_lengthBits_0 : decode cX10_lengthBits 0 = .ok (.iload_n 0, 1) := by decide +kernel
theorem dX10_lengthBits_1 : decode cX10_lengthBits 1 = .ok (.bipush 8, 2) := by decide +kernel
theorem dX10_lengthBits_3 : decode cX10_lengthBits 3 = .ok (.if_icmp .lt 9, 3) := by decide +kernel
theorem dX10_lengthBits_6 : decode cX10_lengthBits 6 = .ok (.iload_n 0, 1) := by decide +kernel
theorem dX10_lengthBits_7 : decode cX10_lengthBits 7 = .ok (.bipush 28, 2) := by decide +kernel
theorem dX10_lengthBits_9 : decode cX10_lengthBits 9 = .ok (.if_icmp .ne 7, 3) := by decide +kernel
theorem dX10_lengthBits_12 : decode cX10_lengthBits 12 = .ok (.iconst 0, 1) := by decide +kernel
theorem dX10_lengthBits_13 : decode cX10_lengthBits 13 = .ok (.goto 8, 3) := by decide +kernel
theorem dX10_lengthBits_16 : decode cX10_lengthBits 16 = .ok (.iload_n 0, 1) := by decide +kernel
theorem dX10_lengthBits_17 : decode cX10_lengthBits 17 = .ok (.iconst 4, 1) := by decide +kernel
theorem dX10_lengthBits_18 : decode cX10_lengthBits 18 = .ok (.idiv, 1) := by decide +kernel
theorem dX10_lengthBits_19 : decode cX10_lengthBits 19 = .ok (.iconst 1, 1) := by decide +kernel
theorem dX10_lengthBits_20 : decode cX10_lengthBits 20 = .ok (.isub, 1) := by decide +kernel
theorem dX10_lengthBits_21 : decode cX10_lengthBits 21 = .ok (.ireturn, 1) := by decide +kernel
def pX10_lengthBits (x0 : Int32)   : Option (Int32) :=
  if x0 < (8 : Int32) then
  (some ((0 : Int32)))
  else
  (if x0 = (28 : Int32) then
  (some ((0 : Int32)))
  else
  (some (((x0 / (4 : Int32)) - (1 : Int32)))))
theorem hdX10_lengthBits : yX10_lengthBits.cls ≠ "java/lang/invoke/MethodHandle" ∧ yX10_lengthBits.cls ≠ "java/lang/invoke/VarHandle" ∧ (parseMethodDescriptor yX10_lengthBits.desc).map (fun d => d.parameters.length) = some 1 := by decide +kernel
set_option maxHeartbeats 8000000 in
set_option maxRecDepth 100000 in
theorem mX10_lengthBits (l : Launch) (dC : Nat → ClassId) (dI : Nat → Nat → Nat)     (x0 : Int32) (sz : Nat) (u : Int32) (h : pX10_lengthBits x0 = some u) : Met l yX10_lengthBits (Cond.code yX10_lengthBits cX10_lengthBits 1 (some .int) :: fb_tb) ({ frames := 0, cells := 0, slots := 0, locals := 0 }) (fb_Pc (dC, dI) [.int x0] sz [] []) (fb_Qi (dC, dI) u [] (va_A [] sz)) 0 0 (va_A [] sz) := by
  refine fb_meti (ty := .int) (by decide) (Nat.le_of_ble_eq_true rfl) (fun p e s m args below meth c A Q ls H hx hb hml hown hts hP hK hN hZ hD hA hS hret hl => ?_)
  replace hl : lv_has ls 1 [(0, .int x0)] := hl
  unfold pX10_lengthBits at h
  refine lv_iload_n hx hb dX10_lengthBits_0 rfl (lv_at hl 0 rfl) ?_
  refine lv_bipush (v := (8 : Int32)) hx hb dX10_lengthBits_1 (by decide) ?_
  refine lv_icmp_lt (tgt := 12) hx hb dX10_lengthBits_3 (by decide) (fun c1 => ?_) (fun c1 => ?_)
  · replace h := fb_t c1 h
    refine lv_iconst (v := (0 : Int32)) hx hb dX10_lengthBits_12 (by decide) ?_
    refine lv_goto (tgt := 21) hx hb dX10_lengthBits_13 (by decide) ?_
    have hu := Option.some.inj h
    exact hret _ _ _ _ _ dX10_lengthBits_21 rfl (by rw [← hu]) hP hD hS
  · replace h := fb_f c1 h
    refine lv_iload_n hx hb dX10_lengthBits_6 rfl (lv_at hl 0 rfl) ?_
    refine lv_bipush (v := (28 : Int32)) hx hb dX10_lengthBits_7 (by decide) ?_
    refine lv_icmp_ne (tgt := 16) hx hb dX10_lengthBits_9 (by decide) (fun c2 => ?_) (fun c2 => ?_)
    · replace h := fb_f c2 h
      refine lv_iload_n hx hb dX10_lengthBits_16 rfl (lv_at hl 0 rfl) ?_
      refine lv_iconst (v := (4 : Int32)) hx hb dX10_lengthBits_17 (by decide) ?_
      refine lv_idiv hx hb dX10_lengthBits_18 (by decide) ?_
      refine lv_iconst (v := (1 : Int32)) hx hb dX10_lengthBits_19 (by decide) ?_
      refine lv_isub hx hb dX10_lengthBits_20 ?_
      have hu := Option.some.inj h
      exact hret _ _ _ _ _ dX10_lengthBits_21 rfl (by rw [← hu]) hP hD hS
    · replace h := fb_t c2 h
      refine lv_iconst (v := (0 : Int32)) hx hb dX10_lengthBits_12 (by decide) ?_
      refine lv_goto (tgt := 21) hx hb dX10_lengthBits_13 (by decide) ?_
      have hu := Option.some.inj h
      exact hret _ _ _ _ _ dX10_lengthBits_21 rfl (by rw [← hu]) hP hD hS
theorem dX10_distanceBits_0 : decode cX10_distanceBits 0 = .ok (.iload_n 0, 1) := by decide +kernel
theorem dX10_distanceBits_1 : decode cX10_distanceBits 1 = .ok (.iconst 4, 1) := by decide +kernel
theorem dX10_distanceBits_2 : decode cX10_distanceBits 2 = .ok (.if_icmp .ge 7, 3) := by decide +kernel
theorem dX10_distanceBits_5 : decode cX10_distanceBits 5 = .ok (.iconst 0, 1) := by decide +kernel
theorem dX10_distanceBits_6 : decode cX10_distanceBits 6 = .ok (.goto 8, 3) := by decide +kernel
theorem dX10_distanceBits_9 : decode cX10_distanceBits 9 = .ok (.iload_n 0, 1) := by decide +kernel
theorem dX10_distanceBits_10 : decode cX10_distanceBits 10 = .ok (.iconst 2, 1) := by decide +kernel
theorem dX10_distanceBits_11 : decode cX10_distanceBits 11 = .ok (.idiv, 1) := by decide +kernel
theorem dX10_distanceBits_12 : decode cX10_distanceBits 12 = .ok (.iconst 1, 1) := by decide +kernel
theorem dX10_distanceBits_13 : decode cX10_distanceBits 13 = .ok (.isub, 1) := by decide +kernel
theorem dX10_distanceBits_14 : decode cX10_distanceBits 14 = .ok (.ireturn, 1) := by decide +kernel
def pX10_distanceBits (x0 : Int32)   : Option (Int32) :=
  if (4 : Int32) ≤ x0 then
  (some (((x0 / (2 : Int32)) - (1 : Int32))))
  else
  (some ((0 : Int32)))
theorem hdX10_distanceBits : yX10_distanceBits.cls ≠ "java/lang/invoke/MethodHandle" ∧ yX10_distanceBits.cls ≠ "java/lang/invoke/VarHandle" ∧ (parseMethodDescriptor yX10_distanceBits.desc).map (fun d => d.parameters.length) = some 1 := by decide +kernel
set_option maxHeartbeats 8000000 in
set_option maxRecDepth 100000 in
theorem mX10_distanceBits (l : Launch) (dC : Nat → ClassId) (dI : Nat → Nat → Nat)     (x0 : Int32) (sz : Nat) (u : Int32) (h : pX10_distanceBits x0 = some u) : Met l yX10_distanceBits (Cond.code yX10_distanceBits cX10_distanceBits 1 (some .int) :: fb_tb) ({ frames := 0, cells := 0, slots := 0, locals := 0 }) (fb_Pc (dC, dI) [.int x0] sz [] []) (fb_Qi (dC, dI) u [] (va_A [] sz)) 0 0 (va_A [] sz) := by
  refine fb_meti (ty := .int) (by decide) (Nat.le_of_ble_eq_true rfl) (fun p e s m args below meth c A Q ls H hx hb hml hown hts hP hK hN hZ hD hA hS hret hl => ?_)
  replace hl : lv_has ls 1 [(0, .int x0)] := hl
  unfold pX10_distanceBits at h
  refine lv_iload_n hx hb dX10_distanceBits_0 rfl (lv_at hl 0 rfl) ?_
  refine lv_iconst (v := (4 : Int32)) hx hb dX10_distanceBits_1 (by decide) ?_
  refine lv_icmp_ge (tgt := 9) hx hb dX10_distanceBits_2 (by decide) (fun c1 => ?_) (fun c1 => ?_)
  · replace h := fb_t c1 h
    refine lv_iload_n hx hb dX10_distanceBits_9 rfl (lv_at hl 0 rfl) ?_
    refine lv_iconst (v := (2 : Int32)) hx hb dX10_distanceBits_10 (by decide) ?_
    refine lv_idiv hx hb dX10_distanceBits_11 (by decide) ?_
    refine lv_iconst (v := (1 : Int32)) hx hb dX10_distanceBits_12 (by decide) ?_
    refine lv_isub hx hb dX10_distanceBits_13 ?_
    have hu := Option.some.inj h
    exact hret _ _ _ _ _ dX10_distanceBits_14 rfl (by rw [← hu]) hP hD hS
  · replace h := fb_f c1 h
    refine lv_iconst (v := (0 : Int32)) hx hb dX10_distanceBits_5 (by decide) ?_
    refine lv_goto (tgt := 14) hx hb dX10_distanceBits_6 (by decide) ?_
    have hu := Option.some.inj h
    exact hret _ _ _ _ _ dX10_distanceBits_14 rfl (by rw [← hu]) hP hD hS
theorem dX8_addMatch_0 : decode cX8_addMatch 0 = .ok (.aload_n 0, 1) := by decide +kernel
theorem dX8_addMatch_1 : decode cX8_addMatch 1 = .ok (.getfield 37, 3) := by decide +kernel
theorem dX8_addMatch_4 : decode cX8_addMatch 4 = .ok (.aload_n 0, 1) := by decide +kernel
theorem dX8_addMatch_5 : decode cX8_addMatch 5 = .ok (.getfield 44, 3) := by decide +kernel
theorem dX8_addMatch_8 : decode cX8_addMatch 8 = .ok (.iload_n 1, 1) := by decide +kernel
theorem dX8_addMatch_9 : decode cX8_addMatch 9 = .ok (.bipush 16, 2) := by decide +kernel
theorem dX8_addMatch_11 : decode cX8_addMatch 11 = .ok (.ishl, 1) := by decide +kernel
theorem dX8_addMatch_12 : decode cX8_addMatch 12 = .ok (.iload_n 2, 1) := by decide +kernel
theorem dX8_addMatch_13 : decode cX8_addMatch 13 = .ok (.ior, 1) := by decide +kernel
theorem dX8_addMatch_14 : decode cX8_addMatch 14 = .ok (.iastore, 1) := by decide +kernel
theorem dX8_addMatch_15 : decode cX8_addMatch 15 = .ok (.aload_n 0, 1) := by decide +kernel
theorem dX8_addMatch_16 : decode cX8_addMatch 16 = .ok (.dup, 1) := by decide +kernel
theorem dX8_addMatch_17 : decode cX8_addMatch 17 = .ok (.getfield 44, 3) := by decide +kernel
theorem dX8_addMatch_20 : decode cX8_addMatch 20 = .ok (.iconst 1, 1) := by decide +kernel
theorem dX8_addMatch_21 : decode cX8_addMatch 21 = .ok (.iadd, 1) := by decide +kernel
theorem dX8_addMatch_22 : decode cX8_addMatch 22 = .ok (.putfield 44, 3) := by decide +kernel
theorem dX8_addMatch_25 : decode cX8_addMatch 25 = .ok (.aload_n 0, 1) := by decide +kernel
theorem dX8_addMatch_26 : decode cX8_addMatch 26 = .ok (.dup, 1) := by decide +kernel
theorem dX8_addMatch_27 : decode cX8_addMatch 27 = .ok (.getfield 48, 3) := by decide +kernel
theorem dX8_addMatch_30 : decode cX8_addMatch 30 = .ok (.iconst 1, 1) := by decide +kernel
theorem dX8_addMatch_31 : decode cX8_addMatch 31 = .ok (.iadd, 1) := by decide +kernel
theorem dX8_addMatch_32 : decode cX8_addMatch 32 = .ok (.putfield 48, 3) := by decide +kernel
theorem dX8_addMatch_35 : decode cX8_addMatch 35 = .ok (.iload_n 1, 1) := by decide +kernel
theorem dX8_addMatch_36 : decode cX8_addMatch 36 = .ok (.invokestatic 85, 3) := by decide +kernel
theorem dX8_addMatch_39 : decode cX8_addMatch 39 = .ok (.istore_n 3, 1) := by decide +kernel
theorem dX8_addMatch_40 : decode cX8_addMatch 40 = .ok (.iload_n 2, 1) := by decide +kernel
theorem dX8_addMatch_41 : decode cX8_addMatch 41 = .ok (.invokestatic 88, 3) := by decide +kernel
theorem dX8_addMatch_44 : decode cX8_addMatch 44 = .ok (.istore 4, 2) := by decide +kernel
theorem dX8_addMatch_46 : decode cX8_addMatch 46 = .ok (.aload_n 0, 1) := by decide +kernel
theorem dX8_addMatch_47 : decode cX8_addMatch 47 = .ok (.getfield 9, 3) := by decide +kernel
theorem dX8_addMatch_50 : decode cX8_addMatch 50 = .ok (.sipush 257, 3) := by decide +kernel
theorem dX8_addMatch_53 : decode cX8_addMatch 53 = .ok (.iload_n 3, 1) := by decide +kernel
theorem dX8_addMatch_54 : decode cX8_addMatch 54 = .ok (.iadd, 1) := by decide +kernel
theorem dX8_addMatch_55 : decode cX8_addMatch 55 = .ok (.dup2, 1) := by decide +kernel
theorem dX8_addMatch_56 : decode cX8_addMatch 56 = .ok (.iaload, 1) := by decide +kernel
theorem dX8_addMatch_57 : decode cX8_addMatch 57 = .ok (.iconst 1, 1) := by decide +kernel
theorem dX8_addMatch_58 : decode cX8_addMatch 58 = .ok (.iadd, 1) := by decide +kernel
theorem dX8_addMatch_59 : decode cX8_addMatch 59 = .ok (.iastore, 1) := by decide +kernel
theorem dX8_addMatch_60 : decode cX8_addMatch 60 = .ok (.aload_n 0, 1) := by decide +kernel
theorem dX8_addMatch_61 : decode cX8_addMatch 61 = .ok (.getfield 15, 3) := by decide +kernel
theorem dX8_addMatch_64 : decode cX8_addMatch 64 = .ok (.iload 4, 2) := by decide +kernel
theorem dX8_addMatch_66 : decode cX8_addMatch 66 = .ok (.dup2, 1) := by decide +kernel
theorem dX8_addMatch_67 : decode cX8_addMatch 67 = .ok (.iaload, 1) := by decide +kernel
theorem dX8_addMatch_68 : decode cX8_addMatch 68 = .ok (.iconst 1, 1) := by decide +kernel
theorem dX8_addMatch_69 : decode cX8_addMatch 69 = .ok (.iadd, 1) := by decide +kernel
theorem dX8_addMatch_70 : decode cX8_addMatch 70 = .ok (.iastore, 1) := by decide +kernel
theorem dX8_addMatch_71 : decode cX8_addMatch 71 = .ok (.aload_n 0, 1) := by decide +kernel
theorem dX8_addMatch_72 : decode cX8_addMatch 72 = .ok (.dup, 1) := by decide +kernel
theorem dX8_addMatch_73 : decode cX8_addMatch 73 = .ok (.getfield 51, 3) := by decide +kernel
theorem dX8_addMatch_76 : decode cX8_addMatch 76 = .ok (.iload_n 3, 1) := by decide +kernel
theorem dX8_addMatch_77 : decode cX8_addMatch 77 = .ok (.invokestatic 91, 3) := by decide +kernel
theorem dX8_addMatch_80 : decode cX8_addMatch 80 = .ok (.iload 4, 2) := by decide +kernel
theorem dX8_addMatch_82 : decode cX8_addMatch 82 = .ok (.invokestatic 94, 3) := by decide +kernel
theorem dX8_addMatch_85 : decode cX8_addMatch 85 = .ok (.iadd, 1) := by decide +kernel
theorem dX8_addMatch_86 : decode cX8_addMatch 86 = .ok (.iadd, 1) := by decide +kernel
theorem dX8_addMatch_87 : decode cX8_addMatch 87 = .ok (.putfield 51, 3) := by decide +kernel
theorem dX8_addMatch_90 : decode cX8_addMatch 90 = .ok (.return_, 1) := by decide +kernel
def pX8_addMatch (o_tokens_n : Nat) (o_symbolCounts_n : Nat) (o_distanceCounts_n : Nat) (x1 : Int32) (x2 : Int32)  (o_size : Int32) (o_matches : Int32) (o_numberBits : Int32) (o_tokens_v : Nat → Int32) (o_symbolCounts_v : Nat → Int32) (o_distanceCounts_v : Nat → Int32) : Option (Int32 × Int32 × Int32 × (Nat → Int32) × (Nat → Int32) × (Nat → Int32)) :=
  if o_size < 0 ∨ o_tokens_n ≤ (o_size).toNatClampNeg then none else
  (pX10_lengthSymbol x1).bind (fun u2 =>
  (pX10_distanceSymbol x2).bind (fun u3 =>
  if ((257 : Int32) + u2) < 0 ∨ o_symbolCounts_n ≤ (((257 : Int32) + u2)).toNatClampNeg then none else
  if ((257 : Int32) + u2) < 0 ∨ o_symbolCounts_n ≤ (((257 : Int32) + u2)).toNatClampNeg then none else
  if u3 < 0 ∨ o_distanceCounts_n ≤ (u3).toNatClampNeg then none else
  if u3 < 0 ∨ o_distanceCounts_n ≤ (u3).toNatClampNeg then none else
  (pX10_lengthBits u2).bind (fun u8 =>
  (pX10_distanceBits u3).bind (fun u9 =>
  some ((o_size + (1 : Int32)), (o_matches + (1 : Int32)), (o_numberBits + (u8 + u9)), (upd o_tokens_v (o_size).toNatClampNeg ((x1 <<< ((16 : Int32) &&& 31)) ||| x2)), (upd o_symbolCounts_v (((257 : Int32) + u2)).toNatClampNeg ((o_symbolCounts_v (((257 : Int32) + u2)).toNatClampNeg) + (1 : Int32))), (upd o_distanceCounts_v (u3).toNatClampNeg ((o_distanceCounts_v (u3).toNatClampNeg) + (1 : Int32))))))))
theorem hdX8_addMatch : yX8_addMatch.cls = RX8 ∧ yX8_addMatch.cls ≠ "java/lang/invoke/MethodHandle" ∧ yX8_addMatch.cls ≠ "java/lang/invoke/VarHandle" ∧ (parseMethodDescriptor yX8_addMatch.desc).map (fun d => d.parameters.length) = some 2 := by decide +kernel
set_option maxHeartbeats 8000000 in
set_option maxRecDepth 100000 in
theorem mX8_addMatch (l : Launch) (dC : Nat → ClassId) (dI : Nat → Nat → Nat) (o : Nat) (o_tokens : Nat) (o_symbolCounts : Nat) (o_distanceCounts : Nat) (o_text : Nat) (o_matcher : Nat) (o_tokens_c : ClassId) (o_symbolCounts_c : ClassId) (o_distanceCounts_c : ClassId) (o_tokens_n : Nat) (o_symbolCounts_n : Nat) (o_distanceCounts_n : Nat) (o_size : Int32) (o_matches : Int32) (o_numberBits : Int32) (o_tokens_v : Nat → Int32) (o_symbolCounts_v : Nat → Int32) (o_distanceCounts_v : Nat → Int32) (x1 : Int32) (x2 : Int32) (sz : Nat) (u : Int32 × Int32 × Int32 × (Nat → Int32) × (Nat → Int32) × (Nat → Int32)) (h : pX8_addMatch o_tokens_n o_symbolCounts_n o_distanceCounts_n x1 x2 o_size o_matches o_numberBits o_tokens_v o_symbolCounts_v o_distanceCounts_v = some u) : Met l yX8_addMatch (Cond.code yX8_addMatch cX8_addMatch 5 none :: fb_tb) ({ frames := 2, cells := 0, slots := 0, locals := 44 }) (fb_Pc (dC, dI) [.ref o, .int x1, .int x2] sz [(o_tokens_c, .int), (o_symbolCounts_c, .int), (o_distanceCounts_c, .int)] [(o, .inr (8, [.ref o_symbolCounts, .ref o_distanceCounts, .int o_size, .int o_matches, .int o_numberBits, .ref o_text, .ref o_matcher, .ref o_tokens])), (o_tokens, .inl (o_tokens_c, o_tokens_n, .inl o_tokens_v)), (o_symbolCounts, .inl (o_symbolCounts_c, o_symbolCounts_n, .inl o_symbolCounts_v)), (o_distanceCounts, .inl (o_distanceCounts_c, o_distanceCounts_n, .inl o_distanceCounts_v))]) (fb_Qv (dC, dI) [(o, .inr (8, [.ref o_symbolCounts, .ref o_distanceCounts, .int u.1, .int u.2.1, .int u.2.2.1, .ref o_text, .ref o_matcher, .ref o_tokens])), (o_tokens, .inl (o_tokens_c, o_tokens_n, .inl u.2.2.2.1)), (o_symbolCounts, .inl (o_symbolCounts_c, o_symbolCounts_n, .inl u.2.2.2.2.1)), (o_distanceCounts, .inl (o_distanceCounts_c, o_distanceCounts_n, .inl u.2.2.2.2.2))] (va_A [(o, .inr (8, [.ref o_symbolCounts, .ref o_distanceCounts, .int o_size, .int o_matches, .int o_numberBits, .ref o_text, .ref o_matcher, .ref o_tokens])), (o_tokens, .inl (o_tokens_c, o_tokens_n, .inl o_tokens_v)), (o_symbolCounts, .inl (o_symbolCounts_c, o_symbolCounts_n, .inl o_symbolCounts_v)), (o_distanceCounts, .inl (o_distanceCounts_c, o_distanceCounts_n, .inl o_distanceCounts_v))] sz)) 0 0 (va_A [(o, .inr (8, [.ref o_symbolCounts, .ref o_distanceCounts, .int o_size, .int o_matches, .int o_numberBits, .ref o_text, .ref o_matcher, .ref o_tokens])), (o_tokens, .inl (o_tokens_c, o_tokens_n, .inl o_tokens_v)), (o_symbolCounts, .inl (o_symbolCounts_c, o_symbolCounts_n, .inl o_symbolCounts_v)), (o_distanceCounts, .inl (o_distanceCounts_c, o_distanceCounts_n, .inl o_distanceCounts_v))] sz) := by
  refine fb_metv (by decide) (Nat.le_of_ble_eq_true rfl) (fun p e s m args below meth c A Q ls H hx hb hml hown hts hP hK hN hZ hD hA hS hret hl => ?_)
  replace hl : lv_has ls 5 [(0, .ref o), (1, .int x1), (2, .int x2)] := hl
  unfold pX8_addMatch at h
  refine lv_aload_n hx hb dX8_addMatch_0 rfl (lv_at hl 0 rfl) ?_
  refine va_get (D := (dC, dI)) (ci := 8) (v := .ref o_tokens) (C := RX8) (T := TX8) (N := 8) hx hb hts i_X8 hown hK hP 0 rfl rfl 7 (by decide) (hts _ k_275) (fun _ h9 => h9) rfl dX8_addMatch_1 ?_
  refine lv_aload_n hx hb dX8_addMatch_4 rfl (lv_at hl 0 rfl) ?_
  refine va_get (D := (dC, dI)) (ci := 8) (v := .int o_size) (C := RX8) (T := TX8) (N := 8) hx hb hts i_X8 hown hK hP 0 rfl rfl 2 (by decide) (hts _ k_267) (fun _ h9 => h9) rfl dX8_addMatch_5 ?_
  refine lv_iload_n hx hb dX8_addMatch_8 rfl (lv_at hl 1 rfl) ?_
  refine lv_bipush (v := (16 : Int32)) hx hb dX8_addMatch_9 (by decide) ?_
  refine lv_ishl hx hb dX8_addMatch_11 ?_
  refine lv_iload_n hx hb dX8_addMatch_12 rfl (lv_at hl 2 rfl) ?_
  refine lv_ior hx hb dX8_addMatch_13 ?_
  obtain ⟨g1, h⟩ := fb_g h
  refine va_iast hx hb hK hP hD hS 1 0 rfl rfl g1 dX8_addMatch_14 (fun H locs hP hD hS => ?_)
  replace hP : va_P (dC, dI) fb_cl [(o, .inr (8, [.ref o_symbolCounts, .ref o_distanceCounts, .int o_size, .int o_matches, .int o_numberBits, .ref o_text, .ref o_matcher, .ref o_tokens])), (o_tokens, .inl (o_tokens_c, o_tokens_n, .inl (upd o_tokens_v (o_size).toNatClampNeg ((x1 <<< ((16 : Int32) &&& 31)) ||| x2)))), (o_symbolCounts, .inl (o_symbolCounts_c, o_symbolCounts_n, .inl o_symbolCounts_v)), (o_distanceCounts, .inl (o_distanceCounts_c, o_distanceCounts_n, .inl o_distanceCounts_v))] H := hP
  replace hD : va_D A [(o, .inr (8, [.ref o_symbolCounts, .ref o_distanceCounts, .int o_size, .int o_matches, .int o_numberBits, .ref o_text, .ref o_matcher, .ref o_tokens])), (o_tokens, .inl (o_tokens_c, o_tokens_n, .inl (upd o_tokens_v (o_size).toNatClampNeg ((x1 <<< ((16 : Int32) &&& 31)) ||| x2)))), (o_symbolCounts, .inl (o_symbolCounts_c, o_symbolCounts_n, .inl o_symbolCounts_v)), (o_distanceCounts, .inl (o_distanceCounts_c, o_distanceCounts_n, .inl o_distanceCounts_v))] := hD
  refine lv_aload_n hx hb dX8_addMatch_15 rfl (lv_at hl 0 rfl) ?_
  refine lv_dup hx hb dX8_addMatch_16 rfl ?_
  refine va_get (D := (dC, dI)) (ci := 8) (v := .int o_size) (C := RX8) (T := TX8) (N := 8) hx hb hts i_X8 hown hK hP 0 rfl rfl 2 (by decide) (hts _ k_267) (fun _ h9 => h9) rfl dX8_addMatch_17 ?_
  refine lv_iconst (v := (1 : Int32)) hx hb dX8_addMatch_20 (by decide) ?_
  refine lv_iadd hx hb dX8_addMatch_21 ?_
  refine va_put (D := (dC, dI)) (ci := 8) (v := .int (o_size + (1 : Int32))) (ty := .int) (C := RX8) (T := TX8) (N := 8) hx hb hts i_X8 tyX8 tyX8_ok nmX8 hown hK hP hD hS 0 rfl rfl 2 (by decide) (hts _ k_267) (fun _ h9 => h9) rfl (by decide +kernel) rfl rfl (Nat.le_of_ble_eq_true rfl) dX8_addMatch_22 (fun H locs hP hD hS => ?_)
  replace hP : va_P (dC, dI) fb_cl [(o, .inr (8, [.ref o_symbolCounts, .ref o_distanceCounts, .int (o_size + (1 : Int32)), .int o_matches, .int o_numberBits, .ref o_text, .ref o_matcher, .ref o_tokens])), (o_tokens, .inl (o_tokens_c, o_tokens_n, .inl (upd o_tokens_v (o_size).toNatClampNeg ((x1 <<< ((16 : Int32) &&& 31)) ||| x2)))), (o_symbolCounts, .inl (o_symbolCounts_c, o_symbolCounts_n, .inl o_symbolCounts_v)), (o_distanceCounts, .inl (o_distanceCounts_c, o_distanceCounts_n, .inl o_distanceCounts_v))] H := hP
  replace hD : va_D A [(o, .inr (8, [.ref o_symbolCounts, .ref o_distanceCounts, .int (o_size + (1 : Int32)), .int o_matches, .int o_numberBits, .ref o_text, .ref o_matcher, .ref o_tokens])), (o_tokens, .inl (o_tokens_c, o_tokens_n, .inl (upd o_tokens_v (o_size).toNatClampNeg ((x1 <<< ((16 : Int32) &&& 31)) ||| x2)))), (o_symbolCounts, .inl (o_symbolCounts_c, o_symbolCounts_n, .inl o_symbolCounts_v)), (o_distanceCounts, .inl (o_distanceCounts_c, o_distanceCounts_n, .inl o_distanceCounts_v))] := hD
  refine lv_aload_n hx hb dX8_addMatch_25 rfl (lv_at hl 0 rfl) ?_
  refine lv_dup hx hb dX8_addMatch_26 rfl ?_
  refine va_get (D := (dC, dI)) (ci := 8) (v := .int o_matches) (C := RX8) (T := TX8) (N := 8) hx hb hts i_X8 hown hK hP 0 rfl rfl 3 (by decide) (hts _ k_270) (fun _ h9 => h9) rfl dX8_addMatch_27 ?_
  refine lv_iconst (v := (1 : Int32)) hx hb dX8_addMatch_30 (by decide) ?_
  refine lv_iadd hx hb dX8_addMatch_31 ?_
  refine va_put (D := (dC, dI)) (ci := 8) (v := .int (o_matches + (1 : Int32))) (ty := .int) (C := RX8) (T := TX8) (N := 8) hx hb hts i_X8 tyX8 tyX8_ok nmX8 hown hK hP hD hS 0 rfl rfl 3 (by decide) (hts _ k_270) (fun _ h9 => h9) rfl (by decide +kernel) rfl rfl (Nat.le_of_ble_eq_true rfl) dX8_addMatch_32 (fun H locs hP hD hS => ?_)
  replace hP : va_P (dC, dI) fb_cl [(o, .inr (8, [.ref o_symbolCounts, .ref o_distanceCounts, .int (o_size + (1 : Int32)), .int (o_matches + (1 : Int32)), .int o_numberBits, .ref o_text, .ref o_matcher, .ref o_tokens])), (o_tokens, .inl (o_tokens_c, o_tokens_n, .inl (upd o_tokens_v (o_size).toNatClampNeg ((x1 <<< ((16 : Int32) &&& 31)) ||| x2)))), (o_symbolCounts, .inl (o_symbolCounts_c, o_symbolCounts_n, .inl o_symbolCounts_v)), (o_distanceCounts, .inl (o_distanceCounts_c, o_distanceCounts_n, .inl o_distanceCounts_v))] H := hP
  replace hD : va_D A [(o, .inr (8, [.ref o_symbolCounts, .ref o_distanceCounts, .int (o_size + (1 : Int32)), .int (o_matches + (1 : Int32)), .int o_numberBits, .ref o_text, .ref o_matcher, .ref o_tokens])), (o_tokens, .inl (o_tokens_c, o_tokens_n, .inl (upd o_tokens_v (o_size).toNatClampNeg ((x1 <<< ((16 : Int32) &&& 31)) ||| x2)))), (o_symbolCounts, .inl (o_symbolCounts_c, o_symbolCounts_n, .inl o_symbolCounts_v)), (o_distanceCounts, .inl (o_distanceCounts_c, o_distanceCounts_n, .inl o_distanceCounts_v))] := hD
  refine lv_iload_n hx hb dX8_addMatch_35 rfl (lv_at hl 1 rfl) ?_
  obtain ⟨u2, e2, h⟩ := fb_b h
  refine fb_ci (wc := []) (wr := [(o, .inr (8, [.ref o_symbolCounts, .ref o_distanceCounts, .int (o_size + (1 : Int32)), .int (o_matches + (1 : Int32)), .int o_numberBits, .ref o_text, .ref o_matcher, .ref o_tokens])), (o_tokens, .inl (o_tokens_c, o_tokens_n, .inl (upd o_tokens_v (o_size).toNatClampNeg ((x1 <<< ((16 : Int32) &&& 31)) ||| x2)))), (o_symbolCounts, .inl (o_symbolCounts_c, o_symbolCounts_n, .inl o_symbolCounts_v)), (o_distanceCounts, .inl (o_distanceCounts_c, o_distanceCounts_n, .inl o_distanceCounts_v))]) (w1 := []) (ws' := [(o, .inr (8, [.ref o_symbolCounts, .ref o_distanceCounts, .int (o_size + (1 : Int32)), .int (o_matches + (1 : Int32)), .int o_numberBits, .ref o_text, .ref o_matcher, .ref o_tokens])), (o_tokens, .inl (o_tokens_c, o_tokens_n, .inl (upd o_tokens_v (o_size).toNatClampNeg ((x1 <<< ((16 : Int32) &&& 31)) ||| x2)))), (o_symbolCounts, .inl (o_symbolCounts_c, o_symbolCounts_n, .inl o_symbolCounts_v)), (o_distanceCounts, .inl (o_distanceCounts_c, o_distanceCounts_n, .inl o_distanceCounts_v))]) (va_runSN (As := [.int x1]) (rest := []) ⟨hx, hb, hml, hown, hts⟩ (mX10_lengthSymbol l dC dI x1 H.size u2 e2) ⟨va_cnB 1 hts (fb_GC k_469) rfl rfl rfl (n_2 hN) (hts _ k_62) hdX10_lengthSymbol ⟨Nat.le_of_ble_eq_true rfl, Nat.le_of_ble_eq_true rfl⟩, hts _ k_468, trivial⟩ (fb_pS hP hD hS hA hK hN hZ [] rfl rfl [] rfl) rfl rfl hl.1 rfl (lv_room (Nat.le_of_ble_eq_true rfl)) dX8_addMatch_36 ⟨Nat.le_of_ble_eq_true rfl, Nat.le_of_ble_eq_true rfl⟩) hP hD hS hA [] [0, 1, 2, 3] rfl rfl rfl (by decide) [0, 1, 2, 3] rfl rfl (fun H locs hP hD hS => ?_)
  refine lv_istore_n (lv' := [(3, .int u2), (0, .ref o), (1, .int x1), (2, .int x2)]) hx hb dX8_addMatch_39 rfl hl (by decide) rfl (fun ls hl => ?_)
  refine lv_iload_n hx hb dX8_addMatch_40 rfl (lv_at hl 3 rfl) ?_
  obtain ⟨u3, e3, h⟩ := fb_b h
  refine fb_ci (wc := []) (wr := [(o, .inr (8, [.ref o_symbolCounts, .ref o_distanceCounts, .int (o_size + (1 : Int32)), .int (o_matches + (1 : Int32)), .int o_numberBits, .ref o_text, .ref o_matcher, .ref o_tokens])), (o_tokens, .inl (o_tokens_c, o_tokens_n, .inl (upd o_tokens_v (o_size).toNatClampNeg ((x1 <<< ((16 : Int32) &&& 31)) ||| x2)))), (o_symbolCounts, .inl (o_symbolCounts_c, o_symbolCounts_n, .inl o_symbolCounts_v)), (o_distanceCounts, .inl (o_distanceCounts_c, o_distanceCounts_n, .inl o_distanceCounts_v))]) (w1 := []) (ws' := [(o, .inr (8, [.ref o_symbolCounts, .ref o_distanceCounts, .int (o_size + (1 : Int32)), .int (o_matches + (1 : Int32)), .int o_numberBits, .ref o_text, .ref o_matcher, .ref o_tokens])), (o_tokens, .inl (o_tokens_c, o_tokens_n, .inl (upd o_tokens_v (o_size).toNatClampNeg ((x1 <<< ((16 : Int32) &&& 31)) ||| x2)))), (o_symbolCounts, .inl (o_symbolCounts_c, o_symbolCounts_n, .inl o_symbolCounts_v)), (o_distanceCounts, .inl (o_distanceCounts_c, o_distanceCounts_n, .inl o_distanceCounts_v))]) (va_runSN (As := [.int x2]) (rest := []) ⟨hx, hb, hml, hown, hts⟩ (mX10_distanceSymbol l dC dI x2 H.size u3 e3) ⟨va_cnB 1 hts (fb_GC k_475) rfl rfl rfl (n_3 hN) (hts _ k_62) hdX10_distanceSymbol ⟨Nat.le_of_ble_eq_true rfl, Nat.le_of_ble_eq_true rfl⟩, hts _ k_474, trivial⟩ (fb_pS hP hD hS hA hK hN hZ [] rfl rfl [] rfl) rfl rfl hl.1 rfl (lv_room (Nat.le_of_ble_eq_true rfl)) dX8_addMatch_41 ⟨Nat.le_of_ble_eq_true rfl, Nat.le_of_ble_eq_true rfl⟩) hP hD hS hA [] [0, 1, 2, 3] rfl rfl rfl (by decide) [0, 1, 2, 3] rfl rfl (fun H locs hP hD hS => ?_)
  refine lv_istore (lv' := [(4, .int u3), (3, .int u2), (0, .ref o), (1, .int x1), (2, .int x2)]) hx hb dX8_addMatch_44 hl (by decide) rfl (fun ls hl => ?_)
  refine lv_aload_n hx hb dX8_addMatch_46 rfl (lv_at hl 2 rfl) ?_
  refine va_get (D := (dC, dI)) (ci := 8) (v := .ref o_symbolCounts) (C := RX8) (T := TX8) (N := 8) hx hb hts i_X8 hown hK hP 0 rfl rfl 0 (by decide) (hts _ k_263) (fun _ h9 => h9) rfl dX8_addMatch_47 ?_
  refine lv_sipush (v := (257 : Int32)) hx hb dX8_addMatch_50 (by decide) ?_
  refine lv_iload_n hx hb dX8_addMatch_53 rfl (lv_at hl 1 rfl) ?_
  refine lv_iadd hx hb dX8_addMatch_54 ?_
  refine lv_dup2_11 hx hb dX8_addMatch_55 rfl rfl ?_
  obtain ⟨g4, h⟩ := fb_g h
  refine va_iald hx hb hK hP 2 1 rfl rfl g4 dX8_addMatch_56 ?_
  refine lv_iconst (v := (1 : Int32)) hx hb dX8_addMatch_57 (by decide) ?_
  refine lv_iadd hx hb dX8_addMatch_58 ?_
  obtain ⟨g5, h⟩ := fb_g h
  refine va_iast hx hb hK hP hD hS 2 1 rfl rfl g5 dX8_addMatch_59 (fun H locs hP hD hS => ?_)
  replace hP : va_P (dC, dI) fb_cl [(o, .inr (8, [.ref o_symbolCounts, .ref o_distanceCounts, .int (o_size + (1 : Int32)), .int (o_matches + (1 : Int32)), .int o_numberBits, .ref o_text, .ref o_matcher, .ref o_tokens])), (o_tokens, .inl (o_tokens_c, o_tokens_n, .inl (upd o_tokens_v (o_size).toNatClampNeg ((x1 <<< ((16 : Int32) &&& 31)) ||| x2)))), (o_symbolCounts, .inl (o_symbolCounts_c, o_symbolCounts_n, .inl (upd o_symbolCounts_v (((257 : Int32) + u2)).toNatClampNeg ((o_symbolCounts_v (((257 : Int32) + u2)).toNatClampNeg) + (1 : Int32))))), (o_distanceCounts, .inl (o_distanceCounts_c, o_distanceCounts_n, .inl o_distanceCounts_v))] H := hP
  replace hD : va_D A [(o, .inr (8, [.ref o_symbolCounts, .ref o_distanceCounts, .int (o_size + (1 : Int32)), .int (o_matches + (1 : Int32)), .int o_numberBits, .ref o_text, .ref o_matcher, .ref o_tokens])), (o_tokens, .inl (o_tokens_c, o_tokens_n, .inl (upd o_tokens_v (o_size).toNatClampNeg ((x1 <<< ((16 : Int32) &&& 31)) ||| x2)))), (o_symbolCounts, .inl (o_symbolCounts_c, o_symbolCounts_n, .inl (upd o_symbolCounts_v (((257 : Int32) + u2)).toNatClampNeg ((o_symbolCounts_v (((257 : Int32) + u2)).toNatClampNeg) + (1 : Int32))))), (o_distanceCounts, .inl (o_distanceCounts_c, o_distanceCounts_n, .inl o_distanceCounts_v))] := hD
  refine lv_aload_n hx hb dX8_addMatch_60 rfl (lv_at hl 2 rfl) ?_
  refine va_get (D := (dC, dI)) (ci := 8) (v := .ref o_distanceCounts) (C := RX8) (T := TX8) (N := 8) hx hb hts i_X8 hown hK hP 0 rfl rfl 1 (by decide) (hts _ k_265) (fun _ h9 => h9) rfl dX8_addMatch_61 ?_
  refine lv_iload hx hb dX8_addMatch_64 (lv_at hl 0 rfl) ?_
  refine lv_dup2_11 hx hb dX8_addMatch_66 rfl rfl ?_
  obtain ⟨g6, h⟩ := fb_g h
  refine va_iald hx hb hK hP 3 2 rfl rfl g6 dX8_addMatch_67 ?_
  refine lv_iconst (v := (1 : Int32)) hx hb dX8_addMatch_68 (by decide) ?_
  refine lv_iadd hx hb dX8_addMatch_69 ?_
  obtain ⟨g7, h⟩ := fb_g h
  refine va_iast hx hb hK hP hD hS 3 2 rfl rfl g7 dX8_addMatch_70 (fun H locs hP hD hS => ?_)
  replace hP : va_P (dC, dI) fb_cl [(o, .inr (8, [.ref o_symbolCounts, .ref o_distanceCounts, .int (o_size + (1 : Int32)), .int (o_matches + (1 : Int32)), .int o_numberBits, .ref o_text, .ref o_matcher, .ref o_tokens])), (o_tokens, .inl (o_tokens_c, o_tokens_n, .inl (upd o_tokens_v (o_size).toNatClampNeg ((x1 <<< ((16 : Int32) &&& 31)) ||| x2)))), (o_symbolCounts, .inl (o_symbolCounts_c, o_symbolCounts_n, .inl (upd o_symbolCounts_v (((257 : Int32) + u2)).toNatClampNeg ((o_symbolCounts_v (((257 : Int32) + u2)).toNatClampNeg) + (1 : Int32))))), (o_distanceCounts, .inl (o_distanceCounts_c, o_distanceCounts_n, .inl (upd o_distanceCounts_v (u3).toNatClampNeg ((o_distanceCounts_v (u3).toNatClampNeg) + (1 : Int32)))))] H := hP
  replace hD : va_D A [(o, .inr (8, [.ref o_symbolCounts, .ref o_distanceCounts, .int (o_size + (1 : Int32)), .int (o_matches + (1 : Int32)), .int o_numberBits, .ref o_text, .ref o_matcher, .ref o_tokens])), (o_tokens, .inl (o_tokens_c, o_tokens_n, .inl (upd o_tokens_v (o_size).toNatClampNeg ((x1 <<< ((16 : Int32) &&& 31)) ||| x2)))), (o_symbolCounts, .inl (o_symbolCounts_c, o_symbolCounts_n, .inl (upd o_symbolCounts_v (((257 : Int32) + u2)).toNatClampNeg ((o_symbolCounts_v (((257 : Int32) + u2)).toNatClampNeg) + (1 : Int32))))), (o_distanceCounts, .inl (o_distanceCounts_c, o_distanceCounts_n, .inl (upd o_distanceCounts_v (u3).toNatClampNeg ((o_distanceCounts_v (u3).toNatClampNeg) + (1 : Int32)))))] := hD
  refine lv_aload_n hx hb dX8_addMatch_71 rfl (lv_at hl 2 rfl) ?_
  refine lv_dup hx hb dX8_addMatch_72 rfl ?_
  refine va_get (D := (dC, dI)) (ci := 8) (v := .int o_numberBits) (C := RX8) (T := TX8) (N := 8) hx hb hts i_X8 hown hK hP 0 rfl rfl 4 (by decide) (hts _ k_271) (fun _ h9 => h9) rfl dX8_addMatch_73 ?_
  refine lv_iload_n hx hb dX8_addMatch_76 rfl (lv_at hl 1 rfl) ?_
  obtain ⟨u8, e8, h⟩ := fb_b h
  refine fb_ci (wc := []) (wr := [(o, .inr (8, [.ref o_symbolCounts, .ref o_distanceCounts, .int (o_size + (1 : Int32)), .int (o_matches + (1 : Int32)), .int o_numberBits, .ref o_text, .ref o_matcher, .ref o_tokens])), (o_tokens, .inl (o_tokens_c, o_tokens_n, .inl (upd o_tokens_v (o_size).toNatClampNeg ((x1 <<< ((16 : Int32) &&& 31)) ||| x2)))), (o_symbolCounts, .inl (o_symbolCounts_c, o_symbolCounts_n, .inl (upd o_symbolCounts_v (((257 : Int32) + u2)).toNatClampNeg ((o_symbolCounts_v (((257 : Int32) + u2)).toNatClampNeg) + (1 : Int32))))), (o_distanceCounts, .inl (o_distanceCounts_c, o_distanceCounts_n, .inl (upd o_distanceCounts_v (u3).toNatClampNeg ((o_distanceCounts_v (u3).toNatClampNeg) + (1 : Int32)))))]) (w1 := []) (ws' := [(o, .inr (8, [.ref o_symbolCounts, .ref o_distanceCounts, .int (o_size + (1 : Int32)), .int (o_matches + (1 : Int32)), .int o_numberBits, .ref o_text, .ref o_matcher, .ref o_tokens])), (o_tokens, .inl (o_tokens_c, o_tokens_n, .inl (upd o_tokens_v (o_size).toNatClampNeg ((x1 <<< ((16 : Int32) &&& 31)) ||| x2)))), (o_symbolCounts, .inl (o_symbolCounts_c, o_symbolCounts_n, .inl (upd o_symbolCounts_v (((257 : Int32) + u2)).toNatClampNeg ((o_symbolCounts_v (((257 : Int32) + u2)).toNatClampNeg) + (1 : Int32))))), (o_distanceCounts, .inl (o_distanceCounts_c, o_distanceCounts_n, .inl (upd o_distanceCounts_v (u3).toNatClampNeg ((o_distanceCounts_v (u3).toNatClampNeg) + (1 : Int32)))))]) (va_runSN (As := [.int u2]) (rest := [.int o_numberBits, .ref o]) ⟨hx, hb, hml, hown, hts⟩ (mX10_lengthBits l dC dI u2 H.size u8 e8) ⟨va_cnB 1 hts (fb_GC k_478) rfl rfl rfl (n_4 hN) (hts _ k_62) hdX10_lengthBits ⟨Nat.le_of_ble_eq_true rfl, Nat.le_of_ble_eq_true rfl⟩, hts _ k_477, trivial⟩ (fb_pS hP hD hS hA hK hN hZ [] rfl rfl [] rfl) rfl rfl hl.1 rfl (lv_room (Nat.le_of_ble_eq_true rfl)) dX8_addMatch_77 ⟨Nat.le_of_ble_eq_true rfl, Nat.le_of_ble_eq_true rfl⟩) hP hD hS hA [] [0, 1, 2, 3] rfl rfl rfl (by decide) [0, 1, 2, 3] rfl rfl (fun H locs hP hD hS => ?_)
  refine lv_iload hx hb dX8_addMatch_80 (lv_at hl 0 rfl) ?_
  obtain ⟨u9, e9, h⟩ := fb_b h
  refine fb_ci (wc := []) (wr := [(o, .inr (8, [.ref o_symbolCounts, .ref o_distanceCounts, .int (o_size + (1 : Int32)), .int (o_matches + (1 : Int32)), .int o_numberBits, .ref o_text, .ref o_matcher, .ref o_tokens])), (o_tokens, .inl (o_tokens_c, o_tokens_n, .inl (upd o_tokens_v (o_size).toNatClampNeg ((x1 <<< ((16 : Int32) &&& 31)) ||| x2)))), (o_symbolCounts, .inl (o_symbolCounts_c, o_symbolCounts_n, .inl (upd o_symbolCounts_v (((257 : Int32) + u2)).toNatClampNeg ((o_symbolCounts_v (((257 : Int32) + u2)).toNatClampNeg) + (1 : Int32))))), (o_distanceCounts, .inl (o_distanceCounts_c, o_distanceCounts_n, .inl (upd o_distanceCounts_v (u3).toNatClampNeg ((o_distanceCounts_v (u3).toNatClampNeg) + (1 : Int32)))))]) (w1 := []) (ws' := [(o, .inr (8, [.ref o_symbolCounts, .ref o_distanceCounts, .int (o_size + (1 : Int32)), .int (o_matches + (1 : Int32)), .int o_numberBits, .ref o_text, .ref o_matcher, .ref o_tokens])), (o_tokens, .inl (o_tokens_c, o_tokens_n, .inl (upd o_tokens_v (o_size).toNatClampNeg ((x1 <<< ((16 : Int32) &&& 31)) ||| x2)))), (o_symbolCounts, .inl (o_symbolCounts_c, o_symbolCounts_n, .inl (upd o_symbolCounts_v (((257 : Int32) + u2)).toNatClampNeg ((o_symbolCounts_v (((257 : Int32) + u2)).toNatClampNeg) + (1 : Int32))))), (o_distanceCounts, .inl (o_distanceCounts_c, o_distanceCounts_n, .inl (upd o_distanceCounts_v (u3).toNatClampNeg ((o_distanceCounts_v (u3).toNatClampNeg) + (1 : Int32)))))]) (va_runSN (As := [.int u3]) (rest := [.int u8, .int o_numberBits, .ref o]) ⟨hx, hb, hml, hown, hts⟩ (mX10_distanceBits l dC dI u3 H.size u9 e9) ⟨va_cnB 1 hts (fb_GC k_481) rfl rfl rfl (n_5 hN) (hts _ k_62) hdX10_distanceBits ⟨Nat.le_of_ble_eq_true rfl, Nat.le_of_ble_eq_true rfl⟩, hts _ k_480, trivial⟩ (fb_pS hP hD hS hA hK hN hZ [] rfl rfl [] rfl) rfl rfl hl.1 rfl (lv_room (Nat.le_of_ble_eq_true rfl)) dX8_addMatch_82 ⟨Nat.le_of_ble_eq_true rfl, Nat.le_of_ble_eq_true rfl⟩) hP hD hS hA [] [0, 1, 2, 3] rfl rfl rfl (by decide) [0, 1, 2, 3] rfl rfl (fun H locs hP hD hS => ?_)
  refine lv_iadd hx hb dX8_addMatch_85 ?_
  refine lv_iadd hx hb dX8_addMatch_86 ?_
  refine va_put (D := (dC, dI)) (ci := 8) (v := .int (o_numberBits + (u8 + u9))) (ty := .int) (C := RX8) (T := TX8) (N := 8) hx hb hts i_X8 tyX8 tyX8_ok nmX8 hown hK hP hD hS 0 rfl rfl 4 (by decide) (hts _ k_271) (fun _ h9 => h9) rfl (by decide +kernel) rfl rfl (Nat.le_of_ble_eq_true rfl) dX8_addMatch_87 (fun H locs hP hD hS => ?_)
  replace hP : va_P (dC, dI) fb_cl [(o, .inr (8, [.ref o_symbolCounts, .ref o_distanceCounts, .int (o_size + (1 : Int32)), .int (o_matches + (1 : Int32)), .int (o_numberBits + (u8 + u9)), .ref o_text, .ref o_matcher, .ref o_tokens])), (o_tokens, .inl (o_tokens_c, o_tokens_n, .inl (upd o_tokens_v (o_size).toNatClampNeg ((x1 <<< ((16 : Int32) &&& 31)) ||| x2)))), (o_symbolCounts, .inl (o_symbolCounts_c, o_symbolCounts_n, .inl (upd o_symbolCounts_v (((257 : Int32) + u2)).toNatClampNeg ((o_symbolCounts_v (((257 : Int32) + u2)).toNatClampNeg) + (1 : Int32))))), (o_distanceCounts, .inl (o_distanceCounts_c, o_distanceCounts_n, .inl (upd o_distanceCounts_v (u3).toNatClampNeg ((o_distanceCounts_v (u3).toNatClampNeg) + (1 : Int32)))))] H := hP
  replace hD : va_D A [(o, .inr (8, [.ref o_symbolCounts, .ref o_distanceCounts, .int (o_size + (1 : Int32)), .int (o_matches + (1 : Int32)), .int (o_numberBits + (u8 + u9)), .ref o_text, .ref o_matcher, .ref o_tokens])), (o_tokens, .inl (o_tokens_c, o_tokens_n, .inl (upd o_tokens_v (o_size).toNatClampNeg ((x1 <<< ((16 : Int32) &&& 31)) ||| x2)))), (o_symbolCounts, .inl (o_symbolCounts_c, o_symbolCounts_n, .inl (upd o_symbolCounts_v (((257 : Int32) + u2)).toNatClampNeg ((o_symbolCounts_v (((257 : Int32) + u2)).toNatClampNeg) + (1 : Int32))))), (o_distanceCounts, .inl (o_distanceCounts_c, o_distanceCounts_n, .inl (upd o_distanceCounts_v (u3).toNatClampNeg ((o_distanceCounts_v (u3).toNatClampNeg) + (1 : Int32)))))] := hD
  have hu := Option.some.inj h
  exact hret _ _ _ _ dX8_addMatch_90 (by rw [← hu]; exact hP) (by rw [← hu]; exact hD) hS
theorem dX8_addByte_0 : decode cX8_addByte 0 = .ok (.aload_n 0, 1) := by decide +kernel
theorem dX8_addByte_1 : decode cX8_addByte 1 = .ok (.getfield 37, 3) := by decide +kernel
theorem dX8_addByte_4 : decode cX8_addByte 4 = .ok (.aload_n 0, 1) := by decide +kernel
theorem dX8_addByte_5 : decode cX8_addByte 5 = .ok (.getfield 44, 3) := by decide +kernel
theorem dX8_addByte_8 : decode cX8_addByte 8 = .ok (.iload_n 1, 1) := by decide +kernel
theorem dX8_addByte_9 : decode cX8_addByte 9 = .ok (.iastore, 1) := by decide +kernel
theorem dX8_addByte_10 : decode cX8_addByte 10 = .ok (.aload_n 0, 1) := by decide +kernel
theorem dX8_addByte_11 : decode cX8_addByte 11 = .ok (.dup, 1) := by decide +kernel
theorem dX8_addByte_12 : decode cX8_addByte 12 = .ok (.getfield 44, 3) := by decide +kernel
theorem dX8_addByte_15 : decode cX8_addByte 15 = .ok (.iconst 1, 1) := by decide +kernel
theorem dX8_addByte_16 : decode cX8_addByte 16 = .ok (.iadd, 1) := by decide +kernel
theorem dX8_addByte_17 : decode cX8_addByte 17 = .ok (.putfield 44, 3) := by decide +kernel
theorem dX8_addByte_20 : decode cX8_addByte 20 = .ok (.aload_n 0, 1) := by decide +kernel
theorem dX8_addByte_21 : decode cX8_addByte 21 = .ok (.getfield 9, 3) := by decide +kernel
theorem dX8_addByte_24 : decode cX8_addByte 24 = .ok (.iload_n 1, 1) := by decide +kernel
theorem dX8_addByte_25 : decode cX8_addByte 25 = .ok (.dup2, 1) := by decide +kernel
theorem dX8_addByte_26 : decode cX8_addByte 26 = .ok (.iaload, 1) := by decide +kernel
theorem dX8_addByte_27 : decode cX8_addByte 27 = .ok (.iconst 1, 1) := by decide +kernel
theorem dX8_addByte_28 : decode cX8_addByte 28 = .ok (.iadd, 1) := by decide +kernel
theorem dX8_addByte_29 : decode cX8_addByte 29 = .ok (.iastore, 1) := by decide +kernel
theorem dX8_addByte_30 : decode cX8_addByte 30 = .ok (.return_, 1) := by decide +kernel
def pX8_addByte (o_tokens_n : Nat) (o_symbolCounts_n : Nat) (x1 : Int32)  (o_size : Int32) (o_tokens_v : Nat → Int32) (o_symbolCounts_v : Nat → Int32) : Option (Int32 × (Nat → Int32) × (Nat → Int32)) :=
  if o_size < 0 ∨ o_tokens_n ≤ (o_size).toNatClampNeg then none else
  if x1 < 0 ∨ o_symbolCounts_n ≤ (x1).toNatClampNeg then none else
  if x1 < 0 ∨ o_symbolCounts_n ≤ (x1).toNatClampNeg then none else
  some ((o_size + (1 : Int32)), (upd o_tokens_v (o_size).toNatClampNeg x1), (upd o_symbolCounts_v (x1).toNatClampNeg ((o_symbolCounts_v (x1).toNatClampNeg) + (1 : Int32))))
theorem hdX8_addByte : yX8_addByte.cls = RX8 ∧ yX8_addByte.cls ≠ "java/lang/invoke/MethodHandle" ∧ yX8_addByte.cls ≠ "java/lang/invoke/VarHandle" ∧ (parseMethodDescriptor yX8_addByte.desc).map (fun d => d.parameters.length) = some 1 := by decide +kernel
set_option maxHeartbeats 8000000 in
set_option maxRecDepth 100000 in
theorem mX8_addByte (l : Launch) (dC : Nat → ClassId) (dI : Nat → Nat → Nat) (o : Nat) (o_tokens : Nat) (o_symbolCounts : Nat) (o_distanceCounts : Nat) (o_text : Nat) (o_matcher : Nat) (o_tokens_c : ClassId) (o_symbolCounts_c : ClassId) (o_tokens_n : Nat) (o_symbolCounts_n : Nat) (o_size : Int32) (o_matches : Int32) (o_numberBits : Int32) (o_tokens_v : Nat → Int32) (o_symbolCounts_v : Nat → Int32) (x1 : Int32) (sz : Nat) (u : Int32 × (Nat → Int32) × (Nat → Int32)) (h : pX8_addByte o_tokens_n o_symbolCounts_n x1 o_size o_tokens_v o_symbolCounts_v = some u) : Met l yX8_addByte (Cond.code yX8_addByte cX8_addByte 2 none :: fb_tb) ({ frames := 0, cells := 0, slots := 0, locals := 0 }) (fb_Pc (dC, dI) [.ref o, .int x1] sz [(o_tokens_c, .int), (o_symbolCounts_c, .int)] [(o, .inr (8, [.ref o_symbolCounts, .ref o_distanceCounts, .int o_size, .int o_matches, .int o_numberBits, .ref o_text, .ref o_matcher, .ref o_tokens])), (o_tokens, .inl (o_tokens_c, o_tokens_n, .inl o_tokens_v)), (o_symbolCounts, .inl (o_symbolCounts_c, o_symbolCounts_n, .inl o_symbolCounts_v))]) (fb_Qv (dC, dI) [(o, .inr (8, [.ref o_symbolCounts, .ref o_distanceCounts, .int u.1, .int o_matches, .int o_numberBits, .ref o_text, .ref o_matcher, .ref o_tokens])), (o_tokens, .inl (o_tokens_c, o_tokens_n, .inl u.2.1)), (o_symbolCounts, .inl (o_symbolCounts_c, o_symbolCounts_n, .inl u.2.2))] (va_A [(o, .inr (8, [.ref o_symbolCounts, .ref o_distanceCounts, .int o_size, .int o_matches, .int o_numberBits, .ref o_text, .ref o_matcher, .ref o_tokens])), (o_tokens, .inl (o_tokens_c, o_tokens_n, .inl o_tokens_v)), (o_symbolCounts, .inl (o_symbolCounts_c, o_symbolCounts_n, .inl o_symbolCounts_v))] sz)) 0 0 (va_A [(o, .inr (8, [.ref o_symbolCounts, .ref o_distanceCounts, .int o_size, .int o_matches, .int o_numberBits, .ref o_text, .ref o_matcher, .ref o_tokens])), (o_tokens, .inl (o_tokens_c, o_tokens_n, .inl o_tokens_v)), (o_symbolCounts, .inl (o_symbolCounts_c, o_symbolCounts_n, .inl o_symbolCounts_v))] sz) := by
  refine fb_metv (by decide) (Nat.le_of_ble_eq_true rfl) (fun p e s m args below meth c A Q ls H hx hb hml hown hts hP hK hN hZ hD hA hS hret hl => ?_)
  replace hl : lv_has ls 2 [(0, .ref o), (1, .int x1)] := hl
  unfold pX8_addByte at h
  refine lv_aload_n hx hb dX8_addByte_0 rfl (lv_at hl 0 rfl) ?_
  refine va_get (D := (dC, dI)) (ci := 8) (v := .ref o_tokens) (C := RX8) (T := TX8) (N := 8) hx hb hts i_X8 hown hK hP 0 rfl rfl 7 (by decide) (hts _ k_275) (fun _ h9 => h9) rfl dX8_addByte_1 ?_
  refine lv_aload_n hx hb dX8_addByte_4 rfl (lv_at hl 0 rfl) ?_
  refine va_get (D := (dC, dI)) (ci := 8) (v := .int o_size) (C := RX8) (T := TX8) (N := 8) hx hb hts i_X8 hown hK hP 0 rfl rfl 2 (by decide) (hts _ k_267) (fun _ h9 => h9) rfl dX8_addByte_5 ?_
  refine lv_iload_n hx hb dX8_addByte_8 rfl (lv_at hl 1 rfl) ?_
  obtain ⟨g1, h⟩ := fb_g h
  refine va_iast hx hb hK hP hD hS 1 0 rfl rfl g1 dX8_addByte_9 (fun H locs hP hD hS => ?_)
  replace hP : va_P (dC, dI) fb_cl [(o, .inr (8, [.ref o_symbolCounts, .ref o_distanceCounts, .int o_size, .int o_matches, .int o_numberBits, .ref o_text, .ref o_matcher, .ref o_tokens])), (o_tokens, .inl (o_tokens_c, o_tokens_n, .inl (upd o_tokens_v (o_size).toNatClampNeg x1))), (o_symbolCounts, .inl (o_symbolCounts_c, o_symbolCounts_n, .inl o_symbolCounts_v))] H := hP
  replace hD : va_D A [(o, .inr (8, [.ref o_symbolCounts, .ref o_distanceCounts, .int o_size, .int o_matches, .int o_numberBits, .ref o_text, .ref o_matcher, .ref o_tokens])), (o_tokens, .inl (o_tokens_c, o_tokens_n, .inl (upd o_tokens_v (o_size).toNatClampNeg x1))), (o_symbolCounts, .inl (o_symbolCounts_c, o_symbolCounts_n, .inl o_symbolCounts_v))] := hD
  refine lv_aload_n hx hb dX8_addByte_10 rfl (lv_at hl 0 rfl) ?_
  refine lv_dup hx hb dX8_addByte_11 rfl ?_
  refine va_get (D := (dC, dI)) (ci := 8) (v := .int o_size) (C := RX8) (T := TX8) (N := 8) hx hb hts i_X8 hown hK hP 0 rfl rfl 2 (by decide) (hts _ k_267) (fun _ h9 => h9) rfl dX8_addByte_12 ?_
  refine lv_iconst (v := (1 : Int32)) hx hb dX8_addByte_15 (by decide) ?_
  refine lv_iadd hx hb dX8_addByte_16 ?_
  refine va_put (D := (dC, dI)) (ci := 8) (v := .int (o_size + (1 : Int32))) (ty := .int) (C := RX8) (T := TX8) (N := 8) hx hb hts i_X8 tyX8 tyX8_ok nmX8 hown hK hP hD hS 0 rfl rfl 2 (by decide) (hts _ k_267) (fun _ h9 => h9) rfl (by decide +kernel) rfl rfl (Nat.le_of_ble_eq_true rfl) dX8_addByte_17 (fun H locs hP hD hS => ?_)
  replace hP : va_P (dC, dI) fb_cl [(o, .inr (8, [.ref o_symbolCounts, .ref o_distanceCounts, .int (o_size + (1 : Int32)), .int o_matches, .int o_numberBits, .ref o_text, .ref o_matcher, .ref o_tokens])), (o_tokens, .inl (o_tokens_c, o_tokens_n, .inl (upd o_tokens_v (o_size).toNatClampNeg x1))), (o_symbolCounts, .inl (o_symbolCounts_c, o_symbolCounts_n, .inl o_symbolCounts_v))] H := hP
  replace hD : va_D A [(o, .inr (8, [.ref o_symbolCounts, .ref o_distanceCounts, .int (o_size + (1 : Int32)), .int o_matches, .int o_numberBits, .ref o_text, .ref o_matcher, .ref o_tokens])), (o_tokens, .inl (o_tokens_c, o_tokens_n, .inl (upd o_tokens_v (o_size).toNatClampNeg x1))), (o_symbolCounts, .inl (o_symbolCounts_c, o_symbolCounts_n, .inl o_symbolCounts_v))] := hD
  refine lv_aload_n hx hb dX8_addByte_20 rfl (lv_at hl 0 rfl) ?_
  refine va_get (D := (dC, dI)) (ci := 8) (v := .ref o_symbolCounts) (C := RX8) (T := TX8) (N := 8) hx hb hts i_X8 hown hK hP 0 rfl rfl 0 (by decide) (hts _ k_263) (fun _ h9 => h9) rfl dX8_addByte_21 ?_
  refine lv_iload_n hx hb dX8_addByte_24 rfl (lv_at hl 1 rfl) ?_
  refine lv_dup2_11 hx hb dX8_addByte_25 rfl rfl ?_
  obtain ⟨g2, h⟩ := fb_g h
  refine va_iald hx hb hK hP 2 1 rfl rfl g2 dX8_addByte_26 ?_
  refine lv_iconst (v := (1 : Int32)) hx hb dX8_addByte_27 (by decide) ?_
  refine lv_iadd hx hb dX8_addByte_28 ?_
  obtain ⟨g3, h⟩ := fb_g h
  refine va_iast hx hb hK hP hD hS 2 1 rfl rfl g3 dX8_addByte_29 (fun H locs hP hD hS => ?_)
  replace hP : va_P (dC, dI) fb_cl [(o, .inr (8, [.ref o_symbolCounts, .ref o_distanceCounts, .int (o_size + (1 : Int32)), .int o_matches, .int o_numberBits, .ref o_text, .ref o_matcher, .ref o_tokens])), (o_tokens, .inl (o_tokens_c, o_tokens_n, .inl (upd o_tokens_v (o_size).toNatClampNeg x1))), (o_symbolCounts, .inl (o_symbolCounts_c, o_symbolCounts_n, .inl (upd o_symbolCounts_v (x1).toNatClampNeg ((o_symbolCounts_v (x1).toNatClampNeg) + (1 : Int32)))))] H := hP
  replace hD : va_D A [(o, .inr (8, [.ref o_symbolCounts, .ref o_distanceCounts, .int (o_size + (1 : Int32)), .int o_matches, .int o_numberBits, .ref o_text, .ref o_matcher, .ref o_tokens])), (o_tokens, .inl (o_tokens_c, o_tokens_n, .inl (upd o_tokens_v (o_size).toNatClampNeg x1))), (o_symbolCounts, .inl (o_symbolCounts_c, o_symbolCounts_n, .inl (upd o_symbolCounts_v (x1).toNatClampNeg ((o_symbolCounts_v (x1).toNatClampNeg) + (1 : Int32)))))] := hD
  have hu := Option.some.inj h
  exact hret _ _ _ _ dX8_addByte_30 (by rw [← hu]; exact hP) (by rw [← hu]; exact hD) hS
