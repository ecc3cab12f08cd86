theorem dX3_join_0 : decode cX3_join 0 = .ok (.iconst 0, 1) := by decide +kernel
theorem dX3_join_1 : decode cX3_join 1 = .ok (.istore_n 1, 1) := by decide +kernel
theorem dX3_join_2 : decode cX3_join 2 = .ok (.aload_n 0, 1) := by decide +kernel
theorem dX3_join_3 : decode cX3_join 3 = .ok (.getfield 43, 3) := by decide +kernel
theorem dX3_join_6 : decode cX3_join 6 = .ok (.istore_n 2, 1) := by decide +kernel
theorem dX3_join_7 : decode cX3_join 7 = .ok (.aload_n 0, 1) := by decide +kernel
theorem dX3_join_8 : decode cX3_join 8 = .ok (.getfield 43, 3) := by decide +kernel
theorem dX3_join_11 : decode cX3_join 11 = .ok (.istore_n 3, 1) := by decide +kernel
theorem dX3_join_12 : decode cX3_join 12 = .ok (.iload_n 3, 1) := by decide +kernel
theorem dX3_join_13 : decode cX3_join 13 = .ok (.iconst 2, 1) := by decide +kernel
theorem dX3_join_14 : decode cX3_join 14 = .ok (.aload_n 0, 1) := by decide +kernel
theorem dX3_join_15 : decode cX3_join 15 = .ok (.getfield 43, 3) := by decide +kernel
theorem dX3_join_18 : decode cX3_join 18 = .ok (.imul, 1) := by decide +kernel
theorem dX3_join_19 : decode cX3_join 19 = .ok (.iconst 1, 1) := by decide +kernel
theorem dX3_join_20 : decode cX3_join 20 = .ok (.isub, 1) := by decide +kernel
theorem dX3_join_21 : decode cX3_join 21 = .ok (.if_icmp .ge 108, 3) := by decide +kernel
theorem dX3_join_24 : decode cX3_join 24 = .ok (.aload_n 0, 1) := by decide +kernel
theorem dX3_join_25 : decode cX3_join 25 = .ok (.getfield 18, 3) := by decide +kernel
theorem dX3_join_28 : decode cX3_join 28 = .ok (.iload_n 3, 1) := by decide +kernel
theorem dX3_join_29 : decode cX3_join 29 = .ok (.iconst 0, 1) := by decide +kernel
theorem dX3_join_30 : decode cX3_join 30 = .ok (.iastore, 1) := by decide +kernel
theorem dX3_join_31 : decode cX3_join 31 = .ok (.iconst 0, 1) := by decide +kernel
theorem dX3_join_32 : decode cX3_join 32 = .ok (.istore 4, 2) := by decide +kernel
theorem dX3_join_34 : decode cX3_join 34 = .ok (.iload 4, 2) := by decide +kernel
theorem dX3_join_36 : decode cX3_join 36 = .ok (.iconst 2, 1) := by decide +kernel
theorem dX3_join_37 : decode cX3_join 37 = .ok (.if_icmp .ge 86, 3) := by decide +kernel
theorem dX3_join_40 : decode cX3_join 40 = .ok (.iload_n 1, 1) := by decide +kernel
theorem dX3_join_41 : decode cX3_join 41 = .ok (.aload_n 0, 1) := by decide +kernel
theorem dX3_join_42 : decode cX3_join 42 = .ok (.getfield 43, 3) := by decide +kernel
theorem dX3_join_45 : decode cX3_join 45 = .ok (.if_icmp .ge 27, 3) := by decide +kernel
theorem dX3_join_48 : decode cX3_join 48 = .ok (.iload_n 2, 1) := by decide +kernel
theorem dX3_join_49 : decode cX3_join 49 = .ok (.iload_n 3, 1) := by decide +kernel
theorem dX3_join_50 : decode cX3_join 50 = .ok (.if_icmp .ge 18, 3) := by decide +kernel
theorem dX3_join_53 : decode cX3_join 53 = .ok (.aload_n 0, 1) := by decide +kernel
theorem dX3_join_54 : decode cX3_join 54 = .ok (.getfield 18, 3) := by decide +kernel
theorem dX3_join_57 : decode cX3_join 57 = .ok (.iload_n 1, 1) := by decide +kernel
theorem dX3_join_58 : decode cX3_join 58 = .ok (.iaload, 1) := by decide +kernel
theorem dX3_join_59 : decode cX3_join 59 = .ok (.aload_n 0, 1) := by decide +kernel
theorem dX3_join_60 : decode cX3_join 60 = .ok (.getfield 18, 3) := by decide +kernel
theorem dX3_join_63 : decode cX3_join 63 = .ok (.iload_n 2, 1) := by decide +kernel
theorem dX3_join_64 : decode cX3_join 64 = .ok (.iaload, 1) := by decide +kernel
theorem dX3_join_65 : decode cX3_join 65 = .ok (.if_icmp .gt 7, 3) := by decide +kernel
theorem dX3_join_68 : decode cX3_join 68 = .ok (.iconst 1, 1) := by decide +kernel
theorem dX3_join_69 : decode cX3_join 69 = .ok (.goto 4, 3) := by decide +kernel
theorem dX3_join_72 : decode cX3_join 72 = .ok (.iconst 0, 1) := by decide +kernel
theorem dX3_join_73 : decode cX3_join 73 = .ok (.istore 5, 2) := by decide +kernel
theorem dX3_join_75 : decode cX3_join 75 = .ok (.iload 5, 2) := by decide +kernel
theorem dX3_join_77 : decode cX3_join 77 = .ok (.ifCond .eq 10, 3) := by decide +kernel
theorem dX3_join_80 : decode cX3_join 80 = .ok (.iload_n 1, 1) := by decide +kernel
theorem dX3_join_81 : decode cX3_join 81 = .ok (.iinc 1 1, 3) := by decide +kernel
theorem dX3_join_84 : decode cX3_join 84 = .ok (.goto 7, 3) := by decide +kernel
theorem dX3_join_87 : decode cX3_join 87 = .ok (.iload_n 2, 1) := by decide +kernel
theorem dX3_join_88 : decode cX3_join 88 = .ok (.iinc 2 1, 3) := by decide +kernel
theorem dX3_join_91 : decode cX3_join 91 = .ok (.istore 6, 2) := by decide +kernel
theorem dX3_join_93 : decode cX3_join 93 = .ok (.aload_n 0, 1) := by decide +kernel
theorem dX3_join_94 : decode cX3_join 94 = .ok (.getfield 18, 3) := by decide +kernel
theorem dX3_join_97 : decode cX3_join 97 = .ok (.iload_n 3, 1) := by decide +kernel
theorem dX3_join_98 : decode cX3_join 98 = .ok (.dup2, 1) := by decide +kernel
theorem dX3_join_99 : decode cX3_join 99 = .ok (.iaload, 1) := by decide +kernel
theorem dX3_join_100 : decode cX3_join 100 = .ok (.aload_n 0, 1) := by decide +kernel
theorem dX3_join_101 : decode cX3_join 101 = .ok (.getfield 18, 3) := by decide +kernel
theorem dX3_join_104 : decode cX3_join 104 = .ok (.iload 6, 2) := by decide +kernel
theorem dX3_join_106 : decode cX3_join 106 = .ok (.iaload, 1) := by decide +kernel
theorem dX3_join_107 : decode cX3_join 107 = .ok (.iadd, 1) := by decide +kernel
theorem dX3_join_108 : decode cX3_join 108 = .ok (.iastore, 1) := by decide +kernel
theorem dX3_join_109 : decode cX3_join 109 = .ok (.aload_n 0, 1) := by decide +kernel
theorem dX3_join_110 : decode cX3_join 110 = .ok (.getfield 21, 3) := by decide +kernel
theorem dX3_join_113 : decode cX3_join 113 = .ok (.iload 6, 2) := by decide +kernel
theorem dX3_join_115 : decode cX3_join 115 = .ok (.iload_n 3, 1) := by decide +kernel
theorem dX3_join_116 : decode cX3_join 116 = .ok (.iastore, 1) := by decide +kernel
theorem dX3_join_117 : decode cX3_join 117 = .ok (.iinc 4 1, 3) := by decide +kernel
theorem dX3_join_120 : decode cX3_join 120 = .ok (.goto (-86), 3) := by decide +kernel
theorem dX3_join_123 : decode cX3_join 123 = .ok (.iinc 3 1, 3) := by decide +kernel
theorem dX3_join_126 : decode cX3_join 126 = .ok (.goto (-114), 3) := by decide +kernel
theorem dX3_join_129 : decode cX3_join 129 = .ok (.return_, 1) := by decide +kernel
def pX3_join_b91 (o_weight_n : Nat) (o_above_n : Nat) (K34 : (Nat → Int32) → (Nat → Int32) → Int32 → Int32 → Int32 → Int32 → Option ((Nat → Int32) × (Nat → Int32))) (o_weight_v : Nat → Int32) (o_above_v : Nat → Int32) (x1 : Int32) (x2 : Int32) (x3 : Int32) (x4 : Int32) (t0 : Int32) : Option ((Nat → Int32) × (Nat → Int32)) :=
  if x3 < 0 ∨ o_weight_n ≤ (x3).toNatClampNeg then none else
  if t0 < 0 ∨ o_weight_n ≤ (t0).toNatClampNeg then none else
  if x3 < 0 ∨ o_weight_n ≤ (x3).toNatClampNeg then none else
  if t0 < 0 ∨ o_above_n ≤ (t0).toNatClampNeg then none else
  K34 (upd o_weight_v (x3).toNatClampNeg ((o_weight_v (x3).toNatClampNeg) + (o_weight_v (t0).toNatClampNeg))) (upd o_above_v (t0).toNatClampNeg x3) x1 x2 x3 (x4 + (1 : Int32))
def pX3_join_b73 (o_weight_n : Nat) (o_above_n : Nat) (K34 : (Nat → Int32) → (Nat → Int32) → Int32 → Int32 → Int32 → Int32 → Option ((Nat → Int32) × (Nat → Int32))) (o_weight_v : Nat → Int32) (o_above_v : Nat → Int32) (x1 : Int32) (x2 : Int32) (x3 : Int32) (x4 : Int32) (t0 : Int32) : Option ((Nat → Int32) × (Nat → Int32)) :=
  if t0 = 0 then
  (pX3_join_b91 o_weight_n o_above_n K34 o_weight_v o_above_v x1 (x2 + (1 : Int32)) x3 x4 x2)
  else
  (pX3_join_b91 o_weight_n o_above_n K34 o_weight_v o_above_v (x1 + (1 : Int32)) x2 x3 x4 x1)
def pX3_join_b34 (o_weight_n : Nat) (o_above_n : Nat) (o_single : Int32) (K12 : (Nat → Int32) → (Nat → Int32) → Int32 → Int32 → Int32 → Option ((Nat → Int32) × (Nat → Int32))) : Nat → (Nat → Int32) → (Nat → Int32) → Int32 → Int32 → Int32 → Int32 → Option ((Nat → Int32) × (Nat → Int32))
  | 0 => fun _ _ _ _ _ _ => none
  | n + 1 => fun o_weight_v o_above_v x1 x2 x3 x4 =>
  if (2 : Int32) ≤ x4 then
  (K12 o_weight_v o_above_v x1 x2 (x3 + (1 : Int32)))
  else
  (if o_single ≤ x1 then
  (pX3_join_b73 o_weight_n o_above_n (pX3_join_b34 o_weight_n o_above_n o_single K12 n) o_weight_v o_above_v x1 x2 x3 x4 (0 : Int32))
  else
  (if x3 ≤ x2 then
  (pX3_join_b73 o_weight_n o_above_n (pX3_join_b34 o_weight_n o_above_n o_single K12 n) o_weight_v o_above_v x1 x2 x3 x4 (1 : Int32))
  else
  (if x1 < 0 ∨ o_weight_n ≤ (x1).toNatClampNeg then none else
  if x2 < 0 ∨ o_weight_n ≤ (x2).toNatClampNeg then none else
  if (o_weight_v (x2).toNatClampNeg) < (o_weight_v (x1).toNatClampNeg) then
  (pX3_join_b73 o_weight_n o_above_n (pX3_join_b34 o_weight_n o_above_n o_single K12 n) o_weight_v o_above_v x1 x2 x3 x4 (0 : Int32))
  else
  (pX3_join_b73 o_weight_n o_above_n (pX3_join_b34 o_weight_n o_above_n o_single K12 n) o_weight_v o_above_v x1 x2 x3 x4 (1 : Int32)))))
def pX3_join_b12 (o_weight_n : Nat) (o_above_n : Nat) (o_single : Int32)  : Nat → (Nat → Int32) → (Nat → Int32) → Int32 → Int32 → Int32 → Option ((Nat → Int32) × (Nat → Int32))
  | 0 => fun _ _ _ _ _ => none
  | n + 1 => fun o_weight_v o_above_v x1 x2 x3 =>
  if (((2 : Int32) * o_single) - (1 : Int32)) ≤ x3 then
  (some (o_weight_v, o_above_v))
  else
  (if x3 < 0 ∨ o_weight_n ≤ (x3).toNatClampNeg then none else
  pX3_join_b34 o_weight_n o_above_n o_single (pX3_join_b12 o_weight_n o_above_n o_single n) fb_F (upd o_weight_v (x3).toNatClampNeg (0 : Int32)) o_above_v x1 x2 x3 (0 : Int32))
def pX3_join (o_weight_n : Nat) (o_above_n : Nat) (o_single : Int32)  (o_weight_v : Nat → Int32) (o_above_v : Nat → Int32) : Option ((Nat → Int32) × (Nat → Int32)) :=
  pX3_join_b12 o_weight_n o_above_n o_single fb_F o_weight_v o_above_v (0 : Int32) o_single o_single
theorem hdX3_join : yX3_join.cls = RX3 ∧ yX3_join.cls ≠ "java/lang/invoke/MethodHandle" ∧ yX3_join.cls ≠ "java/lang/invoke/VarHandle" ∧ (parseMethodDescriptor yX3_join.desc).map (fun d => d.parameters.length) = some 0 := by decide +kernel
set_option maxHeartbeats 8000000 in
set_option maxRecDepth 100000 in
theorem mX3_join (l : Launch) (dC : Nat → ClassId) (dI : Nat → Nat → Nat) (o : Nat) (o_weight : Nat) (o_above : Nat) (o_counts : Nat) (o_sorted : Nat) (o_depth : Nat) (o_weight_c : ClassId) (o_above_c : ClassId) (o_weight_n : Nat) (o_above_n : Nat) (o_single : Int32) (o_weight_v : Nat → Int32) (o_above_v : Nat → Int32)  (sz : Nat) (u : (Nat → Int32) × (Nat → Int32)) (h : pX3_join o_weight_n o_above_n o_single o_weight_v o_above_v = some u) : Met l yX3_join (Cond.code yX3_join cX3_join 7 none :: fb_tb) ({ frames := 0, cells := 0, slots := 0, locals := 0 }) (fb_Pc (dC, dI) [.ref o] sz [(o_weight_c, .int), (o_above_c, .int)] [(o, .inr (3, [.ref o_counts, .ref o_sorted, .ref o_weight, .ref o_above, .ref o_depth, .int o_single])), (o_weight, .inl (o_weight_c, o_weight_n, .inl o_weight_v)), (o_above, .inl (o_above_c, o_above_n, .inl o_above_v))]) (fb_Qv (dC, dI) [(o, .inr (3, [.ref o_counts, .ref o_sorted, .ref o_weight, .ref o_above, .ref o_depth, .int o_single])), (o_weight, .inl (o_weight_c, o_weight_n, .inl u.1)), (o_above, .inl (o_above_c, o_above_n, .inl u.2))] (va_A [(o, .inr (3, [.ref o_counts, .ref o_sorted, .ref o_weight, .ref o_above, .ref o_depth, .int o_single])), (o_weight, .inl (o_weight_c, o_weight_n, .inl o_weight_v)), (o_above, .inl (o_above_c, o_above_n, .inl o_above_v))] sz)) 0 0 (va_A [(o, .inr (3, [.ref o_counts, .ref o_sorted, .ref o_weight, .ref o_above, .ref o_depth, .int o_single])), (o_weight, .inl (o_weight_c, o_weight_n, .inl o_weight_v)), (o_above, .inl (o_above_c, o_above_n, .inl o_above_v))] sz) := by
  refine fb_metv (by decide) (Nat.le_of_ble_eq_true rfl) (fun p e s m args below meth c A Q ls H hx hb hml hown hts hP hK hN hZ hD hA hS hret hl => ?_)
  replace hl : lv_has ls 7 [(0, .ref o)] := hl
  have wB91 : ∀ (K34 : (Nat → Int32) → (Nat → Int32) → Int32 → Int32 → Int32 → Int32 → Option ((Nat → Int32) × (Nat → Int32))), (∀ (o_weight_v : Nat → Int32) (o_above_v : Nat → Int32) (x1 : Int32) (x2 : Int32) (x3 : Int32) (x4 : Int32) (H : Heap) (locs : List Loc) (ls : Array Slot), va_P (dC, dI) fb_cl [(o, .inr (3, [.ref o_counts, .ref o_sorted, .ref o_weight, .ref o_above, .ref o_depth, .int o_single])), (o_weight, .inl (o_weight_c, o_weight_n, .inl o_weight_v)), (o_above, .inl (o_above_c, o_above_n, .inl o_above_v))] H → va_D A [(o, .inr (3, [.ref o_counts, .ref o_sorted, .ref o_weight, .ref o_above, .ref o_depth, .int o_single])), (o_weight, .inl (o_weight_c, o_weight_n, .inl o_weight_v)), (o_above, .inl (o_above_c, o_above_n, .inl o_above_v))] → va_S A s.heap H locs → lv_has ls 7 [(0, .ref o), (1, .int x1), (2, .int x2), (3, .int x3), (4, .int x4)] → K34 o_weight_v o_above_v x1 x2 x3 x4 = some u → W p l e ({ frames := 0, cells := 0, slots := 0, locals := 0 }) s m args below meth c H locs 0 0 Q (F0 m 34 ls [])) → ∀ (o_weight_v : Nat → Int32) (o_above_v : Nat → Int32) (x1 : Int32) (x2 : Int32) (x3 : Int32) (x4 : Int32) (t0 : Int32) (H : Heap) (locs : List Loc) (ls : Array Slot), va_P (dC, dI) fb_cl [(o, .inr (3, [.ref o_counts, .ref o_sorted, .ref o_weight, .ref o_above, .ref o_depth, .int o_single])), (o_weight, .inl (o_weight_c, o_weight_n, .inl o_weight_v)), (o_above, .inl (o_above_c, o_above_n, .inl o_above_v))] H → va_D A [(o, .inr (3, [.ref o_counts, .ref o_sorted, .ref o_weight, .ref o_above, .ref o_depth, .int o_single])), (o_weight, .inl (o_weight_c, o_weight_n, .inl o_weight_v)), (o_above, .inl (o_above_c, o_above_n, .inl o_above_v))] → va_S A s.heap H locs → lv_has ls 7 [(0, .ref o), (1, .int x1), (2, .int x2), (3, .int x3), (4, .int x4)] → pX3_join_b91 o_weight_n o_above_n K34 o_weight_v o_above_v x1 x2 x3 x4 t0 = some u → W p l e ({ frames := 0, cells := 0, slots := 0, locals := 0 }) s m args below meth c H locs 0 0 Q (F0 m 91 ls [.int t0]) := by
    intro K34 hK34 o_weight_v o_above_v x1 x2 x3 x4 t0 H locs ls hP hD hS hl h
    unfold pX3_join_b91 at h
    refine lv_istore (lv' := [(6, .int t0), (0, .ref o), (1, .int x1), (2, .int x2), (3, .int x3), (4, .int x4)]) hx hb dX3_join_91 hl (by decide) rfl (fun ls hl => ?_)
    refine lv_aload_n hx hb dX3_join_93 rfl (lv_at hl 1 rfl) ?_
    refine va_get (D := (dC, dI)) (ci := 3) (v := .ref o_weight) (C := RX3) (T := TX3) (N := 6) hx hb hts i_X3 hown hK hP 0 rfl rfl 2 (by decide) (hts _ k_132) (fun _ h9 => h9) rfl dX3_join_94 ?_
    refine lv_iload_n hx hb dX3_join_97 rfl (lv_at hl 4 rfl) ?_
    refine lv_dup2_11 hx hb dX3_join_98 rfl rfl ?_
    obtain ⟨g1, h⟩ := fb_g h
    refine va_iald hx hb hK hP 1 0 rfl rfl g1 dX3_join_99 ?_
    refine lv_aload_n hx hb dX3_join_100 rfl (lv_at hl 1 rfl) ?_
    refine va_get (D := (dC, dI)) (ci := 3) (v := .ref o_weight) (C := RX3) (T := TX3) (N := 6) hx hb hts i_X3 hown hK hP 0 rfl rfl 2 (by decide) (hts _ k_132) (fun _ h9 => h9) rfl dX3_join_101 ?_
    refine lv_iload hx hb dX3_join_104 (lv_at hl 0 rfl) ?_
    obtain ⟨g2, h⟩ := fb_g h
    refine va_iald hx hb hK hP 1 0 rfl rfl g2 dX3_join_106 ?_
    refine lv_iadd hx hb dX3_join_107 ?_
    obtain ⟨g3, h⟩ := fb_g h
    refine va_iast hx hb hK hP hD hS 1 0 rfl rfl g3 dX3_join_108 (fun H locs hP hD hS => ?_)
    replace hP : va_P (dC, dI) fb_cl [(o, .inr (3, [.ref o_counts, .ref o_sorted, .ref o_weight, .ref o_above, .ref o_depth, .int o_single])), (o_weight, .inl (o_weight_c, o_weight_n, .inl (upd o_weight_v (x3).toNatClampNeg ((o_weight_v (x3).toNatClampNeg) + (o_weight_v (t0).toNatClampNeg))))), (o_above, .inl (o_above_c, o_above_n, .inl o_above_v))] H := hP
    replace hD : va_D A [(o, .inr (3, [.ref o_counts, .ref o_sorted, .ref o_weight, .ref o_above, .ref o_depth, .int o_single])), (o_weight, .inl (o_weight_c, o_weight_n, .inl (upd o_weight_v (x3).toNatClampNeg ((o_weight_v (x3).toNatClampNeg) + (o_weight_v (t0).toNatClampNeg))))), (o_above, .inl (o_above_c, o_above_n, .inl o_above_v))] := hD
    refine lv_aload_n hx hb dX3_join_109 rfl (lv_at hl 1 rfl) ?_
    refine va_get (D := (dC, dI)) (ci := 3) (v := .ref o_above) (C := RX3) (T := TX3) (N := 6) hx hb hts i_X3 hown hK hP 0 rfl rfl 3 (by decide) (hts _ k_133) (fun _ h9 => h9) rfl dX3_join_110 ?_
    refine lv_iload hx hb dX3_join_113 (lv_at hl 0 rfl) ?_
    refine lv_iload_n hx hb dX3_join_115 rfl (lv_at hl 4 rfl) ?_
    obtain ⟨g4, h⟩ := fb_g h
    refine va_iast hx hb hK hP hD hS 2 1 rfl rfl g4 dX3_join_116 (fun H locs hP hD hS => ?_)
    replace hP : va_P (dC, dI) fb_cl [(o, .inr (3, [.ref o_counts, .ref o_sorted, .ref o_weight, .ref o_above, .ref o_depth, .int o_single])), (o_weight, .inl (o_weight_c, o_weight_n, .inl (upd o_weight_v (x3).toNatClampNeg ((o_weight_v (x3).toNatClampNeg) + (o_weight_v (t0).toNatClampNeg))))), (o_above, .inl (o_above_c, o_above_n, .inl (upd o_above_v (t0).toNatClampNeg x3)))] H := hP
    replace hD : va_D A [(o, .inr (3, [.ref o_counts, .ref o_sorted, .ref o_weight, .ref o_above, .ref o_depth, .int o_single])), (o_weight, .inl (o_weight_c, o_weight_n, .inl (upd o_weight_v (x3).toNatClampNeg ((o_weight_v (x3).toNatClampNeg) + (o_weight_v (t0).toNatClampNeg))))), (o_above, .inl (o_above_c, o_above_n, .inl (upd o_above_v (t0).toNatClampNeg x3)))] := hD
    refine lv_iinc (v := (x4 + (1 : Int32))) (lv' := [(4, .int (x4 + (1 : Int32))), (6, .int t0), (0, .ref o), (1, .int x1), (2, .int x2), (3, .int x3)]) hx hb dX3_join_117 hl (k := 5) rfl rfl (by decide) rfl (fun ls hl => ?_)
    refine lv_goto (tgt := 34) hx hb dX3_join_120 (by decide) ?_
    exact hK34 (upd o_weight_v (x3).toNatClampNeg ((o_weight_v (x3).toNatClampNeg) + (o_weight_v (t0).toNatClampNeg))) (upd o_above_v (t0).toNatClampNeg x3) x1 x2 x3 (x4 + (1 : Int32)) _ _ _ hP hD hS (lv_sub hl [2, 3, 4, 5, 0] rfl) h
  have wB73 : ∀ (K34 : (Nat → Int32) → (Nat → Int32) → Int32 → Int32 → Int32 → Int32 → Option ((Nat → Int32) × (Nat → Int32))), (∀ (o_weight_v : Nat → Int32) (o_above_v : Nat → Int32) (x1 : Int32) (x2 : Int32) (x3 : Int32) (x4 : Int32) (H : Heap) (locs : List Loc) (ls : Array Slot), va_P (dC, dI) fb_cl [(o, .inr (3, [.ref o_counts, .ref o_sorted, .ref o_weight, .ref o_above, .ref o_depth, .int o_single])), (o_weight, .inl (o_weight_c, o_weight_n, .inl o_weight_v)), (o_above, .inl (o_above_c, o_above_n, .inl o_above_v))] H → va_D A [(o, .inr (3, [.ref o_counts, .ref o_sorted, .ref o_weight, .ref o_above, .ref o_depth, .int o_single])), (o_weight, .inl (o_weight_c, o_weight_n, .inl o_weight_v)), (o_above, .inl (o_above_c, o_above_n, .inl o_above_v))] → va_S A s.heap H locs → lv_has ls 7 [(0, .ref o), (1, .int x1), (2, .int x2), (3, .int x3), (4, .int x4)] → K34 o_weight_v o_above_v x1 x2 x3 x4 = some u → W p l e ({ frames := 0, cells := 0, slots := 0, locals := 0 }) s m args below meth c H locs 0 0 Q (F0 m 34 ls [])) → ∀ (o_weight_v : Nat → Int32) (o_above_v : Nat → Int32) (x1 : Int32) (x2 : Int32) (x3 : Int32) (x4 : Int32) (t0 : Int32) (H : Heap) (locs : List Loc) (ls : Array Slot), va_P (dC, dI) fb_cl [(o, .inr (3, [.ref o_counts, .ref o_sorted, .ref o_weight, .ref o_above, .ref o_depth, .int o_single])), (o_weight, .inl (o_weight_c, o_weight_n, .inl o_weight_v)), (o_above, .inl (o_above_c, o_above_n, .inl o_above_v))] H → va_D A [(o, .inr (3, [.ref o_counts, .ref o_sorted, .ref o_weight, .ref o_above, .ref o_depth, .int o_single])), (o_weight, .inl (o_weight_c, o_weight_n, .inl o_weight_v)), (o_above, .inl (o_above_c, o_above_n, .inl o_above_v))] → va_S A s.heap H locs → lv_has ls 7 [(0, .ref o), (1, .int x1), (2, .int x2), (3, .int x3), (4, .int x4)] → pX3_join_b73 o_weight_n o_above_n K34 o_weight_v o_above_v x1 x2 x3 x4 t0 = some u → W p l e ({ frames := 0, cells := 0, slots := 0, locals := 0 }) s m args below meth c H locs 0 0 Q (F0 m 73 ls [.int t0]) := by
    intro K34 hK34 o_weight_v o_above_v x1 x2 x3 x4 t0 H locs ls hP hD hS hl h
    unfold pX3_join_b73 at h
    refine lv_istore (lv' := [(5, .int t0), (0, .ref o), (1, .int x1), (2, .int x2), (3, .int x3), (4, .int x4)]) hx hb dX3_join_73 hl (by decide) rfl (fun ls hl => ?_)
    refine lv_iload hx hb dX3_join_75 (lv_at hl 0 rfl) ?_
    refine lv_if_eq (tgt := 87) hx hb dX3_join_77 (by decide) (fun c5 => ?_) (fun c5 => ?_)
    · replace h := fb_t c5 h
      refine lv_iload_n hx hb dX3_join_87 rfl (lv_at hl 3 rfl) ?_
      refine lv_iinc (v := (x2 + (1 : Int32))) (lv' := [(2, .int (x2 + (1 : Int32))), (5, .int t0), (0, .ref o), (1, .int x1), (3, .int x3), (4, .int x4)]) hx hb dX3_join_88 hl (k := 3) rfl rfl (by decide) rfl (fun ls hl => ?_)
      exact wB91 K34 hK34 o_weight_v o_above_v x1 (x2 + (1 : Int32)) x3 x4 x2 _ _ _ hP hD hS (lv_sub hl [2, 3, 0, 4, 5] rfl) h
    · replace h := fb_f c5 h
      refine lv_iload_n hx hb dX3_join_80 rfl (lv_at hl 2 rfl) ?_
      refine lv_iinc (v := (x1 + (1 : Int32))) (lv' := [(1, .int (x1 + (1 : Int32))), (5, .int t0), (0, .ref o), (2, .int x2), (3, .int x3), (4, .int x4)]) hx hb dX3_join_81 hl (k := 2) rfl rfl (by decide) rfl (fun ls hl => ?_)
      refine lv_goto (tgt := 91) hx hb dX3_join_84 (by decide) ?_
      exact wB91 K34 hK34 o_weight_v o_above_v (x1 + (1 : Int32)) x2 x3 x4 x1 _ _ _ hP hD hS (lv_sub hl [2, 0, 3, 4, 5] rfl) h
  have wB34 : ∀ (K12 : (Nat → Int32) → (Nat → Int32) → Int32 → Int32 → Int32 → Option ((Nat → Int32) × (Nat → Int32))), (∀ (o_weight_v : Nat → Int32) (o_above_v : Nat → Int32) (x1 : Int32) (x2 : Int32) (x3 : Int32) (H : Heap) (locs : List Loc) (ls : Array Slot), va_P (dC, dI) fb_cl [(o, .inr (3, [.ref o_counts, .ref o_sorted, .ref o_weight, .ref o_above, .ref o_depth, .int o_single])), (o_weight, .inl (o_weight_c, o_weight_n, .inl o_weight_v)), (o_above, .inl (o_above_c, o_above_n, .inl o_above_v))] H → va_D A [(o, .inr (3, [.ref o_counts, .ref o_sorted, .ref o_weight, .ref o_above, .ref o_depth, .int o_single])), (o_weight, .inl (o_weight_c, o_weight_n, .inl o_weight_v)), (o_above, .inl (o_above_c, o_above_n, .inl o_above_v))] → va_S A s.heap H locs → lv_has ls 7 [(0, .ref o), (1, .int x1), (2, .int x2), (3, .int x3)] → K12 o_weight_v o_above_v x1 x2 x3 = some u → W p l e ({ frames := 0, cells := 0, slots := 0, locals := 0 }) s m args below meth c H locs 0 0 Q (F0 m 12 ls [])) → ∀ n : Nat, ∀ (o_weight_v : Nat → Int32) (o_above_v : Nat → Int32) (x1 : Int32) (x2 : Int32) (x3 : Int32) (x4 : Int32) (H : Heap) (locs : List Loc) (ls : Array Slot), va_P (dC, dI) fb_cl [(o, .inr (3, [.ref o_counts, .ref o_sorted, .ref o_weight, .ref o_above, .ref o_depth, .int o_single])), (o_weight, .inl (o_weight_c, o_weight_n, .inl o_weight_v)), (o_above, .inl (o_above_c, o_above_n, .inl o_above_v))] H → va_D A [(o, .inr (3, [.ref o_counts, .ref o_sorted, .ref o_weight, .ref o_above, .ref o_depth, .int o_single])), (o_weight, .inl (o_weight_c, o_weight_n, .inl o_weight_v)), (o_above, .inl (o_above_c, o_above_n, .inl o_above_v))] → va_S A s.heap H locs → lv_has ls 7 [(0, .ref o), (1, .int x1), (2, .int x2), (3, .int x3), (4, .int x4)] → pX3_join_b34 o_weight_n o_above_n o_single K12 n o_weight_v o_above_v x1 x2 x3 x4 = some u → W p l e ({ frames := 0, cells := 0, slots := 0, locals := 0 }) s m args below meth c H locs 0 0 Q (F0 m 34 ls []) := by
    intro K12 hK12 n
    induction n with
    | zero => intro o_weight_v o_above_v x1 x2 x3 x4 H locs ls hP hD hS hl h; cases h
    | succ n ih =>
      intro o_weight_v o_above_v x1 x2 x3 x4 H locs ls hP hD hS hl h
      rw [pX3_join_b34] at h
      refine lv_iload hx hb dX3_join_34 (lv_at hl 4 rfl) ?_
      refine lv_iconst (v := (2 : Int32)) hx hb dX3_join_36 (by decide) ?_
      refine lv_icmp_ge (tgt := 123) hx hb dX3_join_37 (by decide) (fun c6 => ?_) (fun c6 => ?_)
      · replace h := fb_t c6 h
        refine lv_iinc (v := (x3 + (1 : Int32))) (lv' := [(3, .int (x3 + (1 : Int32))), (0, .ref o), (1, .int x1), (2, .int x2), (4, .int x4)]) hx hb dX3_join_123 hl (k := 3) rfl rfl (by decide) rfl (fun ls hl => ?_)
        refine lv_goto (tgt := 12) hx hb dX3_join_126 (by decide) ?_
        exact hK12 o_weight_v o_above_v x1 x2 (x3 + (1 : Int32)) _ _ _ hP hD hS (lv_sub hl [1, 2, 3, 0] rfl) h
      · replace h := fb_f c6 h
        refine lv_iload_n hx hb dX3_join_40 rfl (lv_at hl 1 rfl) ?_
        refine lv_aload_n hx hb dX3_join_41 rfl (lv_at hl 0 rfl) ?_
        refine va_get (D := (dC, dI)) (ci := 3) (v := .int o_single) (C := RX3) (T := TX3) (N := 6) hx hb hts i_X3 hown hK hP 0 rfl rfl 5 (by decide) (hts _ k_135) (fun _ h9 => h9) rfl dX3_join_42 ?_
        refine lv_icmp_ge (tgt := 72) hx hb dX3_join_45 (by decide) (fun c7 => ?_) (fun c7 => ?_)
        · replace h := fb_t c7 h
          refine lv_iconst (v := (0 : Int32)) hx hb dX3_join_72 (by decide) ?_
          exact wB73 (pX3_join_b34 o_weight_n o_above_n o_single K12 n) ih o_weight_v o_above_v x1 x2 x3 x4 (0 : Int32) _ _ _ hP hD hS (lv_sub hl [0, 1, 2, 3, 4] rfl) h
        · replace h := fb_f c7 h
          refine lv_iload_n hx hb dX3_join_48 rfl (lv_at hl 2 rfl) ?_
          refine lv_iload_n hx hb dX3_join_49 rfl (lv_at hl 3 rfl) ?_
          refine lv_icmp_ge (tgt := 68) hx hb dX3_join_50 (by decide) (fun c8 => ?_) (fun c8 => ?_)
          · replace h := fb_t c8 h
            refine lv_iconst (v := (1 : Int32)) hx hb dX3_join_68 (by decide) ?_
            refine lv_goto (tgt := 73) hx hb dX3_join_69 (by decide) ?_
            exact wB73 (pX3_join_b34 o_weight_n o_above_n o_single K12 n) ih o_weight_v o_above_v x1 x2 x3 x4 (1 : Int32) _ _ _ hP hD hS (lv_sub hl [0, 1, 2, 3, 4] rfl) h
          · replace h := fb_f c8 h
            refine lv_aload_n hx hb dX3_join_53 rfl (lv_at hl 0 rfl) ?_
            refine va_get (D := (dC, dI)) (ci := 3) (v := .ref o_weight) (C := RX3) (T := TX3) (N := 6) hx hb hts i_X3 hown hK hP 0 rfl rfl 2 (by decide) (hts _ k_132) (fun _ h9 => h9) rfl dX3_join_54 ?_
            refine lv_iload_n hx hb dX3_join_57 rfl (lv_at hl 1 rfl) ?_
            obtain ⟨g9, h⟩ := fb_g h
            refine va_iald hx hb hK hP 1 0 rfl rfl g9 dX3_join_58 ?_
            refine lv_aload_n hx hb dX3_join_59 rfl (lv_at hl 0 rfl) ?_
            refine va_get (D := (dC, dI)) (ci := 3) (v := .ref o_weight) (C := RX3) (T := TX3) (N := 6) hx hb hts i_X3 hown hK hP 0 rfl rfl 2 (by decide) (hts _ k_132) (fun _ h9 => h9) rfl dX3_join_60 ?_
            refine lv_iload_n hx hb dX3_join_63 rfl (lv_at hl 2 rfl) ?_
            obtain ⟨g10, h⟩ := fb_g h
            refine va_iald hx hb hK hP 1 0 rfl rfl g10 dX3_join_64 ?_
            refine lv_icmp_gt (tgt := 72) hx hb dX3_join_65 (by decide) (fun c11 => ?_) (fun c11 => ?_)
            · replace h := fb_t c11 h
              refine lv_iconst (v := (0 : Int32)) hx hb dX3_join_72 (by decide) ?_
              exact wB73 (pX3_join_b34 o_weight_n o_above_n o_single K12 n) ih o_weight_v o_above_v x1 x2 x3 x4 (0 : Int32) _ _ _ hP hD hS (lv_sub hl [0, 1, 2, 3, 4] rfl) h
            · replace h := fb_f c11 h
              refine lv_iconst (v := (1 : Int32)) hx hb dX3_join_68 (by decide) ?_
              refine lv_goto (tgt := 73) hx hb dX3_join_69 (by decide) ?_
              exact wB73 (pX3_join_b34 o_weight_n o_above_n o_single K12 n) ih o_weight_v o_above_v x1 x2 x3 x4 (1 : Int32) _ _ _ hP hD hS (lv_sub hl [0, 1, 2, 3, 4] rfl) h
  have wB12 : ∀ n : Nat, ∀ (o_weight_v : Nat → Int32) (o_above_v : Nat → Int32) (x1 : Int32) (x2 : Int32) (x3 : Int32) (H : Heap) (locs : List Loc) (ls : Array Slot), va_P (dC, dI) fb_cl [(o, .inr (3, [.ref o_counts, .ref o_sorted, .ref o_weight, .ref o_above, .ref o_depth, .int o_single])), (o_weight, .inl (o_weight_c, o_weight_n, .inl o_weight_v)), (o_above, .inl (o_above_c, o_above_n, .inl o_above_v))] H → va_D A [(o, .inr (3, [.ref o_counts, .ref o_sorted, .ref o_weight, .ref o_above, .ref o_depth, .int o_single])), (o_weight, .inl (o_weight_c, o_weight_n, .inl o_weight_v)), (o_above, .inl (o_above_c, o_above_n, .inl o_above_v))] → va_S A s.heap H locs → lv_has ls 7 [(0, .ref o), (1, .int x1), (2, .int x2), (3, .int x3)] → pX3_join_b12 o_weight_n o_above_n o_single n o_weight_v o_above_v x1 x2 x3 = some u → W p l e ({ frames := 0, cells := 0, slots := 0, locals := 0 }) s m args below meth c H locs 0 0 Q (F0 m 12 ls []) := by
    intro n
    induction n with
    | zero => intro o_weight_v o_above_v x1 x2 x3 H locs ls hP hD hS hl h; cases h
    | succ n ih =>
      intro o_weight_v o_above_v x1 x2 x3 H locs ls hP hD hS hl h
      rw [pX3_join_b12] at h
      refine lv_iload_n hx hb dX3_join_12 rfl (lv_at hl 3 rfl) ?_
      refine lv_iconst (v := (2 : Int32)) hx hb dX3_join_13 (by decide) ?_
      refine lv_aload_n hx hb dX3_join_14 rfl (lv_at hl 0 rfl) ?_
      refine va_get (D := (dC, dI)) (ci := 3) (v := .int o_single) (C := RX3) (T := TX3) (N := 6) hx hb hts i_X3 hown hK hP 0 rfl rfl 5 (by decide) (hts _ k_135) (fun _ h9 => h9) rfl dX3_join_15 ?_
      refine lv_imul hx hb dX3_join_18 ?_
      refine lv_iconst (v := (1 : Int32)) hx hb dX3_join_19 (by decide) ?_
      refine lv_isub hx hb dX3_join_20 ?_
      refine lv_icmp_ge (tgt := 129) hx hb dX3_join_21 (by decide) (fun c12 => ?_) (fun c12 => ?_)
      · replace h := fb_t c12 h
        have hu := Option.some.inj h
        exact hret _ _ _ _ dX3_join_129 (by rw [← hu]; exact hP) (by rw [← hu]; exact hD) hS
      · replace h := fb_f c12 h
        refine lv_aload_n hx hb dX3_join_24 rfl (lv_at hl 0 rfl) ?_
        refine va_get (D := (dC, dI)) (ci := 3) (v := .ref o_weight) (C := RX3) (T := TX3) (N := 6) hx hb hts i_X3 hown hK hP 0 rfl rfl 2 (by decide) (hts _ k_132) (fun _ h9 => h9) rfl dX3_join_25 ?_
        refine lv_iload_n hx hb dX3_join_28 rfl (lv_at hl 3 rfl) ?_
        refine lv_iconst (v := (0 : Int32)) hx hb dX3_join_29 (by decide) ?_
        obtain ⟨g13, h⟩ := fb_g h
        refine va_iast hx hb hK hP hD hS 1 0 rfl rfl g13 dX3_join_30 (fun H locs hP hD hS => ?_)
        replace hP : va_P (dC, dI) fb_cl [(o, .inr (3, [.ref o_counts, .ref o_sorted, .ref o_weight, .ref o_above, .ref o_depth, .int o_single])), (o_weight, .inl (o_weight_c, o_weight_n, .inl (upd o_weight_v (x3).toNatClampNeg (0 : Int32)))), (o_above, .inl (o_above_c, o_above_n, .inl o_above_v))] H := hP
        replace hD : va_D A [(o, .inr (3, [.ref o_counts, .ref o_sorted, .ref o_weight, .ref o_above, .ref o_depth, .int o_single])), (o_weight, .inl (o_weight_c, o_weight_n, .inl (upd o_weight_v (x3).toNatClampNeg (0 : Int32)))), (o_above, .inl (o_above_c, o_above_n, .inl o_above_v))] := hD
        refine lv_iconst (v := (0 : Int32)) hx hb dX3_join_31 (by decide) ?_
        refine lv_istore (lv' := [(4, .int (0 : Int32)), (0, .ref o), (1, .int x1), (2, .int x2), (3, .int x3)]) hx hb dX3_join_32 hl (by decide) rfl (fun ls hl => ?_)
        exact wB34 (pX3_join_b12 o_weight_n o_above_n o_single n) ih fb_F (upd o_weight_v (x3).toNatClampNeg (0 : Int32)) o_above_v x1 x2 x3 (0 : Int32) _ _ _ hP hD hS (lv_sub hl [1, 2, 3, 4, 0] rfl) h
  unfold pX3_join at h
  refine lv_iconst (v := (0 : Int32)) hx hb dX3_join_0 (by decide) ?_
  refine lv_istore_n (lv' := [(1, .int (0 : Int32)), (0, .ref o)]) hx hb dX3_join_1 rfl hl (by decide) rfl (fun ls hl => ?_)
  refine lv_aload_n hx hb dX3_join_2 rfl (lv_at hl 1 rfl) ?_
  refine va_get (D := (dC, dI)) (ci := 3) (v := .int o_single) (C := RX3) (T := TX3) (N := 6) hx hb hts i_X3 hown hK hP 0 rfl rfl 5 (by decide) (hts _ k_135) (fun _ h9 => h9) rfl dX3_join_3 ?_
  refine lv_istore_n (lv' := [(2, .int o_single), (1, .int (0 : Int32)), (0, .ref o)]) hx hb dX3_join_6 rfl hl (by decide) rfl (fun ls hl => ?_)
  refine lv_aload_n hx hb dX3_join_7 rfl (lv_at hl 2 rfl) ?_
  refine va_get (D := (dC, dI)) (ci := 3) (v := .int o_single) (C := RX3) (T := TX3) (N := 6) hx hb hts i_X3 hown hK hP 0 rfl rfl 5 (by decide) (hts _ k_135) (fun _ h9 => h9) rfl dX3_join_8 ?_
  refine lv_istore_n (lv' := [(3, .int o_single), (2, .int o_single), (1, .int (0 : Int32)), (0, .ref o)]) hx hb dX3_join_11 rfl hl (by decide) rfl (fun ls hl => ?_)
  exact wB12 fb_F o_weight_v o_above_v (0 : Int32) o_single o_single _ _ _ hP hD hS (lv_sub hl [3, 2, 1, 0] rfl) h
theorem dX3_deepest_0 : decode cX3_deepest 0 = .ok (.iconst 0, 1) := by decide +kernel
theorem dX3_deepest_1 : decode cX3_deepest 1 = .ok (.istore_n 1, 1) := by decide +kernel
theorem dX3_deepest_2 : decode cX3_deepest 2 = .ok (.iload_n 1, 1) := by decide +kernel
theorem dX3_deepest_3 : decode cX3_deepest 3 = .ok (.aload_n 0, 1) := by decide +kernel
theorem dX3_deepest_4 : decode cX3_deepest 4 = .ok (.getfield 43, 3) := by decide +kernel
theorem dX3_deepest_7 : decode cX3_deepest 7 = .ok (.if_icmp .ge 26, 3) := by decide +kernel
theorem dX3_deepest_10 : decode cX3_deepest 10 = .ok (.aload_n 0, 1) := by decide +kernel
theorem dX3_deepest_11 : decode cX3_deepest 11 = .ok (.getfield 18, 3) := by decide +kernel
theorem dX3_deepest_14 : decode cX3_deepest 14 = .ok (.iload_n 1, 1) := by decide +kernel
theorem dX3_deepest_15 : decode cX3_deepest 15 = .ok (.aload_n 0, 1) := by decide +kernel
theorem dX3_deepest_16 : decode cX3_deepest 16 = .ok (.getfield 9, 3) := by decide +kernel
theorem dX3_deepest_19 : decode cX3_deepest 19 = .ok (.aload_n 0, 1) := by decide +kernel
theorem dX3_deepest_20 : decode cX3_deepest 20 = .ok (.getfield 15, 3) := by decide +kernel
theorem dX3_deepest_23 : decode cX3_deepest 23 = .ok (.iload_n 1, 1) := by decide +kernel
theorem dX3_deepest_24 : decode cX3_deepest 24 = .ok (.iaload, 1) := by decide +kernel
theorem dX3_deepest_25 : decode cX3_deepest 25 = .ok (.iaload, 1) := by decide +kernel
theorem dX3_deepest_26 : decode cX3_deepest 26 = .ok (.iastore, 1) := by decide +kernel
theorem dX3_deepest_27 : decode cX3_deepest 27 = .ok (.iinc 1 1, 3) := by decide +kernel
theorem dX3_deepest_30 : decode cX3_deepest 30 = .ok (.goto (-28), 3) := by decide +kernel
theorem dX3_deepest_33 : decode cX3_deepest 33 = .ok (.aload_n 0, 1) := by decide +kernel
theorem dX3_deepest_34 : decode cX3_deepest 34 = .ok (.invokevirtual 57, 3) := by decide +kernel
theorem dX3_deepest_37 : decode cX3_deepest 37 = .ok (.iconst 2, 1) := by decide +kernel
theorem dX3_deepest_38 : decode cX3_deepest 38 = .ok (.aload_n 0, 1) := by decide +kernel
theorem dX3_deepest_39 : decode cX3_deepest 39 = .ok (.getfield 43, 3) := by decide +kernel
theorem dX3_deepest_42 : decode cX3_deepest 42 = .ok (.imul, 1) := by decide +kernel
theorem dX3_deepest_43 : decode cX3_deepest 43 = .ok (.iconst 2, 1) := by decide +kernel
theorem dX3_deepest_44 : decode cX3_deepest 44 = .ok (.isub, 1) := by decide +kernel
theorem dX3_deepest_45 : decode cX3_deepest 45 = .ok (.istore_n 1, 1) := by decide +kernel
theorem dX3_deepest_46 : decode cX3_deepest 46 = .ok (.iconst 0, 1) := by decide +kernel
theorem dX3_deepest_47 : decode cX3_deepest 47 = .ok (.istore_n 2, 1) := by decide +kernel
theorem dX3_deepest_48 : decode cX3_deepest 48 = .ok (.iload_n 1, 1) := by decide +kernel
theorem dX3_deepest_49 : decode cX3_deepest 49 = .ok (.ifCond .lt 10, 3) := by decide +kernel
theorem dX3_deepest_52 : decode cX3_deepest 52 = .ok (.aload_n 0, 1) := by decide +kernel
theorem dX3_deepest_53 : decode cX3_deepest 53 = .ok (.getfield 24, 3) := by decide +kernel
theorem dX3_deepest_56 : decode cX3_deepest 56 = .ok (.iload_n 1, 1) := by decide +kernel
theorem dX3_deepest_57 : decode cX3_deepest 57 = .ok (.iconst 0, 1) := by decide +kernel
theorem dX3_deepest_58 : decode cX3_deepest 58 = .ok (.iastore, 1) := by decide +kernel
theorem dX3_deepest_59 : decode cX3_deepest 59 = .ok (.iload_n 1, 1) := by decide +kernel
theorem dX3_deepest_60 : decode cX3_deepest 60 = .ok (.iconst 1, 1) := by decide +kernel
theorem dX3_deepest_61 : decode cX3_deepest 61 = .ok (.isub, 1) := by decide +kernel
theorem dX3_deepest_62 : decode cX3_deepest 62 = .ok (.istore_n 3, 1) := by decide +kernel
theorem dX3_deepest_63 : decode cX3_deepest 63 = .ok (.iload_n 3, 1) := by decide +kernel
theorem dX3_deepest_64 : decode cX3_deepest 64 = .ok (.ifCond .lt 39, 3) := by decide +kernel
theorem dX3_deepest_67 : decode cX3_deepest 67 = .ok (.aload_n 0, 1) := by decide +kernel
theorem dX3_deepest_68 : decode cX3_deepest 68 = .ok (.getfield 24, 3) := by decide +kernel
theorem dX3_deepest_71 : decode cX3_deepest 71 = .ok (.iload_n 3, 1) := by decide +kernel
theorem dX3_deepest_72 : decode cX3_deepest 72 = .ok (.aload_n 0, 1) := by decide +kernel
theorem dX3_deepest_73 : decode cX3_deepest 73 = .ok (.getfield 24, 3) := by decide +kernel
theorem dX3_deepest_76 : decode cX3_deepest 76 = .ok (.aload_n 0, 1) := by decide +kernel
theorem dX3_deepest_77 : decode cX3_deepest 77 = .ok (.getfield 21, 3) := by decide +kernel
theorem dX3_deepest_80 : decode cX3_deepest 80 = .ok (.iload_n 3, 1) := by decide +kernel
theorem dX3_deepest_81 : decode cX3_deepest 81 = .ok (.iaload, 1) := by decide +kernel
theorem dX3_deepest_82 : decode cX3_deepest 82 = .ok (.iaload, 1) := by decide +kernel
theorem dX3_deepest_83 : decode cX3_deepest 83 = .ok (.iconst 1, 1) := by decide +kernel
theorem dX3_deepest_84 : decode cX3_deepest 84 = .ok (.iadd, 1) := by decide +kernel
theorem dX3_deepest_85 : decode cX3_deepest 85 = .ok (.iastore, 1) := by decide +kernel
theorem dX3_deepest_86 : decode cX3_deepest 86 = .ok (.iload_n 2, 1) := by decide +kernel
theorem dX3_deepest_87 : decode cX3_deepest 87 = .ok (.aload_n 0, 1) := by decide +kernel
theorem dX3_deepest_88 : decode cX3_deepest 88 = .ok (.getfield 24, 3) := by decide +kernel
theorem dX3_deepest_91 : decode cX3_deepest 91 = .ok (.iload_n 3, 1) := by decide +kernel
theorem dX3_deepest_92 : decode cX3_deepest 92 = .ok (.iaload, 1) := by decide +kernel
theorem dX3_deepest_93 : decode cX3_deepest 93 = .ok (.invokestatic 60, 3) := by decide +kernel
theorem dX3_deepest_96 : decode cX3_deepest 96 = .ok (.istore_n 2, 1) := by decide +kernel
theorem dX3_deepest_97 : decode cX3_deepest 97 = .ok (.iinc 3 (-1), 3) := by decide +kernel
theorem dX3_deepest_100 : decode cX3_deepest 100 = .ok (.goto (-37), 3) := by decide +kernel
theorem dX3_deepest_103 : decode cX3_deepest 103 = .ok (.iload_n 2, 1) := by decide +kernel
theorem dX3_deepest_104 : decode cX3_deepest 104 = .ok (.ireturn, 1) := by decide +kernel
def pX3_deepest_b63 (o_above_n : Nat) (o_depth_n : Nat)  : Nat → (Nat → Int32) → (Nat → Int32) → (Nat → Int32) → Int32 → Int32 → Option (Int32 × (Nat → Int32) × (Nat → Int32) × (Nat → Int32))
  | 0 => fun _ _ _ _ _ => none
  | n + 1 => fun o_weight_v o_above_v o_depth_v x2 x3 =>
  if x3 < 0 then
  (some (x2, o_weight_v, o_above_v, o_depth_v))
  else
  (if x3 < 0 ∨ o_above_n ≤ (x3).toNatClampNeg then none else
  if (o_above_v (x3).toNatClampNeg) < 0 ∨ o_depth_n ≤ ((o_above_v (x3).toNatClampNeg)).toNatClampNeg then none else
  if x3 < 0 ∨ o_depth_n ≤ (x3).toNatClampNeg then none else
  if x3 < 0 ∨ o_depth_n ≤ (x3).toNatClampNeg then none else
  (pX3_deepest_b63 o_above_n o_depth_n n) o_weight_v o_above_v (upd o_depth_v (x3).toNatClampNeg ((o_depth_v ((o_above_v (x3).toNatClampNeg)).toNatClampNeg) + (1 : Int32))) (if x2 < ((upd o_depth_v (x3).toNatClampNeg ((o_depth_v ((o_above_v (x3).toNatClampNeg)).toNatClampNeg) + (1 : Int32))) (x3).toNatClampNeg) then ((upd o_depth_v (x3).toNatClampNeg ((o_depth_v ((o_above_v (x3).toNatClampNeg)).toNatClampNeg) + (1 : Int32))) (x3).toNatClampNeg) else x2) (x3 + (-1 : Int32)))
def pX3_deepest_b2 (o_sorted_n : Nat) (o_counts_n : Nat) (o_weight_n : Nat) (o_above_n : Nat) (o_depth_n : Nat) (o_single : Int32) (o_sorted_v : Nat → Int32) (o_counts_v : Nat → Int32)  : Nat → (Nat → Int32) → (Nat → Int32) → (Nat → Int32) → Int32 → Option (Int32 × (Nat → Int32) × (Nat → Int32) × (Nat → Int32))
  | 0 => fun _ _ _ _ => none
  | n + 1 => fun o_weight_v o_above_v o_depth_v x1 =>
  if o_single ≤ x1 then
  ((pX3_join o_weight_n o_above_n o_single o_weight_v o_above_v).bind (fun u7 =>
  if (((2 : Int32) * o_single) - (2 : Int32)) < 0 then
  (pX3_deepest_b63 o_above_n o_depth_n fb_F u7.1 u7.2 o_depth_v (0 : Int32) ((((2 : Int32) * o_single) - (2 : Int32)) - (1 : Int32)))
  else
  (if (((2 : Int32) * o_single) - (2 : Int32)) < 0 ∨ o_depth_n ≤ ((((2 : Int32) * o_single) - (2 : Int32))).toNatClampNeg then none else
  pX3_deepest_b63 o_above_n o_depth_n fb_F u7.1 u7.2 (upd o_depth_v ((((2 : Int32) * o_single) - (2 : Int32))).toNatClampNeg (0 : Int32)) (0 : Int32) ((((2 : Int32) * o_single) - (2 : Int32)) - (1 : Int32)))))
  else
  (if x1 < 0 ∨ o_sorted_n ≤ (x1).toNatClampNeg then none else
  if (o_sorted_v (x1).toNatClampNeg) < 0 ∨ o_counts_n ≤ ((o_sorted_v (x1).toNatClampNeg)).toNatClampNeg then none else
  if x1 < 0 ∨ o_weight_n ≤ (x1).toNatClampNeg then none else
  (pX3_deepest_b2 o_sorted_n o_counts_n o_weight_n o_above_n o_depth_n o_single o_sorted_v o_counts_v n) (upd o_weight_v (x1).toNatClampNeg (o_counts_v ((o_sorted_v (x1).toNatClampNeg)).toNatClampNeg)) o_above_v o_depth_v (x1 + (1 : Int32)))
def pX3_deepest (o_sorted_n : Nat) (o_counts_n : Nat) (o_weight_n : Nat) (o_above_n : Nat) (o_depth_n : Nat) (o_single : Int32) (o_sorted_v : Nat → Int32) (o_counts_v : Nat → Int32)  (o_weight_v : Nat → Int32) (o_above_v : Nat → Int32) (o_depth_v : Nat → Int32) : Option (Int32 × (Nat → Int32) × (Nat → Int32) × (Nat → Int32)) :=
  pX3_deepest_b2 o_sorted_n o_counts_n o_weight_n o_above_n o_depth_n o_single o_sorted_v o_counts_v fb_F o_weight_v o_above_v o_depth_v (0 : Int32)
theorem hdX3_deepest : yX3_deepest.cls = RX3 ∧ yX3_deepest.cls ≠ "java/lang/invoke/MethodHandle" ∧ yX3_deepest.cls ≠ "java/lang/invoke/VarHandle" ∧ (parseMethodDescriptor yX3_deepest.desc).map (fun d => d.parameters.length) = some 0 := by decide +kernel
set_option maxHeartbeats 8000000 in
set_option maxRecDepth 100000 in
theorem mX3_deepest (l : Launch) (dC : Nat → ClassId) (dI : Nat → Nat → Nat) (o : Nat) (o_sorted : Nat) (o_counts : Nat) (o_weight : Nat) (o_above : Nat) (o_depth : Nat) (o_sorted_c : ClassId) (o_counts_c : ClassId) (o_weight_c : ClassId) (o_above_c : ClassId) (o_depth_c : ClassId) (o_sorted_n : Nat) (o_counts_n : Nat) (o_weight_n : Nat) (o_above_n : Nat) (o_depth_n : Nat) (o_single : Int32) (o_sorted_v : Nat → Int32) (o_counts_v : Nat → Int32) (o_weight_v : Nat → Int32) (o_above_v : Nat → Int32) (o_depth_v : Nat → Int32)  (sz : Nat) (u : Int32 × (Nat → Int32) × (Nat → Int32) × (Nat → Int32)) (h : pX3_deepest o_sorted_n o_counts_n o_weight_n o_above_n o_depth_n o_single o_sorted_v o_counts_v o_weight_v o_above_v o_depth_v = some u) : Met l yX3_deepest (Cond.code yX3_deepest cX3_deepest 4 (some .int) :: fb_tb) ({ frames := 1, cells := 0, slots := 0, locals := 26 }) (fb_Pc (dC, dI) [.ref o] sz [(o_sorted_c, .int), (o_counts_c, .int), (o_weight_c, .int), (o_above_c, .int), (o_depth_c, .int)] [(o, .inr (3, [.ref o_counts, .ref o_sorted, .ref o_weight, .ref o_above, .ref o_depth, .int o_single])), (o_sorted, .inl (o_sorted_c, o_sorted_n, .inl o_sorted_v)), (o_counts, .inl (o_counts_c, o_counts_n, .inl o_counts_v)), (o_weight, .inl (o_weight_c, o_weight_n, .inl o_weight_v)), (o_above, .inl (o_above_c, o_above_n, .inl o_above_v)), (o_depth, .inl (o_depth_c, o_depth_n, .inl o_depth_v))]) (fb_Qi (dC, dI) u.1 [(o, .inr (3, [.ref o_counts, .ref o_sorted, .ref o_weight, .ref o_above, .ref o_depth, .int o_single])), (o_sorted, .inl (o_sorted_c, o_sorted_n, .inl o_sorted_v)), (o_counts, .inl (o_counts_c, o_counts_n, .inl o_counts_v)), (o_weight, .inl (o_weight_c, o_weight_n, .inl u.2.1)), (o_above, .inl (o_above_c, o_above_n, .inl u.2.2.1)), (o_depth, .inl (o_depth_c, o_depth_n, .inl u.2.2.2))] (va_A [(o, .inr (3, [.ref o_counts, .ref o_sorted, .ref o_weight, .ref o_above, .ref o_depth, .int o_single])), (o_sorted, .inl (o_sorted_c, o_sorted_n, .inl o_sorted_v)), (o_counts, .inl (o_counts_c, o_counts_n, .inl o_counts_v)), (o_weight, .inl (o_weight_c, o_weight_n, .inl o_weight_v)), (o_above, .inl (o_above_c, o_above_n, .inl o_above_v)), (o_depth, .inl (o_depth_c, o_depth_n, .inl o_depth_v))] sz)) 0 0 (va_A [(o, .inr (3, [.ref o_counts, .ref o_sorted, .ref o_weight, .ref o_above, .ref o_depth, .int o_single])), (o_sorted, .inl (o_sorted_c, o_sorted_n, .inl o_sorted_v)), (o_counts, .inl (o_counts_c, o_counts_n, .inl o_counts_v)), (o_weight, .inl (o_weight_c, o_weight_n, .inl o_weight_v)), (o_above, .inl (o_above_c, o_above_n, .inl o_above_v)), (o_depth, .inl (o_depth_c, o_depth_n, .inl o_depth_v))] sz) := by
  refine fb_meti (ty := .int) (by decide) (Nat.le_of_ble_eq_true rfl) (fun p e s m args below meth c A Q ls H hx hb hml hown hts hP hK hN hZ hD hA hS hret hl => ?_)
  replace hl : lv_has ls 4 [(0, .ref o)] := hl
  have wB63 : ∀ n : Nat, ∀ (o_weight_v : Nat → Int32) (o_above_v : Nat → Int32) (o_depth_v : Nat → Int32) (x2 : Int32) (x3 : Int32) (H : Heap) (locs : List Loc) (ls : Array Slot), va_P (dC, dI) fb_cl [(o, .inr (3, [.ref o_counts, .ref o_sorted, .ref o_weight, .ref o_above, .ref o_depth, .int o_single])), (o_sorted, .inl (o_sorted_c, o_sorted_n, .inl o_sorted_v)), (o_counts, .inl (o_counts_c, o_counts_n, .inl o_counts_v)), (o_weight, .inl (o_weight_c, o_weight_n, .inl o_weight_v)), (o_above, .inl (o_above_c, o_above_n, .inl o_above_v)), (o_depth, .inl (o_depth_c, o_depth_n, .inl o_depth_v))] H → va_D A [(o, .inr (3, [.ref o_counts, .ref o_sorted, .ref o_weight, .ref o_above, .ref o_depth, .int o_single])), (o_sorted, .inl (o_sorted_c, o_sorted_n, .inl o_sorted_v)), (o_counts, .inl (o_counts_c, o_counts_n, .inl o_counts_v)), (o_weight, .inl (o_weight_c, o_weight_n, .inl o_weight_v)), (o_above, .inl (o_above_c, o_above_n, .inl o_above_v)), (o_depth, .inl (o_depth_c, o_depth_n, .inl o_depth_v))] → va_S A s.heap H locs → lv_has ls 4 [(0, .ref o), (2, .int x2), (3, .int x3)] → pX3_deepest_b63 o_above_n o_depth_n n o_weight_v o_above_v o_depth_v x2 x3 = some u → W p l e ({ frames := 1, cells := 0, slots := 0, locals := 26 }) s m args below meth c H locs 0 0 Q (F0 m 63 ls []) := by
    intro n
    induction n with
    | zero => intro o_weight_v o_above_v o_depth_v x2 x3 H locs ls hP hD hS hl h; cases h
    | succ n ih =>
      intro o_weight_v o_above_v o_depth_v x2 x3 H locs ls hP hD hS hl h
      rw [pX3_deepest_b63] at h
      refine lv_iload_n hx hb dX3_deepest_63 rfl (lv_at hl 2 rfl) ?_
      refine lv_if_lt (tgt := 103) hx hb dX3_deepest_64 (by decide) (fun c1 => ?_) (fun c1 => ?_)
      · replace h := fb_t c1 h
        refine lv_iload_n hx hb dX3_deepest_103 rfl (lv_at hl 1 rfl) ?_
        have hu := Option.some.inj h
        exact hret _ _ _ _ _ dX3_deepest_104 rfl (by rw [← hu]) (by rw [← hu]; exact hP) (by rw [← hu]; exact hD) hS
      · replace h := fb_f c1 h
        refine lv_aload_n hx hb dX3_deepest_67 rfl (lv_at hl 0 rfl) ?_
        refine va_get (D := (dC, dI)) (ci := 3) (v := .ref o_depth) (C := RX3) (T := TX3) (N := 6) hx hb hts i_X3 hown hK hP 0 rfl rfl 4 (by decide) (hts _ k_134) (fun _ h9 => h9) rfl dX3_deepest_68 ?_
        refine lv_iload_n hx hb dX3_deepest_71 rfl (lv_at hl 2 rfl) ?_
        refine lv_aload_n hx hb dX3_deepest_72 rfl (lv_at hl 0 rfl) ?_
        refine va_get (D := (dC, dI)) (ci := 3) (v := .ref o_depth) (C := RX3) (T := TX3) (N := 6) hx hb hts i_X3 hown hK hP 0 rfl rfl 4 (by decide) (hts _ k_134) (fun _ h9 => h9) rfl dX3_deepest_73 ?_
        refine lv_aload_n hx hb dX3_deepest_76 rfl (lv_at hl 0 rfl) ?_
        refine va_get (D := (dC, dI)) (ci := 3) (v := .ref o_above) (C := RX3) (T := TX3) (N := 6) hx hb hts i_X3 hown hK hP 0 rfl rfl 3 (by decide) (hts _ k_133) (fun _ h9 => h9) rfl dX3_deepest_77 ?_
        refine lv_iload_n hx hb dX3_deepest_80 rfl (lv_at hl 2 rfl) ?_
        obtain ⟨g2, h⟩ := fb_g h
        refine va_iald hx hb hK hP 4 3 rfl rfl g2 dX3_deepest_81 ?_
        obtain ⟨g3, h⟩ := fb_g h
        refine va_iald hx hb hK hP 5 4 rfl rfl g3 dX3_deepest_82 ?_
        refine lv_iconst (v := (1 : Int32)) hx hb dX3_deepest_83 (by decide) ?_
        refine lv_iadd hx hb dX3_deepest_84 ?_
        obtain ⟨g4, h⟩ := fb_g h
        refine va_iast hx hb hK hP hD hS 5 4 rfl rfl g4 dX3_deepest_85 (fun H locs hP hD hS => ?_)
        replace hP : va_P (dC, dI) fb_cl [(o, .inr (3, [.ref o_counts, .ref o_sorted, .ref o_weight, .ref o_above, .ref o_depth, .int o_single])), (o_sorted, .inl (o_sorted_c, o_sorted_n, .inl o_sorted_v)), (o_counts, .inl (o_counts_c, o_counts_n, .inl o_counts_v)), (o_weight, .inl (o_weight_c, o_weight_n, .inl o_weight_v)), (o_above, .inl (o_above_c, o_above_n, .inl o_above_v)), (o_depth, .inl (o_depth_c, o_depth_n, .inl (upd o_depth_v (x3).toNatClampNeg ((o_depth_v ((o_above_v (x3).toNatClampNeg)).toNatClampNeg) + (1 : Int32)))))] H := hP
        replace hD : va_D A [(o, .inr (3, [.ref o_counts, .ref o_sorted, .ref o_weight, .ref o_above, .ref o_depth, .int o_single])), (o_sorted, .inl (o_sorted_c, o_sorted_n, .inl o_sorted_v)), (o_counts, .inl (o_counts_c, o_counts_n, .inl o_counts_v)), (o_weight, .inl (o_weight_c, o_weight_n, .inl o_weight_v)), (o_above, .inl (o_above_c, o_above_n, .inl o_above_v)), (o_depth, .inl (o_depth_c, o_depth_n, .inl (upd o_depth_v (x3).toNatClampNeg ((o_depth_v ((o_above_v (x3).toNatClampNeg)).toNatClampNeg) + (1 : Int32)))))] := hD
        refine lv_iload_n hx hb dX3_deepest_86 rfl (lv_at hl 1 rfl) ?_
        refine lv_aload_n hx hb dX3_deepest_87 rfl (lv_at hl 0 rfl) ?_
        refine va_get (D := (dC, dI)) (ci := 3) (v := .ref o_depth) (C := RX3) (T := TX3) (N := 6) hx hb hts i_X3 hown hK hP 0 rfl rfl 4 (by decide) (hts _ k_134) (fun _ h9 => h9) rfl dX3_deepest_88 ?_
        refine lv_iload_n hx hb dX3_deepest_91 rfl (lv_at hl 2 rfl) ?_
        obtain ⟨g5, h⟩ := fb_g h
        refine va_iald hx hb hK hP 5 4 rfl rfl g5 dX3_deepest_92 ?_
        refine va_mmax hx hb (hml.trans hl.1.symm) hown (hts _ k_511) (hts _ k_93) (hts _ k_63) (hts _ k_94) (Nat.le_of_ble_eq_true rfl) (Nat.le_of_ble_eq_true rfl) (Nat.zero_le _) (Nat.zero_le _) dX3_deepest_93 ?_
        refine lv_istore_n (lv' := [(2, .int (if x2 < ((upd o_depth_v (x3).toNatClampNeg ((o_depth_v ((o_above_v (x3).toNatClampNeg)).toNatClampNeg) + (1 : Int32))) (x3).toNatClampNeg) then ((upd o_depth_v (x3).toNatClampNeg ((o_depth_v ((o_above_v (x3).toNatClampNeg)).toNatClampNeg) + (1 : Int32))) (x3).toNatClampNeg) else x2)), (0, .ref o), (3, .int x3)]) hx hb dX3_deepest_96 rfl hl (by decide) rfl (fun ls hl => ?_)
        refine lv_iinc (v := (x3 + (-1 : Int32))) (lv' := [(3, .int (x3 + (-1 : Int32))), (2, .int (if x2 < ((upd o_depth_v (x3).toNatClampNeg ((o_depth_v ((o_above_v (x3).toNatClampNeg)).toNatClampNeg) + (1 : Int32))) (x3).toNatClampNeg) then ((upd o_depth_v (x3).toNatClampNeg ((o_depth_v ((o_above_v (x3).toNatClampNeg)).toNatClampNeg) + (1 : Int32))) (x3).toNatClampNeg) else x2)), (0, .ref o)]) hx hb dX3_deepest_97 hl (k := 2) rfl rfl (by decide) rfl (fun ls hl => ?_)
        refine lv_goto (tgt := 63) hx hb dX3_deepest_100 (by decide) ?_
        exact ih o_weight_v o_above_v (upd o_depth_v (x3).toNatClampNeg ((o_depth_v ((o_above_v (x3).toNatClampNeg)).toNatClampNeg) + (1 : Int32))) (if x2 < ((upd o_depth_v (x3).toNatClampNeg ((o_depth_v ((o_above_v (x3).toNatClampNeg)).toNatClampNeg) + (1 : Int32))) (x3).toNatClampNeg) then ((upd o_depth_v (x3).toNatClampNeg ((o_depth_v ((o_above_v (x3).toNatClampNeg)).toNatClampNeg) + (1 : Int32))) (x3).toNatClampNeg) else x2) (x3 + (-1 : Int32)) _ _ _ hP hD hS (lv_sub hl [2, 1, 0] rfl) h
  have wB2 : ∀ n : Nat, ∀ (o_weight_v : Nat → Int32) (o_above_v : Nat → Int32) (o_depth_v : Nat → Int32) (x1 : Int32) (H : Heap) (locs : List Loc) (ls : Array Slot), va_P (dC, dI) fb_cl [(o, .inr (3, [.ref o_counts, .ref o_sorted, .ref o_weight, .ref o_above, .ref o_depth, .int o_single])), (o_sorted, .inl (o_sorted_c, o_sorted_n, .inl o_sorted_v)), (o_counts, .inl (o_counts_c, o_counts_n, .inl o_counts_v)), (o_weight, .inl (o_weight_c, o_weight_n, .inl o_weight_v)), (o_above, .inl (o_above_c, o_above_n, .inl o_above_v)), (o_depth, .inl (o_depth_c, o_depth_n, .inl o_depth_v))] H → va_D A [(o, .inr (3, [.ref o_counts, .ref o_sorted, .ref o_weight, .ref o_above, .ref o_depth, .int o_single])), (o_sorted, .inl (o_sorted_c, o_sorted_n, .inl o_sorted_v)), (o_counts, .inl (o_counts_c, o_counts_n, .inl o_counts_v)), (o_weight, .inl (o_weight_c, o_weight_n, .inl o_weight_v)), (o_above, .inl (o_above_c, o_above_n, .inl o_above_v)), (o_depth, .inl (o_depth_c, o_depth_n, .inl o_depth_v))] → va_S A s.heap H locs → lv_has ls 4 [(0, .ref o), (1, .int x1)] → pX3_deepest_b2 o_sorted_n o_counts_n o_weight_n o_above_n o_depth_n o_single o_sorted_v o_counts_v n o_weight_v o_above_v o_depth_v x1 = some u → W p l e ({ frames := 1, cells := 0, slots := 0, locals := 26 }) s m args below meth c H locs 0 0 Q (F0 m 2 ls []) := by
    intro n
    induction n with
    | zero => intro o_weight_v o_above_v o_depth_v x1 H locs ls hP hD hS hl h; cases h
    | succ n ih =>
      intro o_weight_v o_above_v o_depth_v x1 H locs ls hP hD hS hl h
      rw [pX3_deepest_b2] at h
      refine lv_iload_n hx hb dX3_deepest_2 rfl (lv_at hl 1 rfl) ?_
      refine lv_aload_n hx hb dX3_deepest_3 rfl (lv_at hl 0 rfl) ?_
      refine va_get (D := (dC, dI)) (ci := 3) (v := .int o_single) (C := RX3) (T := TX3) (N := 6) hx hb hts i_X3 hown hK hP 0 rfl rfl 5 (by decide) (hts _ k_135) (fun _ h9 => h9) rfl dX3_deepest_4 ?_
      refine lv_icmp_ge (tgt := 33) hx hb dX3_deepest_7 (by decide) (fun c6 => ?_) (fun c6 => ?_)
      · replace h := fb_t c6 h
        refine lv_aload_n hx hb dX3_deepest_33 rfl (lv_at hl 0 rfl) ?_
        obtain ⟨u7, e7, h⟩ := fb_b h
        refine fb_cv (wc := [(o, .inr (3, [.ref o_counts, .ref o_sorted, .ref o_weight, .ref o_above, .ref o_depth, .int o_single])), (o_weight, .inl (o_weight_c, o_weight_n, .inl o_weight_v)), (o_above, .inl (o_above_c, o_above_n, .inl o_above_v))]) (wr := [(o_sorted, .inl (o_sorted_c, o_sorted_n, .inl o_sorted_v)), (o_counts, .inl (o_counts_c, o_counts_n, .inl o_counts_v)), (o_depth, .inl (o_depth_c, o_depth_n, .inl o_depth_v))]) (w1 := [(o, .inr (3, [.ref o_counts, .ref o_sorted, .ref o_weight, .ref o_above, .ref o_depth, .int o_single])), (o_weight, .inl (o_weight_c, o_weight_n, .inl u7.1)), (o_above, .inl (o_above_c, o_above_n, .inl u7.2))]) (ws' := [(o, .inr (3, [.ref o_counts, .ref o_sorted, .ref o_weight, .ref o_above, .ref o_depth, .int o_single])), (o_sorted, .inl (o_sorted_c, o_sorted_n, .inl o_sorted_v)), (o_counts, .inl (o_counts_c, o_counts_n, .inl o_counts_v)), (o_weight, .inl (o_weight_c, o_weight_n, .inl u7.1)), (o_above, .inl (o_above_c, o_above_n, .inl u7.2)), (o_depth, .inl (o_depth_c, o_depth_n, .inl o_depth_v))]) (va_runV (As := []) (rest := []) ⟨hx, hb, hml, hown, hts⟩ (mX3_join l dC dI o o_weight o_above o_counts o_sorted o_depth o_weight_c o_above_c o_weight_n o_above_n o_single o_weight_v o_above_v H.size u7 e7) (cwV 0 hts (fb_GV k_507 k_509 k_8 k_66 k_510) rfl rfl rfl hdX3_join ⟨Nat.le_of_ble_eq_true rfl, Nat.le_of_ble_eq_true rfl⟩) (fb_pV hP hD hS hA hK hN hZ [0, 3, 4] rfl rfl [2, 3] rfl (q0 := 0) (ci := 3) rfl rfl) rfl rfl hl.1 rfl (lv_room (Nat.le_of_ble_eq_true rfl)) dX3_deepest_34 ⟨Nat.le_of_ble_eq_true rfl, Nat.le_of_ble_eq_true rfl⟩) hP hD hS hA [0, 3, 4] [1, 2, 5] rfl rfl rfl (by decide) [3, 0, 1, 4, 5, 2] rfl rfl (fun H locs hP hD hS => ?_)
        refine lv_iconst (v := (2 : Int32)) hx hb dX3_deepest_37 (by decide) ?_
        refine lv_aload_n hx hb dX3_deepest_38 rfl (lv_at hl 0 rfl) ?_
        refine va_get (D := (dC, dI)) (ci := 3) (v := .int o_single) (C := RX3) (T := TX3) (N := 6) hx hb hts i_X3 hown hK hP 0 rfl rfl 5 (by decide) (hts _ k_135) (fun _ h9 => h9) rfl dX3_deepest_39 ?_
        refine lv_imul hx hb dX3_deepest_42 ?_
        refine lv_iconst (v := (2 : Int32)) hx hb dX3_deepest_43 (by decide) ?_
        refine lv_isub hx hb dX3_deepest_44 ?_
        refine lv_istore_n (lv' := [(1, .int (((2 : Int32) * o_single) - (2 : Int32))), (0, .ref o)]) hx hb dX3_deepest_45 rfl hl (by decide) rfl (fun ls hl => ?_)
        refine lv_iconst (v := (0 : Int32)) hx hb dX3_deepest_46 (by decide) ?_
        refine lv_istore_n (lv' := [(2, .int (0 : Int32)), (1, .int (((2 : Int32) * o_single) - (2 : Int32))), (0, .ref o)]) hx hb dX3_deepest_47 rfl hl (by decide) rfl (fun ls hl => ?_)
        refine lv_iload_n hx hb dX3_deepest_48 rfl (lv_at hl 1 rfl) ?_
        refine lv_if_lt (tgt := 59) hx hb dX3_deepest_49 (by decide) (fun c8 => ?_) (fun c8 => ?_)
        · replace h := fb_t c8 h
          refine lv_iload_n hx hb dX3_deepest_59 rfl (lv_at hl 1 rfl) ?_
          refine lv_iconst (v := (1 : Int32)) hx hb dX3_deepest_60 (by decide) ?_
          refine lv_isub hx hb dX3_deepest_61 ?_
          refine lv_istore_n (lv' := [(3, .int ((((2 : Int32) * o_single) - (2 : Int32)) - (1 : Int32))), (2, .int (0 : Int32)), (1, .int (((2 : Int32) * o_single) - (2 : Int32))), (0, .ref o)]) hx hb dX3_deepest_62 rfl hl (by decide) rfl (fun ls hl => ?_)
          exact wB63 fb_F u7.1 u7.2 o_depth_v (0 : Int32) ((((2 : Int32) * o_single) - (2 : Int32)) - (1 : Int32)) _ _ _ hP hD hS (lv_sub hl [3, 1, 0] rfl) h
        · replace h := fb_f c8 h
          refine lv_aload_n hx hb dX3_deepest_52 rfl (lv_at hl 2 rfl) ?_
          refine va_get (D := (dC, dI)) (ci := 3) (v := .ref o_depth) (C := RX3) (T := TX3) (N := 6) hx hb hts i_X3 hown hK hP 0 rfl rfl 4 (by decide) (hts _ k_134) (fun _ h9 => h9) rfl dX3_deepest_53 ?_
          refine lv_iload_n hx hb dX3_deepest_56 rfl (lv_at hl 1 rfl) ?_
          refine lv_iconst (v := (0 : Int32)) hx hb dX3_deepest_57 (by decide) ?_
          obtain ⟨g9, h⟩ := fb_g h
          refine va_iast hx hb hK hP hD hS 5 4 rfl rfl g9 dX3_deepest_58 (fun H locs hP hD hS => ?_)
          replace hP : va_P (dC, dI) fb_cl [(o, .inr (3, [.ref o_counts, .ref o_sorted, .ref o_weight, .ref o_above, .ref o_depth, .int o_single])), (o_sorted, .inl (o_sorted_c, o_sorted_n, .inl o_sorted_v)), (o_counts, .inl (o_counts_c, o_counts_n, .inl o_counts_v)), (o_weight, .inl (o_weight_c, o_weight_n, .inl u7.1)), (o_above, .inl (o_above_c, o_above_n, .inl u7.2)), (o_depth, .inl (o_depth_c, o_depth_n, .inl (upd o_depth_v ((((2 : Int32) * o_single) - (2 : Int32))).toNatClampNeg (0 : Int32))))] H := hP
          replace hD : va_D A [(o, .inr (3, [.ref o_counts, .ref o_sorted, .ref o_weight, .ref o_above, .ref o_depth, .int o_single])), (o_sorted, .inl (o_sorted_c, o_sorted_n, .inl o_sorted_v)), (o_counts, .inl (o_counts_c, o_counts_n, .inl o_counts_v)), (o_weight, .inl (o_weight_c, o_weight_n, .inl u7.1)), (o_above, .inl (o_above_c, o_above_n, .inl u7.2)), (o_depth, .inl (o_depth_c, o_depth_n, .inl (upd o_depth_v ((((2 : Int32) * o_single) - (2 : Int32))).toNatClampNeg (0 : Int32))))] := hD
          refine lv_iload_n hx hb dX3_deepest_59 rfl (lv_at hl 1 rfl) ?_
          refine lv_iconst (v := (1 : Int32)) hx hb dX3_deepest_60 (by decide) ?_
          refine lv_isub hx hb dX3_deepest_61 ?_
          refine lv_istore_n (lv' := [(3, .int ((((2 : Int32) * o_single) - (2 : Int32)) - (1 : Int32))), (2, .int (0 : Int32)), (1, .int (((2 : Int32) * o_single) - (2 : Int32))), (0, .ref o)]) hx hb dX3_deepest_62 rfl hl (by decide) rfl (fun ls hl => ?_)
          exact wB63 fb_F u7.1 u7.2 (upd o_depth_v ((((2 : Int32) * o_single) - (2 : Int32))).toNatClampNeg (0 : Int32)) (0 : Int32) ((((2 : Int32) * o_single) - (2 : Int32)) - (1 : Int32)) _ _ _ hP hD hS (lv_sub hl [3, 1, 0] rfl) h
      · replace h := fb_f c6 h
        refine lv_aload_n hx hb dX3_deepest_10 rfl (lv_at hl 0 rfl) ?_
        refine va_get (D := (dC, dI)) (ci := 3) (v := .ref o_weight) (C := RX3) (T := TX3) (N := 6) hx hb hts i_X3 hown hK hP 0 rfl rfl 2 (by decide) (hts _ k_132) (fun _ h9 => h9) rfl dX3_deepest_11 ?_
        refine lv_iload_n hx hb dX3_deepest_14 rfl (lv_at hl 1 rfl) ?_
        refine lv_aload_n hx hb dX3_deepest_15 rfl (lv_at hl 0 rfl) ?_
        refine va_get (D := (dC, dI)) (ci := 3) (v := .ref o_counts) (C := RX3) (T := TX3) (N := 6) hx hb hts i_X3 hown hK hP 0 rfl rfl 0 (by decide) (hts _ k_130) (fun _ h9 => h9) rfl dX3_deepest_16 ?_
        refine lv_aload_n hx hb dX3_deepest_19 rfl (lv_at hl 0 rfl) ?_
        refine va_get (D := (dC, dI)) (ci := 3) (v := .ref o_sorted) (C := RX3) (T := TX3) (N := 6) hx hb hts i_X3 hown hK hP 0 rfl rfl 1 (by decide) (hts _ k_131) (fun _ h9 => h9) rfl dX3_deepest_20 ?_
        refine lv_iload_n hx hb dX3_deepest_23 rfl (lv_at hl 1 rfl) ?_
        obtain ⟨g10, h⟩ := fb_g h
        refine va_iald hx hb hK hP 1 0 rfl rfl g10 dX3_deepest_24 ?_
        obtain ⟨g11, h⟩ := fb_g h
        refine va_iald hx hb hK hP 2 1 rfl rfl g11 dX3_deepest_25 ?_
        obtain ⟨g12, h⟩ := fb_g h
        refine va_iast hx hb hK hP hD hS 3 2 rfl rfl g12 dX3_deepest_26 (fun H locs hP hD hS => ?_)
        replace hP : va_P (dC, dI) fb_cl [(o, .inr (3, [.ref o_counts, .ref o_sorted, .ref o_weight, .ref o_above, .ref o_depth, .int o_single])), (o_sorted, .inl (o_sorted_c, o_sorted_n, .inl o_sorted_v)), (o_counts, .inl (o_counts_c, o_counts_n, .inl o_counts_v)), (o_weight, .inl (o_weight_c, o_weight_n, .inl (upd o_weight_v (x1).toNatClampNeg (o_counts_v ((o_sorted_v (x1).toNatClampNeg)).toNatClampNeg)))), (o_above, .inl (o_above_c, o_above_n, .inl o_above_v)), (o_depth, .inl (o_depth_c, o_depth_n, .inl o_depth_v))] H := hP
        replace hD : va_D A [(o, .inr (3, [.ref o_counts, .ref o_sorted, .ref o_weight, .ref o_above, .ref o_depth, .int o_single])), (o_sorted, .inl (o_sorted_c, o_sorted_n, .inl o_sorted_v)), (o_counts, .inl (o_counts_c, o_counts_n, .inl o_counts_v)), (o_weight, .inl (o_weight_c, o_weight_n, .inl (upd o_weight_v (x1).toNatClampNeg (o_counts_v ((o_sorted_v (x1).toNatClampNeg)).toNatClampNeg)))), (o_above, .inl (o_above_c, o_above_n, .inl o_above_v)), (o_depth, .inl (o_depth_c, o_depth_n, .inl o_depth_v))] := hD
        refine lv_iinc (v := (x1 + (1 : Int32))) (lv' := [(1, .int (x1 + (1 : Int32))), (0, .ref o)]) hx hb dX3_deepest_27 hl (k := 1) rfl rfl (by decide) rfl (fun ls hl => ?_)
        refine lv_goto (tgt := 2) hx hb dX3_deepest_30 (by decide) ?_
        exact ih (upd o_weight_v (x1).toNatClampNeg (o_counts_v ((o_sorted_v (x1).toNatClampNeg)).toNatClampNeg)) o_above_v o_depth_v (x1 + (1 : Int32)) _ _ _ hP hD hS (lv_sub hl [1, 0] rfl) h
  unfold pX3_deepest at h
  refine lv_iconst (v := (0 : Int32)) hx hb dX3_deepest_0 (by decide) ?_
  refine lv_istore_n (lv' := [(1, .int (0 : Int32)), (0, .ref o)]) hx hb dX3_deepest_1 rfl hl (by decide) rfl (fun ls hl => ?_)
  exact wB2 fb_F o_weight_v o_above_v o_depth_v (0 : Int32) _ _ _ hP hD hS (lv_sub hl [1, 0] rfl) h
theorem dX3_halve_0 : decode cX3_halve 0 = .ok (.iconst 0, 1) := by decide +kernel
theorem dX3_halve_1 : decode cX3_halve 1 = .ok (.istore_n 2, 1) := by decide +kernel
theorem dX3_halve_2 : decode cX3_halve 2 = .ok (.iload_n 2, 1) := by decide +kernel
theorem dX3_halve_3 : decode cX3_halve 3 = .ok (.iload_n 1, 1) := by decide +kernel
theorem dX3_halve_4 : decode cX3_halve 4 = .ok (.if_icmp .ge 25, 3) := by decide +kernel
theorem dX3_halve_7 : decode cX3_halve 7 = .ok (.aload_n 0, 1) := by decide +kernel
theorem dX3_halve_8 : decode cX3_halve 8 = .ok (.getfield 9, 3) := by decide +kernel
theorem dX3_halve_11 : decode cX3_halve 11 = .ok (.iload_n 2, 1) := by decide +kernel
theorem dX3_halve_12 : decode cX3_halve 12 = .ok (.aload_n 0, 1) := by decide +kernel
theorem dX3_halve_13 : decode cX3_halve 13 = .ok (.getfield 9, 3) := by decide +kernel
theorem dX3_halve_16 : decode cX3_halve 16 = .ok (.iload_n 2, 1) := by decide +kernel
theorem dX3_halve_17 : decode cX3_halve 17 = .ok (.iaload, 1) := by decide +kernel
theorem dX3_halve_18 : decode cX3_halve 18 = .ok (.iconst 1, 1) := by decide +kernel
theorem dX3_halve_19 : decode cX3_halve 19 = .ok (.iadd, 1) := by decide +kernel
theorem dX3_halve_20 : decode cX3_halve 20 = .ok (.iconst 2, 1) := by decide +kernel
theorem dX3_halve_21 : decode cX3_halve 21 = .ok (.idiv, 1) := by decide +kernel
theorem dX3_halve_22 : decode cX3_halve 22 = .ok (.iastore, 1) := by decide +kernel
theorem dX3_halve_23 : decode cX3_halve 23 = .ok (.iinc 2 1, 3) := by decide +kernel
theorem dX3_halve_26 : decode cX3_halve 26 = .ok (.goto (-24), 3) := by decide +kernel
theorem dX3_halve_29 : decode cX3_halve 29 = .ok (.return_, 1) := by decide +kernel
def pX3_halve_b2 (o_counts_n : Nat) (x1 : Int32)  : Nat → (Nat → Int32) → Int32 → Option ((Nat → Int32))
  | 0 => fun _ _ => none
  | n + 1 => fun o_counts_v x2 =>
  if x1 ≤ x2 then
  (some (o_counts_v))
  else
  (if x2 < 0 ∨ o_counts_n ≤ (x2).toNatClampNeg then none else
  if x2 < 0 ∨ o_counts_n ≤ (x2).toNatClampNeg then none else
  (pX3_halve_b2 o_counts_n x1 n) (upd o_counts_v (x2).toNatClampNeg (((o_counts_v (x2).toNatClampNeg) + (1 : Int32)) / (2 : Int32))) (x2 + (1 : Int32)))
def pX3_halve (o_counts_n : Nat) (x1 : Int32)  (o_counts_v : Nat → Int32) : Option ((Nat → Int32)) :=
  pX3_halve_b2 o_counts_n x1 fb_F o_counts_v (0 : Int32)
theorem hdX3_halve : yX3_halve.cls = RX3 ∧ yX3_halve.cls ≠ "java/lang/invoke/MethodHandle" ∧ yX3_halve.cls ≠ "java/lang/invoke/VarHandle" ∧ (parseMethodDescriptor yX3_halve.desc).map (fun d => d.parameters.length) = some 1 := by decide +kernel
set_option maxHeartbeats 8000000 in
set_option maxRecDepth 100000 in
theorem mX3_halve (l : Launch) (dC : Nat → ClassId) (dI : Nat → Nat → Nat) (o : Nat) (o_counts : Nat) (o_sorted : Nat) (o_weight : Nat) (o_above : Nat) (o_depth : Nat) (o_counts_c : ClassId) (o_counts_n : Nat) (o_single : Int32) (o_counts_v : Nat → Int32) (x1 : Int32) (sz : Nat) (u : (Nat → Int32)) (h : pX3_halve o_counts_n x1 o_counts_v = some u) : Met l yX3_halve (Cond.code yX3_halve cX3_halve 3 none :: fb_tb) ({ frames := 0, cells := 0, slots := 0, locals := 0 }) (fb_Pc (dC, dI) [.ref o, .int x1] sz [(o_counts_c, .int)] [(o, .inr (3, [.ref o_counts, .ref o_sorted, .ref o_weight, .ref o_above, .ref o_depth, .int o_single])), (o_counts, .inl (o_counts_c, o_counts_n, .inl o_counts_v))]) (fb_Qv (dC, dI) [(o, .inr (3, [.ref o_counts, .ref o_sorted, .ref o_weight, .ref o_above, .ref o_depth, .int o_single])), (o_counts, .inl (o_counts_c, o_counts_n, .inl u))] (va_A [(o, .inr (3, [.ref o_counts, .ref o_sorted, .ref o_weight, .ref o_above, .ref o_depth, .int o_single])), (o_counts, .inl (o_counts_c, o_counts_n, .inl o_counts_v))] sz)) 0 0 (va_A [(o, .inr (3, [.ref o_counts, .ref o_sorted, .ref o_weight, .ref o_above, .ref o_depth, .int o_single])), (o_counts, .inl (o_counts_c, o_counts_n, .inl o_counts_v))] sz) := by
  refine fb_metv (by decide) (Nat.le_of_ble_eq_true rfl) (fun p e s m args below meth c A Q ls H hx hb hml hown hts hP hK hN hZ hD hA hS hret hl => ?_)
  replace hl : lv_has ls 3 [(0, .ref o), (1, .int x1)] := hl
  have wB2 : ∀ n : Nat, ∀ (o_counts_v : Nat → Int32) (x2 : Int32) (H : Heap) (locs : List Loc) (ls : Array Slot), va_P (dC, dI) fb_cl [(o, .inr (3, [.ref o_counts, .ref o_sorted, .ref o_weight, .ref o_above, .ref o_depth, .int o_single])), (o_counts, .inl (o_counts_c, o_counts_n, .inl o_counts_v))] H → va_D A [(o, .inr (3, [.ref o_counts, .ref o_sorted, .ref o_weight, .ref o_above, .ref o_depth, .int o_single])), (o_counts, .inl (o_counts_c, o_counts_n, .inl o_counts_v))] → va_S A s.heap H locs → lv_has ls 3 [(0, .ref o), (1, .int x1), (2, .int x2)] → pX3_halve_b2 o_counts_n x1 n o_counts_v x2 = some u → W p l e ({ frames := 0, cells := 0, slots := 0, locals := 0 }) s m args below meth c H locs 0 0 Q (F0 m 2 ls []) := by
    intro n
    induction n with
    | zero => intro o_counts_v x2 H locs ls hP hD hS hl h; cases h
    | succ n ih =>
      intro o_counts_v x2 H locs ls hP hD hS hl h
      rw [pX3_halve_b2] at h
      refine lv_iload_n hx hb dX3_halve_2 rfl (lv_at hl 2 rfl) ?_
      refine lv_iload_n hx hb dX3_halve_3 rfl (lv_at hl 1 rfl) ?_
      refine lv_icmp_ge (tgt := 29) hx hb dX3_halve_4 (by decide) (fun c1 => ?_) (fun c1 => ?_)
      · replace h := fb_t c1 h
        have hu := Option.some.inj h
        exact hret _ _ _ _ dX3_halve_29 (by rw [← hu]; exact hP) (by rw [← hu]; exact hD) hS
      · replace h := fb_f c1 h
        refine lv_aload_n hx hb dX3_halve_7 rfl (lv_at hl 0 rfl) ?_
        refine va_get (D := (dC, dI)) (ci := 3) (v := .ref o_counts) (C := RX3) (T := TX3) (N := 6) hx hb hts i_X3 hown hK hP 0 rfl rfl 0 (by decide) (hts _ k_130) (fun _ h9 => h9) rfl dX3_halve_8 ?_
        refine lv_iload_n hx hb dX3_halve_11 rfl (lv_at hl 2 rfl) ?_
        refine lv_aload_n hx hb dX3_halve_12 rfl (lv_at hl 0 rfl) ?_
        refine va_get (D := (dC, dI)) (ci := 3) (v := .ref o_counts) (C := RX3) (T := TX3) (N := 6) hx hb hts i_X3 hown hK hP 0 rfl rfl 0 (by decide) (hts _ k_130) (fun _ h9 => h9) rfl dX3_halve_13 ?_
        refine lv_iload_n hx hb dX3_halve_16 rfl (lv_at hl 2 rfl) ?_
        obtain ⟨g2, h⟩ := fb_g h
        refine va_iald hx hb hK hP 1 0 rfl rfl g2 dX3_halve_17 ?_
        refine lv_iconst (v := (1 : Int32)) hx hb dX3_halve_18 (by decide) ?_
        refine lv_iadd hx hb dX3_halve_19 ?_
        refine lv_iconst (v := (2 : Int32)) hx hb dX3_halve_20 (by decide) ?_
        refine lv_idiv hx hb dX3_halve_21 (by decide) ?_
        obtain ⟨g3, h⟩ := fb_g h
        refine va_iast hx hb hK hP hD hS 1 0 rfl rfl g3 dX3_halve_22 (fun H locs hP hD hS => ?_)
        replace hP : va_P (dC, dI) fb_cl [(o, .inr (3, [.ref o_counts, .ref o_sorted, .ref o_weight, .ref o_above, .ref o_depth, .int o_single])), (o_counts, .inl (o_counts_c, o_counts_n, .inl (upd o_counts_v (x2).toNatClampNeg (((o_counts_v (x2).toNatClampNeg) + (1 : Int32)) / (2 : Int32)))))] H := hP
        replace hD : va_D A [(o, .inr (3, [.ref o_counts, .ref o_sorted, .ref o_weight, .ref o_above, .ref o_depth, .int o_single])), (o_counts, .inl (o_counts_c, o_counts_n, .inl (upd o_counts_v (x2).toNatClampNeg (((o_counts_v (x2).toNatClampNeg) + (1 : Int32)) / (2 : Int32)))))] := hD
        refine lv_iinc (v := (x2 + (1 : Int32))) (lv' := [(2, .int (x2 + (1 : Int32))), (0, .ref o), (1, .int x1)]) hx hb dX3_halve_23 hl (k := 2) rfl rfl (by decide) rfl (fun ls hl => ?_)
        refine lv_goto (tgt := 2) hx hb dX3_halve_26 (by decide) ?_
        exact ih (upd o_counts_v (x2).toNatClampNeg (((o_counts_v (x2).toNatClampNeg) + (1 : Int32)) / (2 : Int32))) (x2 + (1 : Int32)) _ _ _ hP hD hS (lv_sub hl [1, 2, 0] rfl) h
  unfold pX3_halve at h
  refine lv_iconst (v := (0 : Int32)) hx hb dX3_halve_0 (by decide) ?_
  refine lv_istore_n (lv' := [(2, .int (0 : Int32)), (0, .ref o), (1, .int x1)]) hx hb dX3_halve_1 rfl hl (by decide) rfl (fun ls hl => ?_)
  exact wB2 fb_F o_counts_v (0 : Int32) _ _ _ hP hD hS (lv_sub hl [1, 2, 0] rfl) h
theorem dX3_measure_0 : decode cX3_measure 0 = .ok (.aload_n 1, 1) := by decide +kernel
theorem dX3_measure_1 : decode cX3_measure 1 = .ok (.iconst 0, 1) := by decide +kernel
theorem dX3_measure_2 : decode cX3_measure 2 = .ok (.aload_n 0, 1) := by decide +kernel
theorem dX3_measure_3 : decode cX3_measure 3 = .ok (.getfield 9, 3) := by decide +kernel
theorem dX3_measure_6 : decode cX3_measure 6 = .ok (.iconst 0, 1) := by decide +kernel
theorem dX3_measure_7 : decode cX3_measure 7 = .ok (.aload_n 1, 1) := by decide +kernel
theorem dX3_measure_8 : decode cX3_measure 8 = .ok (.arraylength, 1) := by decide +kernel
theorem dX3_measure_9 : decode cX3_measure 9 = .ok (.invokestatic 27, 3) := by decide +kernel
theorem dX3_measure_12 : decode cX3_measure 12 = .ok (.aload_n 3, 1) := by decide +kernel
theorem dX3_measure_13 : decode cX3_measure 13 = .ok (.iconst 0, 1) := by decide +kernel
theorem dX3_measure_14 : decode cX3_measure 14 = .ok (.invokestatic 33, 3) := by decide +kernel
theorem dX3_measure_17 : decode cX3_measure 17 = .ok (.aload_n 0, 1) := by decide +kernel
theorem dX3_measure_18 : decode cX3_measure 18 = .ok (.aload_n 1, 1) := by decide +kernel
theorem dX3_measure_19 : decode cX3_measure 19 = .ok (.arraylength, 1) := by decide +kernel
theorem dX3_measure_20 : decode cX3_measure 20 = .ok (.invokevirtual 39, 3) := by decide +kernel
theorem dX3_measure_23 : decode cX3_measure 23 = .ok (.aload_n 0, 1) := by decide +kernel
theorem dX3_measure_24 : decode cX3_measure 24 = .ok (.getfield 43, 3) := by decide +kernel
theorem dX3_measure_27 : decode cX3_measure 27 = .ok (.iconst 1, 1) := by decide +kernel
theorem dX3_measure_28 : decode cX3_measure 28 = .ok (.if_icmp .ne 13, 3) := by decide +kernel
theorem dX3_measure_31 : decode cX3_measure 31 = .ok (.aload_n 3, 1) := by decide +kernel
theorem dX3_measure_32 : decode cX3_measure 32 = .ok (.aload_n 0, 1) := by decide +kernel
theorem dX3_measure_33 : decode cX3_measure 33 = .ok (.getfield 15, 3) := by decide +kernel
theorem dX3_measure_36 : decode cX3_measure 36 = .ok (.iconst 0, 1) := by decide +kernel
theorem dX3_measure_37 : decode cX3_measure 37 = .ok (.iaload, 1) := by decide +kernel
theorem dX3_measure_38 : decode cX3_measure 38 = .ok (.iconst 1, 1) := by decide +kernel
theorem dX3_measure_39 : decode cX3_measure 39 = .ok (.iastore, 1) := by decide +kernel
theorem dX3_measure_40 : decode cX3_measure 40 = .ok (.return_, 1) := by decide +kernel
theorem dX3_measure_41 : decode cX3_measure 41 = .ok (.iconst 0, 1) := by decide +kernel
theorem dX3_measure_42 : decode cX3_measure 42 = .ok (.istore 4, 2) := by decide +kernel
theorem dX3_measure_44 : decode cX3_measure 44 = .ok (.iload 4, 2) := by decide +kernel
theorem dX3_measure_46 : decode cX3_measure 46 = .ok (.bipush 32, 2) := by decide +kernel
theorem dX3_measure_48 : decode cX3_measure 48 = .ok (.if_icmp .ge 29, 3) := by decide +kernel
theorem dX3_measure_51 : decode cX3_measure 51 = .ok (.aload_n 0, 1) := by decide +kernel
theorem dX3_measure_52 : decode cX3_measure 52 = .ok (.invokevirtual 47, 3) := by decide +kernel
theorem dX3_measure_55 : decode cX3_measure 55 = .ok (.iload_n 2, 1) := by decide +kernel
theorem dX3_measure_56 : decode cX3_measure 56 = .ok (.if_icmp .le 21, 3) := by decide +kernel
theorem dX3_measure_59 : decode cX3_measure 59 = .ok (.aload_n 0, 1) := by decide +kernel
theorem dX3_measure_60 : decode cX3_measure 60 = .ok (.aload_n 1, 1) := by decide +kernel
theorem dX3_measure_61 : decode cX3_measure 61 = .ok (.arraylength, 1) := by decide +kernel
theorem dX3_measure_62 : decode cX3_measure 62 = .ok (.invokevirtual 51, 3) := by decide +kernel
theorem dX3_measure_65 : decode cX3_measure 65 = .ok (.aload_n 0, 1) := by decide +kernel
theorem dX3_measure_66 : decode cX3_measure 66 = .ok (.aload_n 1, 1) := by decide +kernel
theorem dX3_measure_67 : decode cX3_measure 67 = .ok (.arraylength, 1) := by decide +kernel
theorem dX3_measure_68 : decode cX3_measure 68 = .ok (.invokevirtual 39, 3) := by decide +kernel
theorem dX3_measure_71 : decode cX3_measure 71 = .ok (.iinc 4 1, 3) := by decide +kernel
theorem dX3_measure_74 : decode cX3_measure 74 = .ok (.goto (-30), 3) := by decide +kernel
theorem dX3_measure_77 : decode cX3_measure 77 = .ok (.iconst 0, 1) := by decide +kernel
theorem dX3_measure_78 : decode cX3_measure 78 = .ok (.istore 4, 2) := by decide +kernel
theorem dX3_measure_80 : decode cX3_measure 80 = .ok (.iload 4, 2) := by decide +kernel
theorem dX3_measure_82 : decode cX3_measure 82 = .ok (.aload_n 0, 1) := by decide +kernel
theorem dX3_measure_83 : decode cX3_measure 83 = .ok (.getfield 43, 3) := by decide +kernel
theorem dX3_measure_86 : decode cX3_measure 86 = .ok (.if_icmp .ge 25, 3) := by decide +kernel
theorem dX3_measure_89 : decode cX3_measure 89 = .ok (.aload_n 3, 1) := by decide +kernel
theorem dX3_measure_90 : decode cX3_measure 90 = .ok (.aload_n 0, 1) := by decide +kernel
theorem dX3_measure_91 : decode cX3_measure 91 = .ok (.getfield 15, 3) := by decide +kernel
theorem dX3_measure_94 : decode cX3_measure 94 = .ok (.iload 4, 2) := by decide +kernel
theorem dX3_measure_96 : decode cX3_measure 96 = .ok (.iaload, 1) := by decide +kernel
theorem dX3_measure_97 : decode cX3_measure 97 = .ok (.aload_n 0, 1) := by decide +kernel
theorem dX3_measure_98 : decode cX3_measure 98 = .ok (.getfield 24, 3) := by decide +kernel
theorem dX3_measure_101 : decode cX3_measure 101 = .ok (.iload 4, 2) := by decide +kernel
theorem dX3_measure_103 : decode cX3_measure 103 = .ok (.iaload, 1) := by decide +kernel
theorem dX3_measure_104 : decode cX3_measure 104 = .ok (.iastore, 1) := by decide +kernel
theorem dX3_measure_105 : decode cX3_measure 105 = .ok (.iinc 4 1, 3) := by decide +kernel
theorem dX3_measure_108 : decode cX3_measure 108 = .ok (.goto (-28), 3) := by decide +kernel
theorem dX3_measure_111 : decode cX3_measure 111 = .ok (.return_, 1) := by decide +kernel
def pX3_measure_b80 (o_sorted_n : Nat) (o_depth_n : Nat) (a3_n : Nat)  : Nat → Int32 → (Nat → Int32) → (Nat → Int32) → (Nat → Int32) → (Nat → Int32) → (Nat → Int32) → (Nat → Int32) → Int32 → Option (Int32 × (Nat → Int32) × (Nat → Int32) × (Nat → Int32) × (Nat → Int32) × (Nat → Int32) × (Nat → Int32))
  | 0 => fun _ _ _ _ _ _ _ _ => none
  | n + 1 => fun o_single o_counts_v o_sorted_v o_weight_v o_above_v o_depth_v a3_v x4 =>
  if o_single ≤ x4 then
  (some (o_single, o_counts_v, o_sorted_v, o_weight_v, o_above_v, o_depth_v, a3_v))
  else
  (if x4 < 0 ∨ o_sorted_n ≤ (x4).toNatClampNeg then none else
  if x4 < 0 ∨ o_depth_n ≤ (x4).toNatClampNeg then none else
  if (o_sorted_v (x4).toNatClampNeg) < 0 ∨ a3_n ≤ ((o_sorted_v (x4).toNatClampNeg)).toNatClampNeg then none else
  (pX3_measure_b80 o_sorted_n o_depth_n a3_n n) o_single o_counts_v o_sorted_v o_weight_v o_above_v o_depth_v (upd a3_v ((o_sorted_v (x4).toNatClampNeg)).toNatClampNeg (o_depth_v (x4).toNatClampNeg)) (x4 + (1 : Int32)))
def pX3_measure_b44 (o_counts_n : Nat) (o_sorted_n : Nat) (o_weight_n : Nat) (o_above_n : Nat) (o_depth_n : Nat) (a1_n : Nat) (a3_n : Nat) (x2 : Int32)  : Nat → Int32 → (Nat → Int32) → (Nat → Int32) → (Nat → Int32) → (Nat → Int32) → (Nat → Int32) → (Nat → Int32) → Int32 → Option (Int32 × (Nat → Int32) × (Nat → Int32) × (Nat → Int32) × (Nat → Int32) × (Nat → Int32) × (Nat → Int32))
  | 0 => fun _ _ _ _ _ _ _ _ => none
  | n + 1 => fun o_single o_counts_v o_sorted_v o_weight_v o_above_v o_depth_v a3_v x4 =>
  if (32 : Int32) ≤ x4 then
  (pX3_measure_b80 o_sorted_n o_depth_n a3_n fb_F o_single o_counts_v o_sorted_v o_weight_v o_above_v o_depth_v a3_v (0 : Int32))
  else
  ((pX3_deepest o_sorted_n o_counts_n o_weight_n o_above_n o_depth_n o_single o_sorted_v o_counts_v o_weight_v o_above_v o_depth_v).bind (fun u6 =>
  if u6.1 ≤ x2 then
  (pX3_measure_b80 o_sorted_n o_depth_n a3_n fb_F o_single o_counts_v o_sorted_v u6.2.1 u6.2.2.1 u6.2.2.2 a3_v (0 : Int32))
  else
  ((pX3_halve o_counts_n (Int32.ofNat a1_n) o_counts_v).bind (fun u8 =>
  (pX3_sort o_counts_n o_sorted_n u8 (Int32.ofNat a1_n) o_sorted_v).bind (fun u9 =>
  (pX3_measure_b44 o_counts_n o_sorted_n o_weight_n o_above_n o_depth_n a1_n a3_n x2 n) u9.1 u8 u9.2 u6.2.1 u6.2.2.1 u6.2.2.2 a3_v (x4 + (1 : Int32)))))))
def pX3_measure (o_counts_n : Nat) (o_sorted_n : Nat) (o_weight_n : Nat) (o_above_n : Nat) (o_depth_n : Nat) (a1_n : Nat) (a3_n : Nat) (a1_v : Nat → Int32) (x2 : Int32)  (o_counts_v : Nat → Int32) (o_sorted_v : Nat → Int32) (o_weight_v : Nat → Int32) (o_above_v : Nat → Int32) (o_depth_v : Nat → Int32) (a3_v : Nat → Int32) : Option (Int32 × (Nat → Int32) × (Nat → Int32) × (Nat → Int32) × (Nat → Int32) × (Nat → Int32) × (Nat → Int32)) :=
  if ¬ (0 : Int32) < 0 ∧ ¬ (0 : Int32) < 0 ∧ ¬ (Int32.ofNat a1_n) < 0 ∧ ((0 : Int32)).toNatClampNeg + ((Int32.ofNat a1_n)).toNatClampNeg ≤ a1_n ∧ ((0 : Int32)).toNatClampNeg + ((Int32.ofNat a1_n)).toNatClampNeg ≤ o_counts_n then
  ((pJ7_fill_53178 a3_n (0 : Int32) a3_v).bind (fun u11 =>
  (pX3_sort o_counts_n o_sorted_n (va_cpy a1_v o_counts_v ((0 : Int32)).toNatClampNeg ((0 : Int32)).toNatClampNeg ((Int32.ofNat a1_n)).toNatClampNeg) (Int32.ofNat a1_n) o_sorted_v).bind (fun u12 =>
  if u12.1 = (1 : Int32) then
  (if (0 : Int32) < 0 ∨ o_sorted_n ≤ ((0 : Int32)).toNatClampNeg then none else
  if (u12.2 ((0 : Int32)).toNatClampNeg) < 0 ∨ a3_n ≤ ((u12.2 ((0 : Int32)).toNatClampNeg)).toNatClampNeg then none else
  some (u12.1, (va_cpy a1_v o_counts_v ((0 : Int32)).toNatClampNeg ((0 : Int32)).toNatClampNeg ((Int32.ofNat a1_n)).toNatClampNeg), u12.2, o_weight_v, o_above_v, o_depth_v, (upd u11 ((u12.2 ((0 : Int32)).toNatClampNeg)).toNatClampNeg (1 : Int32))))
  else
  (pX3_measure_b44 o_counts_n o_sorted_n o_weight_n o_above_n o_depth_n a1_n a3_n x2 fb_F u12.1 (va_cpy a1_v o_counts_v ((0 : Int32)).toNatClampNeg ((0 : Int32)).toNatClampNeg ((Int32.ofNat a1_n)).toNatClampNeg) u12.2 o_weight_v o_above_v o_depth_v u11 (0 : Int32))))) else none
theorem hdX3_measure : yX3_measure.cls = RX3 ∧ yX3_measure.cls ≠ "java/lang/invoke/MethodHandle" ∧ yX3_measure.cls ≠ "java/lang/invoke/VarHandle" ∧ (parseMethodDescriptor yX3_measure.desc).map (fun d => d.parameters.length) = some 3 := by decide +kernel
set_option maxHeartbeats 8000000 in
set_option maxRecDepth 100000 in
theorem mX3_measure (l : Launch) (dC : Nat → ClassId) (dI : Nat → Nat → Nat) (o : Nat) (a1 : Nat) (a3 : Nat) (o_counts : Nat) (o_sorted : Nat) (o_weight : Nat) (o_above : Nat) (o_depth : Nat) (o_counts_c : ClassId) (o_sorted_c : ClassId) (o_weight_c : ClassId) (o_above_c : ClassId) (o_depth_c : ClassId) (a1_c : ClassId) (a3_c : ClassId) (o_counts_n : Nat) (o_sorted_n : Nat) (o_weight_n : Nat) (o_above_n : Nat) (o_depth_n : Nat) (a1_n : Nat) (a3_n : Nat) (o_single : Int32) (o_counts_v : Nat → Int32) (o_sorted_v : Nat → Int32) (o_weight_v : Nat → Int32) (o_above_v : Nat → Int32) (o_depth_v : Nat → Int32) (a1_v : Nat → Int32) (a3_v : Nat → Int32) (x2 : Int32) (sz : Nat) (u : Int32 × (Nat → Int32) × (Nat → Int32) × (Nat → Int32) × (Nat → Int32) × (Nat → Int32) × (Nat → Int32)) (h : pX3_measure o_counts_n o_sorted_n o_weight_n o_above_n o_depth_n a1_n a3_n a1_v x2 o_counts_v o_sorted_v o_weight_v o_above_v o_depth_v a3_v = some u) : Met l yX3_measure (Cond.code yX3_measure cX3_measure 5 none :: fb_tb) ({ frames := 2, cells := 0, slots := 0, locals := 49 }) (fb_Pc (dC, dI) [.ref o, .ref a1, .int x2, .ref a3] sz [(o_counts_c, .int), (o_sorted_c, .int), (o_weight_c, .int), (o_above_c, .int), (o_depth_c, .int), (a1_c, .int), (a3_c, .int)] [(o, .inr (3, [.ref o_counts, .ref o_sorted, .ref o_weight, .ref o_above, .ref o_depth, .int o_single])), (o_counts, .inl (o_counts_c, o_counts_n, .inl o_counts_v)), (o_sorted, .inl (o_sorted_c, o_sorted_n, .inl o_sorted_v)), (o_weight, .inl (o_weight_c, o_weight_n, .inl o_weight_v)), (o_above, .inl (o_above_c, o_above_n, .inl o_above_v)), (o_depth, .inl (o_depth_c, o_depth_n, .inl o_depth_v)), (a1, .inl (a1_c, a1_n, .inl a1_v)), (a3, .inl (a3_c, a3_n, .inl a3_v))]) (fb_Qv (dC, dI) [(o, .inr (3, [.ref o_counts, .ref o_sorted, .ref o_weight, .ref o_above, .ref o_depth, .int u.1])), (o_counts, .inl (o_counts_c, o_counts_n, .inl u.2.1)), (o_sorted, .inl (o_sorted_c, o_sorted_n, .inl u.2.2.1)), (o_weight, .inl (o_weight_c, o_weight_n, .inl u.2.2.2.1)), (o_above, .inl (o_above_c, o_above_n, .inl u.2.2.2.2.1)), (o_depth, .inl (o_depth_c, o_depth_n, .inl u.2.2.2.2.2.1)), (a1, .inl (a1_c, a1_n, .inl a1_v)), (a3, .inl (a3_c, a3_n, .inl u.2.2.2.2.2.2))] (va_A [(o, .inr (3, [.ref o_counts, .ref o_sorted, .ref o_weight, .ref o_above, .ref o_depth, .int o_single])), (o_counts, .inl (o_counts_c, o_counts_n, .inl o_counts_v)), (o_sorted, .inl (o_sorted_c, o_sorted_n, .inl o_sorted_v)), (o_weight, .inl (o_weight_c, o_weight_n, .inl o_weight_v)), (o_above, .inl (o_above_c, o_above_n, .inl o_above_v)), (o_depth, .inl (o_depth_c, o_depth_n, .inl o_depth_v)), (a1, .inl (a1_c, a1_n, .inl a1_v)), (a3, .inl (a3_c, a3_n, .inl a3_v))] sz)) 0 0 (va_A [(o, .inr (3, [.ref o_counts, .ref o_sorted, .ref o_weight, .ref o_above, .ref o_depth, .int o_single])), (o_counts, .inl (o_counts_c, o_counts_n, .inl o_counts_v)), (o_sorted, .inl (o_sorted_c, o_sorted_n, .inl o_sorted_v)), (o_weight, .inl (o_weight_c, o_weight_n, .inl o_weight_v)), (o_above, .inl (o_above_c, o_above_n, .inl o_above_v)), (o_depth, .inl (o_depth_c, o_depth_n, .inl o_depth_v)), (a1, .inl (a1_c, a1_n, .inl a1_v)), (a3, .inl (a3_c, a3_n, .inl a3_v))] sz) := by
  refine fb_metv (by decide) (Nat.le_of_ble_eq_true rfl) (fun p e s m args below meth c A Q ls H hx hb hml hown hts hP hK hN hZ hD hA hS hret hl => ?_)
  replace hl : lv_has ls 5 [(0, .ref o), (1, .ref a1), (2, .int x2), (3, .ref a3)] := hl
  have wB80 : ∀ n : Nat, ∀ (o_single : Int32) (o_counts_v : Nat → Int32) (o_sorted_v : Nat → Int32) (o_weight_v : Nat → Int32) (o_above_v : Nat → Int32) (o_depth_v : Nat → Int32) (a3_v : Nat → Int32) (x4 : Int32) (H : Heap) (locs : List Loc) (ls : Array Slot), va_P (dC, dI) fb_cl [(o, .inr (3, [.ref o_counts, .ref o_sorted, .ref o_weight, .ref o_above, .ref o_depth, .int o_single])), (o_counts, .inl (o_counts_c, o_counts_n, .inl o_counts_v)), (o_sorted, .inl (o_sorted_c, o_sorted_n, .inl o_sorted_v)), (o_weight, .inl (o_weight_c, o_weight_n, .inl o_weight_v)), (o_above, .inl (o_above_c, o_above_n, .inl o_above_v)), (o_depth, .inl (o_depth_c, o_depth_n, .inl o_depth_v)), (a1, .inl (a1_c, a1_n, .inl a1_v)), (a3, .inl (a3_c, a3_n, .inl a3_v))] H → va_D A [(o, .inr (3, [.ref o_counts, .ref o_sorted, .ref o_weight, .ref o_above, .ref o_depth, .int o_single])), (o_counts, .inl (o_counts_c, o_counts_n, .inl o_counts_v)), (o_sorted, .inl (o_sorted_c, o_sorted_n, .inl o_sorted_v)), (o_weight, .inl (o_weight_c, o_weight_n, .inl o_weight_v)), (o_above, .inl (o_above_c, o_above_n, .inl o_above_v)), (o_depth, .inl (o_depth_c, o_depth_n, .inl o_depth_v)), (a1, .inl (a1_c, a1_n, .inl a1_v)), (a3, .inl (a3_c, a3_n, .inl a3_v))] → va_S A s.heap H locs → lv_has ls 5 [(0, .ref o), (3, .ref a3), (4, .int x4)] → pX3_measure_b80 o_sorted_n o_depth_n a3_n n o_single o_counts_v o_sorted_v o_weight_v o_above_v o_depth_v a3_v x4 = some u → W p l e ({ frames := 2, cells := 0, slots := 0, locals := 49 }) s m args below meth c H locs 0 0 Q (F0 m 80 ls []) := by
    intro n
    induction n with
    | zero => intro o_single o_counts_v o_sorted_v o_weight_v o_above_v o_depth_v a3_v x4 H locs ls hP hD hS hl h; cases h
    | succ n ih =>
      intro o_single o_counts_v o_sorted_v o_weight_v o_above_v o_depth_v a3_v x4 H locs ls hP hD hS hl h
      rw [pX3_measure_b80] at h
      refine lv_iload hx hb dX3_measure_80 (lv_at hl 2 rfl) ?_
      refine lv_aload_n hx hb dX3_measure_82 rfl (lv_at hl 0 rfl) ?_
      refine va_get (D := (dC, dI)) (ci := 3) (v := .int o_single) (C := RX3) (T := TX3) (N := 6) hx hb hts i_X3 hown hK hP 0 rfl rfl 5 (by decide) (hts _ k_135) (fun _ h9 => h9) rfl dX3_measure_83 ?_
      refine lv_icmp_ge (tgt := 111) hx hb dX3_measure_86 (by decide) (fun c1 => ?_) (fun c1 => ?_)
      · replace h := fb_t c1 h
        have hu := Option.some.inj h
        exact hret _ _ _ _ dX3_measure_111 (by rw [← hu]; exact hP) (by rw [← hu]; exact hD) hS
      · replace h := fb_f c1 h
        refine lv_aload_n hx hb dX3_measure_89 rfl (lv_at hl 1 rfl) ?_
        refine lv_aload_n hx hb dX3_measure_90 rfl (lv_at hl 0 rfl) ?_
        refine va_get (D := (dC, dI)) (ci := 3) (v := .ref o_sorted) (C := RX3) (T := TX3) (N := 6) hx hb hts i_X3 hown hK hP 0 rfl rfl 1 (by decide) (hts _ k_131) (fun _ h9 => h9) rfl dX3_measure_91 ?_
        refine lv_iload hx hb dX3_measure_94 (lv_at hl 2 rfl) ?_
        obtain ⟨g2, h⟩ := fb_g h
        refine va_iald hx hb hK hP 2 1 rfl rfl g2 dX3_measure_96 ?_
        refine lv_aload_n hx hb dX3_measure_97 rfl (lv_at hl 0 rfl) ?_
        refine va_get (D := (dC, dI)) (ci := 3) (v := .ref o_depth) (C := RX3) (T := TX3) (N := 6) hx hb hts i_X3 hown hK hP 0 rfl rfl 4 (by decide) (hts _ k_134) (fun _ h9 => h9) rfl dX3_measure_98 ?_
        refine lv_iload hx hb dX3_measure_101 (lv_at hl 2 rfl) ?_
        obtain ⟨g3, h⟩ := fb_g h
        refine va_iald hx hb hK hP 5 4 rfl rfl g3 dX3_measure_103 ?_
        obtain ⟨g4, h⟩ := fb_g h
        refine va_iast hx hb hK hP hD hS 7 6 rfl rfl g4 dX3_measure_104 (fun H locs hP hD hS => ?_)
        replace hP : va_P (dC, dI) fb_cl [(o, .inr (3, [.ref o_counts, .ref o_sorted, .ref o_weight, .ref o_above, .ref o_depth, .int o_single])), (o_counts, .inl (o_counts_c, o_counts_n, .inl o_counts_v)), (o_sorted, .inl (o_sorted_c, o_sorted_n, .inl o_sorted_v)), (o_weight, .inl (o_weight_c, o_weight_n, .inl o_weight_v)), (o_above, .inl (o_above_c, o_above_n, .inl o_above_v)), (o_depth, .inl (o_depth_c, o_depth_n, .inl o_depth_v)), (a1, .inl (a1_c, a1_n, .inl a1_v)), (a3, .inl (a3_c, a3_n, .inl (upd a3_v ((o_sorted_v (x4).toNatClampNeg)).toNatClampNeg (o_depth_v (x4).toNatClampNeg))))] H := hP
        replace hD : va_D A [(o, .inr (3, [.ref o_counts, .ref o_sorted, .ref o_weight, .ref o_above, .ref o_depth, .int o_single])), (o_counts, .inl (o_counts_c, o_counts_n, .inl o_counts_v)), (o_sorted, .inl (o_sorted_c, o_sorted_n, .inl o_sorted_v)), (o_weight, .inl (o_weight_c, o_weight_n, .inl o_weight_v)), (o_above, .inl (o_above_c, o_above_n, .inl o_above_v)), (o_depth, .inl (o_depth_c, o_depth_n, .inl o_depth_v)), (a1, .inl (a1_c, a1_n, .inl a1_v)), (a3, .inl (a3_c, a3_n, .inl (upd a3_v ((o_sorted_v (x4).toNatClampNeg)).toNatClampNeg (o_depth_v (x4).toNatClampNeg))))] := hD
        refine lv_iinc (v := (x4 + (1 : Int32))) (lv' := [(4, .int (x4 + (1 : Int32))), (0, .ref o), (3, .ref a3)]) hx hb dX3_measure_105 hl (k := 2) rfl rfl (by decide) rfl (fun ls hl => ?_)
        refine lv_goto (tgt := 80) hx hb dX3_measure_108 (by decide) ?_
        exact ih o_single o_counts_v o_sorted_v o_weight_v o_above_v o_depth_v (upd a3_v ((o_sorted_v (x4).toNatClampNeg)).toNatClampNeg (o_depth_v (x4).toNatClampNeg)) (x4 + (1 : Int32)) _ _ _ hP hD hS (lv_sub hl [1, 2, 0] rfl) h
  have wB44 : ∀ n : Nat, ∀ (o_single : Int32) (o_counts_v : Nat → Int32) (o_sorted_v : Nat → Int32) (o_weight_v : Nat → Int32) (o_above_v : Nat → Int32) (o_depth_v : Nat → Int32) (a3_v : Nat → Int32) (x4 : Int32) (H : Heap) (locs : List Loc) (ls : Array Slot), va_P (dC, dI) fb_cl [(o, .inr (3, [.ref o_counts, .ref o_sorted, .ref o_weight, .ref o_above, .ref o_depth, .int o_single])), (o_counts, .inl (o_counts_c, o_counts_n, .inl o_counts_v)), (o_sorted, .inl (o_sorted_c, o_sorted_n, .inl o_sorted_v)), (o_weight, .inl (o_weight_c, o_weight_n, .inl o_weight_v)), (o_above, .inl (o_above_c, o_above_n, .inl o_above_v)), (o_depth, .inl (o_depth_c, o_depth_n, .inl o_depth_v)), (a1, .inl (a1_c, a1_n, .inl a1_v)), (a3, .inl (a3_c, a3_n, .inl a3_v))] H → va_D A [(o, .inr (3, [.ref o_counts, .ref o_sorted, .ref o_weight, .ref o_above, .ref o_depth, .int o_single])), (o_counts, .inl (o_counts_c, o_counts_n, .inl o_counts_v)), (o_sorted, .inl (o_sorted_c, o_sorted_n, .inl o_sorted_v)), (o_weight, .inl (o_weight_c, o_weight_n, .inl o_weight_v)), (o_above, .inl (o_above_c, o_above_n, .inl o_above_v)), (o_depth, .inl (o_depth_c, o_depth_n, .inl o_depth_v)), (a1, .inl (a1_c, a1_n, .inl a1_v)), (a3, .inl (a3_c, a3_n, .inl a3_v))] → va_S A s.heap H locs → lv_has ls 5 [(0, .ref o), (1, .ref a1), (2, .int x2), (3, .ref a3), (4, .int x4)] → pX3_measure_b44 o_counts_n o_sorted_n o_weight_n o_above_n o_depth_n a1_n a3_n x2 n o_single o_counts_v o_sorted_v o_weight_v o_above_v o_depth_v a3_v x4 = some u → W p l e ({ frames := 2, cells := 0, slots := 0, locals := 49 }) s m args below meth c H locs 0 0 Q (F0 m 44 ls []) := by
    intro n
    induction n with
    | zero => intro o_single o_counts_v o_sorted_v o_weight_v o_above_v o_depth_v a3_v x4 H locs ls hP hD hS hl h; cases h
    | succ n ih =>
      intro o_single o_counts_v o_sorted_v o_weight_v o_above_v o_depth_v a3_v x4 H locs ls hP hD hS hl h
      rw [pX3_measure_b44] at h
      refine lv_iload hx hb dX3_measure_44 (lv_at hl 4 rfl) ?_
      refine lv_bipush (v := (32 : Int32)) hx hb dX3_measure_46 (by decide) ?_
      refine lv_icmp_ge (tgt := 77) hx hb dX3_measure_48 (by decide) (fun c5 => ?_) (fun c5 => ?_)
      · replace h := fb_t c5 h
        refine lv_iconst (v := (0 : Int32)) hx hb dX3_measure_77 (by decide) ?_
        refine lv_istore (lv' := [(4, .int (0 : Int32)), (0, .ref o), (1, .ref a1), (2, .int x2), (3, .ref a3)]) hx hb dX3_measure_78 hl (by decide) rfl (fun ls hl => ?_)
        exact wB80 fb_F o_single o_counts_v o_sorted_v o_weight_v o_above_v o_depth_v a3_v (0 : Int32) _ _ _ hP hD hS (lv_sub hl [1, 4, 0] rfl) h
      · replace h := fb_f c5 h
        refine lv_aload_n hx hb dX3_measure_51 rfl (lv_at hl 0 rfl) ?_
        obtain ⟨u6, e6, h⟩ := fb_b h
        refine fb_ci (wc := [(o, .inr (3, [.ref o_counts, .ref o_sorted, .ref o_weight, .ref o_above, .ref o_depth, .int o_single])), (o_sorted, .inl (o_sorted_c, o_sorted_n, .inl o_sorted_v)), (o_counts, .inl (o_counts_c, o_counts_n, .inl o_counts_v)), (o_weight, .inl (o_weight_c, o_weight_n, .inl o_weight_v)), (o_above, .inl (o_above_c, o_above_n, .inl o_above_v)), (o_depth, .inl (o_depth_c, o_depth_n, .inl o_depth_v))]) (wr := [(a1, .inl (a1_c, a1_n, .inl a1_v)), (a3, .inl (a3_c, a3_n, .inl a3_v))]) (w1 := [(o, .inr (3, [.ref o_counts, .ref o_sorted, .ref o_weight, .ref o_above, .ref o_depth, .int o_single])), (o_sorted, .inl (o_sorted_c, o_sorted_n, .inl o_sorted_v)), (o_counts, .inl (o_counts_c, o_counts_n, .inl o_counts_v)), (o_weight, .inl (o_weight_c, o_weight_n, .inl u6.2.1)), (o_above, .inl (o_above_c, o_above_n, .inl u6.2.2.1)), (o_depth, .inl (o_depth_c, o_depth_n, .inl u6.2.2.2))]) (ws' := [(o, .inr (3, [.ref o_counts, .ref o_sorted, .ref o_weight, .ref o_above, .ref o_depth, .int o_single])), (o_counts, .inl (o_counts_c, o_counts_n, .inl o_counts_v)), (o_sorted, .inl (o_sorted_c, o_sorted_n, .inl o_sorted_v)), (o_weight, .inl (o_weight_c, o_weight_n, .inl u6.2.1)), (o_above, .inl (o_above_c, o_above_n, .inl u6.2.2.1)), (o_depth, .inl (o_depth_c, o_depth_n, .inl u6.2.2.2)), (a1, .inl (a1_c, a1_n, .inl a1_v)), (a3, .inl (a3_c, a3_n, .inl a3_v))]) (va_runV (As := []) (rest := []) ⟨hx, hb, hml, hown, hts⟩ (mX3_deepest l dC dI o o_sorted o_counts o_weight o_above o_depth o_sorted_c o_counts_c o_weight_c o_above_c o_depth_c o_sorted_n o_counts_n o_weight_n o_above_n o_depth_n o_single o_sorted_v o_counts_v o_weight_v o_above_v o_depth_v H.size u6 e6) (cwV 0 hts (fb_GV k_503 k_505 k_7 k_66 k_506) rfl rfl rfl hdX3_deepest ⟨Nat.le_of_ble_eq_true rfl, Nat.le_of_ble_eq_true rfl⟩) (fb_pV hP hD hS hA hK hN hZ [0, 2, 1, 3, 4, 5] rfl rfl [1, 0, 2, 3, 4] rfl (q0 := 0) (ci := 3) rfl rfl) rfl rfl hl.1 rfl (lv_room (Nat.le_of_ble_eq_true rfl)) dX3_measure_52 ⟨Nat.le_of_ble_eq_true rfl, Nat.le_of_ble_eq_true rfl⟩) hP hD hS hA [0, 2, 1, 3, 4, 5] [6, 7] rfl rfl rfl (by decide) [2, 4, 3, 5, 6, 7, 0, 1] rfl rfl (fun H locs hP hD hS => ?_)
        refine lv_iload_n hx hb dX3_measure_55 rfl (lv_at hl 2 rfl) ?_
        refine lv_icmp_le (tgt := 77) hx hb dX3_measure_56 (by decide) (fun c7 => ?_) (fun c7 => ?_)
        · replace h := fb_t c7 h
          refine lv_iconst (v := (0 : Int32)) hx hb dX3_measure_77 (by decide) ?_
          refine lv_istore (lv' := [(4, .int (0 : Int32)), (0, .ref o), (1, .ref a1), (2, .int x2), (3, .ref a3)]) hx hb dX3_measure_78 hl (by decide) rfl (fun ls hl => ?_)
          exact wB80 fb_F o_single o_counts_v o_sorted_v u6.2.1 u6.2.2.1 u6.2.2.2 a3_v (0 : Int32) _ _ _ hP hD hS (lv_sub hl [1, 4, 0] rfl) h
        · replace h := fb_f c7 h
          refine lv_aload_n hx hb dX3_measure_59 rfl (lv_at hl 0 rfl) ?_
          refine lv_aload_n hx hb dX3_measure_60 rfl (lv_at hl 1 rfl) ?_
          refine va_alen (v := (Int32.ofNat a1_n)) hx hb hK hP 6 5 rfl rfl rfl dX3_measure_61 ?_
          obtain ⟨u8, e8, h⟩ := fb_b h
          refine fb_cv (wc := [(o, .inr (3, [.ref o_counts, .ref o_sorted, .ref o_weight, .ref o_above, .ref o_depth, .int o_single])), (o_counts, .inl (o_counts_c, o_counts_n, .inl o_counts_v))]) (wr := [(o_sorted, .inl (o_sorted_c, o_sorted_n, .inl o_sorted_v)), (o_weight, .inl (o_weight_c, o_weight_n, .inl u6.2.1)), (o_above, .inl (o_above_c, o_above_n, .inl u6.2.2.1)), (o_depth, .inl (o_depth_c, o_depth_n, .inl u6.2.2.2)), (a1, .inl (a1_c, a1_n, .inl a1_v)), (a3, .inl (a3_c, a3_n, .inl a3_v))]) (w1 := [(o, .inr (3, [.ref o_counts, .ref o_sorted, .ref o_weight, .ref o_above, .ref o_depth, .int o_single])), (o_counts, .inl (o_counts_c, o_counts_n, .inl u8))]) (ws' := [(o, .inr (3, [.ref o_counts, .ref o_sorted, .ref o_weight, .ref o_above, .ref o_depth, .int o_single])), (o_counts, .inl (o_counts_c, o_counts_n, .inl u8)), (o_sorted, .inl (o_sorted_c, o_sorted_n, .inl o_sorted_v)), (o_weight, .inl (o_weight_c, o_weight_n, .inl u6.2.1)), (o_above, .inl (o_above_c, o_above_n, .inl u6.2.2.1)), (o_depth, .inl (o_depth_c, o_depth_n, .inl u6.2.2.2)), (a1, .inl (a1_c, a1_n, .inl a1_v)), (a3, .inl (a3_c, a3_n, .inl a3_v))]) (va_runV (As := [.int (Int32.ofNat a1_n)]) (rest := []) ⟨hx, hb, hml, hown, hts⟩ (mX3_halve l dC dI o o_counts o_sorted o_weight o_above o_depth o_counts_c o_counts_n o_single o_counts_v (Int32.ofNat a1_n) H.size u8 e8) (cwV 1 hts (fb_GV k_512 k_514 k_9 k_66 k_515) rfl rfl rfl hdX3_halve ⟨Nat.le_of_ble_eq_true rfl, Nat.le_of_ble_eq_true rfl⟩) (fb_pV hP hD hS hA hK hN hZ [0, 1] rfl rfl [0] rfl (q0 := 0) (ci := 3) rfl rfl) rfl rfl hl.1 rfl (lv_room (Nat.le_of_ble_eq_true rfl)) dX3_measure_62 ⟨Nat.le_of_ble_eq_true rfl, Nat.le_of_ble_eq_true rfl⟩) hP hD hS hA [0, 1] [2, 3, 4, 5, 6, 7] rfl rfl rfl (by decide) [6, 7, 0, 1, 2, 3, 4, 5] rfl rfl (fun H locs hP hD hS => ?_)
          refine lv_aload_n hx hb dX3_measure_65 rfl (lv_at hl 0 rfl) ?_
          refine lv_aload_n hx hb dX3_measure_66 rfl (lv_at hl 1 rfl) ?_
          refine va_alen (v := (Int32.ofNat a1_n)) hx hb hK hP 6 5 rfl rfl rfl dX3_measure_67 ?_
          obtain ⟨u9, e9, h⟩ := fb_b h
          refine fb_cv (wc := [(o, .inr (3, [.ref o_counts, .ref o_sorted, .ref o_weight, .ref o_above, .ref o_depth, .int o_single])), (o_counts, .inl (o_counts_c, o_counts_n, .inl u8)), (o_sorted, .inl (o_sorted_c, o_sorted_n, .inl o_sorted_v))]) (wr := [(o_weight, .inl (o_weight_c, o_weight_n, .inl u6.2.1)), (o_above, .inl (o_above_c, o_above_n, .inl u6.2.2.1)), (o_depth, .inl (o_depth_c, o_depth_n, .inl u6.2.2.2)), (a1, .inl (a1_c, a1_n, .inl a1_v)), (a3, .inl (a3_c, a3_n, .inl a3_v))]) (w1 := [(o, .inr (3, [.ref o_counts, .ref o_sorted, .ref o_weight, .ref o_above, .ref o_depth, .int u9.1])), (o_counts, .inl (o_counts_c, o_counts_n, .inl u8)), (o_sorted, .inl (o_sorted_c, o_sorted_n, .inl u9.2))]) (ws' := [(o, .inr (3, [.ref o_counts, .ref o_sorted, .ref o_weight, .ref o_above, .ref o_depth, .int u9.1])), (o_counts, .inl (o_counts_c, o_counts_n, .inl u8)), (o_sorted, .inl (o_sorted_c, o_sorted_n, .inl u9.2)), (o_weight, .inl (o_weight_c, o_weight_n, .inl u6.2.1)), (o_above, .inl (o_above_c, o_above_n, .inl u6.2.2.1)), (o_depth, .inl (o_depth_c, o_depth_n, .inl u6.2.2.2)), (a1, .inl (a1_c, a1_n, .inl a1_v)), (a3, .inl (a3_c, a3_n, .inl a3_v))]) (va_runV (As := [.int (Int32.ofNat a1_n)]) (rest := []) ⟨hx, hb, hml, hown, hts⟩ (mX3_sort l dC dI o o_counts o_sorted o_weight o_above o_depth o_counts_c o_sorted_c o_counts_n o_sorted_n o_single u8 o_sorted_v (Int32.ofNat a1_n) H.size u9 e9) (cwV 1 hts (fb_GV k_495 k_497 k_5 k_66 k_498) rfl rfl rfl hdX3_sort ⟨Nat.le_of_ble_eq_true rfl, Nat.le_of_ble_eq_true rfl⟩) (fb_pV hP hD hS hA hK hN hZ [0, 1, 2] rfl rfl [0, 1] rfl (q0 := 0) (ci := 3) rfl rfl) rfl rfl hl.1 rfl (lv_room (Nat.le_of_ble_eq_true rfl)) dX3_measure_68 ⟨Nat.le_of_ble_eq_true rfl, Nat.le_of_ble_eq_true rfl⟩) hP hD hS hA [0, 1, 2] [3, 4, 5, 6, 7] rfl rfl rfl (by decide) [5, 6, 7, 0, 1, 2, 3, 4] rfl rfl (fun H locs hP hD hS => ?_)
          refine lv_iinc (v := (x4 + (1 : Int32))) (lv' := [(4, .int (x4 + (1 : Int32))), (0, .ref o), (1, .ref a1), (2, .int x2), (3, .ref a3)]) hx hb dX3_measure_71 hl (k := 4) rfl rfl (by decide) rfl (fun ls hl => ?_)
          refine lv_goto (tgt := 44) hx hb dX3_measure_74 (by decide) ?_
          exact ih u9.1 u8 u9.2 u6.2.1 u6.2.2.1 u6.2.2.2 a3_v (x4 + (1 : Int32)) _ _ _ hP hD hS (lv_sub hl [1, 2, 3, 4, 0] rfl) h
  unfold pX3_measure at h
  refine lv_aload_n hx hb dX3_measure_0 rfl (lv_at hl 1 rfl) ?_
  refine lv_iconst (v := (0 : Int32)) hx hb dX3_measure_1 (by decide) ?_
  refine lv_aload_n hx hb dX3_measure_2 rfl (lv_at hl 0 rfl) ?_
  refine va_get (D := (dC, dI)) (ci := 3) (v := .ref o_counts) (C := RX3) (T := TX3) (N := 6) hx hb hts i_X3 hown hK hP 0 rfl rfl 0 (by decide) (hts _ k_130) (fun _ h9 => h9) rfl dX3_measure_3 ?_
  refine lv_iconst (v := (0 : Int32)) hx hb dX3_measure_6 (by decide) ?_
  refine lv_aload_n hx hb dX3_measure_7 rfl (lv_at hl 1 rfl) ?_
  refine va_alen (v := (Int32.ofNat a1_n)) hx hb hK hP 6 5 rfl rfl rfl dX3_measure_8 ?_
  obtain ⟨g10, h⟩ := fb_h h
  refine va_copyi (ty := .int) hx hb (hml.trans hl.1.symm) hown (hts _ k_491) (hts _ k_493) (hts _ k_492) (hts _ k_76) hK hP hD hS 6 1 5 0 rfl rfl rfl rfl rfl g10.1 g10.2.1 g10.2.2.1 g10.2.2.2.1 g10.2.2.2.2 (fun _ _ => rfl) (Nat.le_of_ble_eq_true rfl) (Nat.le_of_ble_eq_true rfl) dX3_measure_9 (fun H locs hP hD hS => ?_)
  replace hP : va_P (dC, dI) fb_cl [(o, .inr (3, [.ref o_counts, .ref o_sorted, .ref o_weight, .ref o_above, .ref o_depth, .int o_single])), (o_counts, .inl (o_counts_c, o_counts_n, .inl (va_cpy a1_v o_counts_v ((0 : Int32)).toNatClampNeg ((0 : Int32)).toNatClampNeg ((Int32.ofNat a1_n)).toNatClampNeg))), (o_sorted, .inl (o_sorted_c, o_sorted_n, .inl o_sorted_v)), (o_weight, .inl (o_weight_c, o_weight_n, .inl o_weight_v)), (o_above, .inl (o_above_c, o_above_n, .inl o_above_v)), (o_depth, .inl (o_depth_c, o_depth_n, .inl o_depth_v)), (a1, .inl (a1_c, a1_n, .inl a1_v)), (a3, .inl (a3_c, a3_n, .inl a3_v))] H := hP
  replace hD : va_D A [(o, .inr (3, [.ref o_counts, .ref o_sorted, .ref o_weight, .ref o_above, .ref o_depth, .int o_single])), (o_counts, .inl (o_counts_c, o_counts_n, .inl (va_cpy a1_v o_counts_v ((0 : Int32)).toNatClampNeg ((0 : Int32)).toNatClampNeg ((Int32.ofNat a1_n)).toNatClampNeg))), (o_sorted, .inl (o_sorted_c, o_sorted_n, .inl o_sorted_v)), (o_weight, .inl (o_weight_c, o_weight_n, .inl o_weight_v)), (o_above, .inl (o_above_c, o_above_n, .inl o_above_v)), (o_depth, .inl (o_depth_c, o_depth_n, .inl o_depth_v)), (a1, .inl (a1_c, a1_n, .inl a1_v)), (a3, .inl (a3_c, a3_n, .inl a3_v))] := hD
  refine lv_aload_n hx hb dX3_measure_12 rfl (lv_at hl 3 rfl) ?_
  refine lv_iconst (v := (0 : Int32)) hx hb dX3_measure_13 (by decide) ?_
  obtain ⟨u11, e11, h⟩ := fb_b h
  refine fb_cv (wc := [(a3, .inl (a3_c, a3_n, .inl a3_v))]) (wr := [(o, .inr (3, [.ref o_counts, .ref o_sorted, .ref o_weight, .ref o_above, .ref o_depth, .int o_single])), (o_counts, .inl (o_counts_c, o_counts_n, .inl (va_cpy a1_v o_counts_v ((0 : Int32)).toNatClampNeg ((0 : Int32)).toNatClampNeg ((Int32.ofNat a1_n)).toNatClampNeg))), (o_sorted, .inl (o_sorted_c, o_sorted_n, .inl o_sorted_v)), (o_weight, .inl (o_weight_c, o_weight_n, .inl o_weight_v)), (o_above, .inl (o_above_c, o_above_n, .inl o_above_v)), (o_depth, .inl (o_depth_c, o_depth_n, .inl o_depth_v)), (a1, .inl (a1_c, a1_n, .inl a1_v))]) (w1 := [(a3, .inl (a3_c, a3_n, .inl u11))]) (ws' := [(o, .inr (3, [.ref o_counts, .ref o_sorted, .ref o_weight, .ref o_above, .ref o_depth, .int o_single])), (o_counts, .inl (o_counts_c, o_counts_n, .inl (va_cpy a1_v o_counts_v ((0 : Int32)).toNatClampNeg ((0 : Int32)).toNatClampNeg ((Int32.ofNat a1_n)).toNatClampNeg))), (o_sorted, .inl (o_sorted_c, o_sorted_n, .inl o_sorted_v)), (o_weight, .inl (o_weight_c, o_weight_n, .inl o_weight_v)), (o_above, .inl (o_above_c, o_above_n, .inl o_above_v)), (o_depth, .inl (o_depth_c, o_depth_n, .inl o_depth_v)), (a1, .inl (a1_c, a1_n, .inl a1_v)), (a3, .inl (a3_c, a3_n, .inl u11))]) (va_runS (As := [.ref a3, .int (0 : Int32)]) (rest := []) ⟨hx, hb, hml, hown, hts⟩ (mJ7_fill_53178 l dC dI a3 a3_c a3_n a3_v (0 : Int32) H.size u11 e11) (va_cwS 2 hts (fb_GSx k_494 k_438 k_75 k_439) rfl rfl rfl hdJ7_fill_53178 ⟨Nat.le_of_ble_eq_true rfl, Nat.le_of_ble_eq_true rfl⟩) (fb_pS hP hD hS hA hK hN hZ [7] rfl rfl [6] rfl) rfl rfl hl.1 rfl (lv_room (Nat.le_of_ble_eq_true rfl)) dX3_measure_14 ⟨Nat.le_of_ble_eq_true rfl, Nat.le_of_ble_eq_true rfl⟩) hP hD hS hA [7] [0, 1, 2, 3, 4, 5, 6] rfl rfl rfl (by decide) [0, 1, 2, 3, 4, 5, 6, 7] rfl rfl (fun H locs hP hD hS => ?_)
  refine lv_aload_n hx hb dX3_measure_17 rfl (lv_at hl 0 rfl) ?_
  refine lv_aload_n hx hb dX3_measure_18 rfl (lv_at hl 1 rfl) ?_
  refine va_alen (v := (Int32.ofNat a1_n)) hx hb hK hP 6 5 rfl rfl rfl dX3_measure_19 ?_
  obtain ⟨u12, e12, h⟩ := fb_b h
  refine fb_cv (wc := [(o, .inr (3, [.ref o_counts, .ref o_sorted, .ref o_weight, .ref o_above, .ref o_depth, .int o_single])), (o_counts, .inl (o_counts_c, o_counts_n, .inl (va_cpy a1_v o_counts_v ((0 : Int32)).toNatClampNeg ((0 : Int32)).toNatClampNeg ((Int32.ofNat a1_n)).toNatClampNeg))), (o_sorted, .inl (o_sorted_c, o_sorted_n, .inl o_sorted_v))]) (wr := [(o_weight, .inl (o_weight_c, o_weight_n, .inl o_weight_v)), (o_above, .inl (o_above_c, o_above_n, .inl o_above_v)), (o_depth, .inl (o_depth_c, o_depth_n, .inl o_depth_v)), (a1, .inl (a1_c, a1_n, .inl a1_v)), (a3, .inl (a3_c, a3_n, .inl u11))]) (w1 := [(o, .inr (3, [.ref o_counts, .ref o_sorted, .ref o_weight, .ref o_above, .ref o_depth, .int u12.1])), (o_counts, .inl (o_counts_c, o_counts_n, .inl (va_cpy a1_v o_counts_v ((0 : Int32)).toNatClampNeg ((0 : Int32)).toNatClampNeg ((Int32.ofNat a1_n)).toNatClampNeg))), (o_sorted, .inl (o_sorted_c, o_sorted_n, .inl u12.2))]) (ws' := [(o, .inr (3, [.ref o_counts, .ref o_sorted, .ref o_weight, .ref o_above, .ref o_depth, .int u12.1])), (o_counts, .inl (o_counts_c, o_counts_n, .inl (va_cpy a1_v o_counts_v ((0 : Int32)).toNatClampNeg ((0 : Int32)).toNatClampNeg ((Int32.ofNat a1_n)).toNatClampNeg))), (o_sorted, .inl (o_sorted_c, o_sorted_n, .inl u12.2)), (o_weight, .inl (o_weight_c, o_weight_n, .inl o_weight_v)), (o_above, .inl (o_above_c, o_above_n, .inl o_above_v)), (o_depth, .inl (o_depth_c, o_depth_n, .inl o_depth_v)), (a1, .inl (a1_c, a1_n, .inl a1_v)), (a3, .inl (a3_c, a3_n, .inl u11))]) (va_runV (As := [.int (Int32.ofNat a1_n)]) (rest := []) ⟨hx, hb, hml, hown, hts⟩ (mX3_sort l dC dI o o_counts o_sorted o_weight o_above o_depth o_counts_c o_sorted_c o_counts_n o_sorted_n o_single (va_cpy a1_v o_counts_v ((0 : Int32)).toNatClampNeg ((0 : Int32)).toNatClampNeg ((Int32.ofNat a1_n)).toNatClampNeg) o_sorted_v (Int32.ofNat a1_n) H.size u12 e12) (cwV 1 hts (fb_GV k_495 k_497 k_5 k_66 k_498) rfl rfl rfl hdX3_sort ⟨Nat.le_of_ble_eq_true rfl, Nat.le_of_ble_eq_true rfl⟩) (fb_pV hP hD hS hA hK hN hZ [0, 1, 2] rfl rfl [0, 1] rfl (q0 := 0) (ci := 3) rfl rfl) rfl rfl hl.1 rfl (lv_room (Nat.le_of_ble_eq_true rfl)) dX3_measure_20 ⟨Nat.le_of_ble_eq_true rfl, Nat.le_of_ble_eq_true rfl⟩) hP hD hS hA [0, 1, 2] [3, 4, 5, 6, 7] rfl rfl rfl (by decide) [5, 6, 7, 0, 1, 2, 3, 4] rfl rfl (fun H locs hP hD hS => ?_)
  refine lv_aload_n hx hb dX3_measure_23 rfl (lv_at hl 0 rfl) ?_
  refine va_get (D := (dC, dI)) (ci := 3) (v := .int u12.1) (C := RX3) (T := TX3) (N := 6) hx hb hts i_X3 hown hK hP 0 rfl rfl 5 (by decide) (hts _ k_135) (fun _ h9 => h9) rfl dX3_measure_24 ?_
  refine lv_iconst (v := (1 : Int32)) hx hb dX3_measure_27 (by decide) ?_
  refine lv_icmp_ne (tgt := 41) hx hb dX3_measure_28 (by decide) (fun c13 => ?_) (fun c13 => ?_)
  · replace h := fb_f c13 h
    refine lv_iconst (v := (0 : Int32)) hx hb dX3_measure_41 (by decide) ?_
    refine lv_istore (lv' := [(4, .int (0 : Int32)), (0, .ref o), (1, .ref a1), (2, .int x2), (3, .ref a3)]) hx hb dX3_measure_42 hl (by decide) rfl (fun ls hl => ?_)
    exact wB44 fb_F u12.1 (va_cpy a1_v o_counts_v ((0 : Int32)).toNatClampNeg ((0 : Int32)).toNatClampNeg ((Int32.ofNat a1_n)).toNatClampNeg) u12.2 o_weight_v o_above_v o_depth_v u11 (0 : Int32) _ _ _ hP hD hS (lv_sub hl [1, 2, 3, 4, 0] rfl) h
  · replace h := fb_t c13 h
    refine lv_aload_n hx hb dX3_measure_31 rfl (lv_at hl 3 rfl) ?_
    refine lv_aload_n hx hb dX3_measure_32 rfl (lv_at hl 0 rfl) ?_
    refine va_get (D := (dC, dI)) (ci := 3) (v := .ref o_sorted) (C := RX3) (T := TX3) (N := 6) hx hb hts i_X3 hown hK hP 0 rfl rfl 1 (by decide) (hts _ k_131) (fun _ h9 => h9) rfl dX3_measure_33 ?_
    refine lv_iconst (v := (0 : Int32)) hx hb dX3_measure_36 (by decide) ?_
    obtain ⟨g14, h⟩ := fb_g h
    refine va_iald hx hb hK hP 2 1 rfl rfl g14 dX3_measure_37 ?_
    refine lv_iconst (v := (1 : Int32)) hx hb dX3_measure_38 (by decide) ?_
    obtain ⟨g15, h⟩ := fb_g h
    refine va_iast hx hb hK hP hD hS 7 6 rfl rfl g15 dX3_measure_39 (fun H locs hP hD hS => ?_)
    replace hP : va_P (dC, dI) fb_cl [(o, .inr (3, [.ref o_counts, .ref o_sorted, .ref o_weight, .ref o_above, .ref o_depth, .int u12.1])), (o_counts, .inl (o_counts_c, o_counts_n, .inl (va_cpy a1_v o_counts_v ((0 : Int32)).toNatClampNeg ((0 : Int32)).toNatClampNeg ((Int32.ofNat a1_n)).toNatClampNeg))), (o_sorted, .inl (o_sorted_c, o_sorted_n, .inl u12.2)), (o_weight, .inl (o_weight_c, o_weight_n, .inl o_weight_v)), (o_above, .inl (o_above_c, o_above_n, .inl o_above_v)), (o_depth, .inl (o_depth_c, o_depth_n, .inl o_depth_v)), (a1, .inl (a1_c, a1_n, .inl a1_v)), (a3, .inl (a3_c, a3_n, .inl (upd u11 ((u12.2 ((0 : Int32)).toNatClampNeg)).toNatClampNeg (1 : Int32))))] H := hP
    replace hD : va_D A [(o, .inr (3, [.ref o_counts, .ref o_sorted, .ref o_weight, .ref o_above, .ref o_depth, .int u12.1])), (o_counts, .inl (o_counts_c, o_counts_n, .inl (va_cpy a1_v o_counts_v ((0 : Int32)).toNatClampNeg ((0 : Int32)).toNatClampNeg ((Int32.ofNat a1_n)).toNatClampNeg))), (o_sorted, .inl (o_sorted_c, o_sorted_n, .inl u12.2)), (o_weight, .inl (o_weight_c, o_weight_n, .inl o_weight_v)), (o_above, .inl (o_above_c, o_above_n, .inl o_above_v)), (o_depth, .inl (o_depth_c, o_depth_n, .inl o_depth_v)), (a1, .inl (a1_c, a1_n, .inl a1_v)), (a3, .inl (a3_c, a3_n, .inl (upd u11 ((u12.2 ((0 : Int32)).toNatClampNeg)).toNatClampNeg (1 : Int32))))] := hD
    have hu := Option.some.inj h
    exact hret _ _ _ _ dX3_measure_40 (by rw [← hu]; exact hP) (by rw [← hu]; exact hD) hS
theorem dX4_forget_0 : decode cX4_forget 0 = .ok (.aload_n 0, 1) := by decide +kernel
theorem dX4_forget_1 : decode cX4_forget 1 = .ok (.iconst 0, 1) := by decide +kernel
theorem dX4_forget_2 : decode cX4_forget 2 = .ok (.putfield 32, 3) := by decide +kernel
theorem dX4_forget_5 : decode cX4_forget 5 = .ok (.aload_n 0, 1) := by decide +kernel
theorem dX4_forget_6 : decode cX4_forget 6 = .ok (.getfield 11, 3) := by decide +kernel
theorem dX4_forget_9 : decode cX4_forget 9 = .ok (.iconst 0, 1) := by decide +kernel
theorem dX4_forget_10 : decode cX4_forget 10 = .ok (.invokestatic 35, 3) := by decide +kernel
theorem dX4_forget_13 : decode cX4_forget 13 = .ok (.return_, 1) := by decide +kernel
def pX4_forget (o_latest_n : Nat)  (o_latest_v : Nat → Int32) : Option (Int32 × (Nat → Int32)) :=
  (pJ7_fill_53178 o_latest_n (0 : Int32) o_latest_v).bind (fun u1 =>
  some ((0 : Int32), u1))
theorem hdX4_forget : yX4_forget.cls = RX4 ∧ yX4_forget.cls ≠ "java/lang/invoke/MethodHandle" ∧ yX4_forget.cls ≠ "java/lang/invoke/VarHandle" ∧ (parseMethodDescriptor yX4_forget.desc).map (fun d => d.parameters.length) = some 0 := by decide +kernel
set_option maxHeartbeats 8000000 in
set_option maxRecDepth 100000 in
theorem mX4_forget (l : Launch) (dC : Nat → ClassId) (dI : Nat → Nat → Nat) (o : Nat) (o_latest : Nat) (o_text : Nat) (o_earlier : Nat) (o_latest_c : ClassId) (o_latest_n : Nat) (o_chain : Int32) (o_linked : Int32) (o_length : Int32) (o_distance : Int32) (o_latest_v : Nat → Int32)  (sz : Nat) (u : Int32 × (Nat → Int32)) (h : pX4_forget o_latest_n o_latest_v = some u) : Met l yX4_forget (Cond.code yX4_forget cX4_forget 1 none :: fb_tb) ({ frames := 1, cells := 0, slots := 0, locals := 23 }) (fb_Pc (dC, dI) [.ref o] sz [(o_latest_c, .int)] [(o, .inr (4, [.ref o_text, .int o_chain, .ref o_latest, .ref o_earlier, .int o_linked, .int o_length, .int o_distance])), (o_latest, .inl (o_latest_c, o_latest_n, .inl o_latest_v))]) (fb_Qv (dC, dI) [(o, .inr (4, [.ref o_text, .int o_chain, .ref o_latest, .ref o_earlier, .int u.1, .int o_length, .int o_distance])), (o_latest, .inl (o_latest_c, o_latest_n, .inl u.2))] (va_A [(o, .inr (4, [.ref o_text, .int o_chain, .ref o_latest, .ref o_earlier, .int o_linked, .int o_length, .int o_distance])), (o_latest, .inl (o_latest_c, o_latest_n, .inl o_latest_v))] sz)) 0 0 (va_A [(o, .inr (4, [.ref o_text, .int o_chain, .ref o_latest, .ref o_earlier, .int o_linked, .int o_length, .int o_distance])), (o_latest, .inl (o_latest_c, o_latest_n, .inl o_latest_v))] sz) := by
  refine fb_metv (by decide) (Nat.le_of_ble_eq_true rfl) (fun p e s m args below meth c A Q ls H hx hb hml hown hts hP hK hN hZ hD hA hS hret hl => ?_)
  replace hl : lv_has ls 1 [(0, .ref o)] := hl
  unfold pX4_forget at h
  refine lv_aload_n hx hb dX4_forget_0 rfl (lv_at hl 0 rfl) ?_
  refine lv_iconst (v := (0 : Int32)) hx hb dX4_forget_1 (by decide) ?_
  refine va_put (D := (dC, dI)) (ci := 4) (v := .int (0 : Int32)) (ty := .int) (C := RX4) (T := TX4) (N := 7) hx hb hts i_X4 tyX4 tyX4_ok nmX4 hown hK hP hD hS 0 rfl rfl 4 (by decide) (hts _ k_242) (fun _ h9 => h9) rfl (by decide +kernel) rfl rfl (Nat.le_of_ble_eq_true rfl) dX4_forget_2 (fun H locs hP hD hS => ?_)
  replace hP : va_P (dC, dI) fb_cl [(o, .inr (4, [.ref o_text, .int o_chain, .ref o_latest, .ref o_earlier, .int (0 : Int32), .int o_length, .int o_distance])), (o_latest, .inl (o_latest_c, o_latest_n, .inl o_latest_v))] H := hP
  replace hD : va_D A [(o, .inr (4, [.ref o_text, .int o_chain, .ref o_latest, .ref o_earlier, .int (0 : Int32), .int o_length, .int o_distance])), (o_latest, .inl (o_latest_c, o_latest_n, .inl o_latest_v))] := hD
  refine lv_aload_n hx hb dX4_forget_5 rfl (lv_at hl 0 rfl) ?_
  refine va_get (D := (dC, dI)) (ci := 4) (v := .ref o_latest) (C := RX4) (T := TX4) (N := 7) hx hb hts i_X4 hown hK hP 0 rfl rfl 2 (by decide) (hts _ k_240) (fun _ h9 => h9) rfl dX4_forget_6 ?_
  refine lv_iconst (v := (0 : Int32)) hx hb dX4_forget_9 (by decide) ?_
  obtain ⟨u1, e1, h⟩ := fb_b h
  refine fb_cv (wc := [(o_latest, .inl (o_latest_c, o_latest_n, .inl o_latest_v))]) (wr := [(o, .inr (4, [.ref o_text, .int o_chain, .ref o_latest, .ref o_earlier, .int (0 : Int32), .int o_length, .int o_distance]))]) (w1 := [(o_latest, .inl (o_latest_c, o_latest_n, .inl u1))]) (ws' := [(o, .inr (4, [.ref o_text, .int o_chain, .ref o_latest, .ref o_earlier, .int (0 : Int32), .int o_length, .int o_distance])), (o_latest, .inl (o_latest_c, o_latest_n, .inl u1))]) (va_runS (As := [.ref o_latest, .int (0 : Int32)]) (rest := []) ⟨hx, hb, hml, hown, hts⟩ (mJ7_fill_53178 l dC dI o_latest o_latest_c o_latest_n o_latest_v (0 : Int32) H.size u1 e1) (va_cwS 2 hts (fb_GSx k_818 k_438 k_75 k_439) rfl rfl rfl hdJ7_fill_53178 ⟨Nat.le_of_ble_eq_true rfl, Nat.le_of_ble_eq_true rfl⟩) (fb_pS hP hD hS hA hK hN hZ [1] rfl rfl [0] rfl) rfl rfl hl.1 rfl (lv_room (Nat.le_of_ble_eq_true rfl)) dX4_forget_10 ⟨Nat.le_of_ble_eq_true rfl, Nat.le_of_ble_eq_true rfl⟩) hP hD hS hA [1] [0] rfl rfl rfl (by decide) [0, 1] rfl rfl (fun H locs hP hD hS => ?_)
  have hu := Option.some.inj h
  exact hret _ _ _ _ dX4_forget_13 (by rw [← hu]; exact hP) (by rw [← hu]; exact hD) hS
theorem dX6_get_0 : decode cX6_get 0 = .ok (.iload_n 1, 1) := by decide +kernel
theorem dX6_get_1 : decode cX6_get 1 = .ok (.ifCond .lt 24, 3) := by decide +kernel
theorem dX6_get_4 : decode cX6_get 4 = .ok (.iload_n 1, 1) := by decide +kernel
theorem dX6_get_5 : decode cX6_get 5 = .ok (.aload_n 0, 1) := by decide +kernel
theorem dX6_get_6 : decode cX6_get 6 = .ok (.getfield 15, 3) := by decide +kernel
theorem dX6_get_9 : decode cX6_get 9 = .ok (.if_icmp .ge 16, 3) := by decide +kernel
theorem dX6_get_12 : decode cX6_get 12 = .ok (.aload_n 0, 1) := by decide +kernel
theorem dX6_get_13 : decode cX6_get 13 = .ok (.getfield 9, 3) := by decide +kernel
theorem dX6_get_16 : decode cX6_get 16 = .ok (.iload_n 1, 1) := by decide +kernel
theorem dX6_get_17 : decode cX6_get 17 = .ok (.baload, 1) := by decide +kernel
theorem dX6_get_18 : decode cX6_get 18 = .ok (.sipush 255, 3) := by decide +kernel
theorem dX6_get_21 : decode cX6_get 21 = .ok (.iand, 1) := by decide +kernel
theorem dX6_get_22 : decode cX6_get 22 = .ok (.goto 4, 3) := by decide +kernel
theorem dX6_get_25 : decode cX6_get 25 = .ok (.iconst (-1), 1) := by decide +kernel
theorem dX6_get_26 : decode cX6_get 26 = .ok (.ireturn, 1) := by decide +kernel
def pX6_get (o_bytes_n : Nat) (o_size : Int32) (o_bytes_v : Nat → Int32) (x1 : Int32)   : Option (Int32) :=
  if x1 < 0 then
  (some ((-1 : Int32)))
  else
  (if o_size ≤ x1 then
  (some ((-1 : Int32)))
  else
  (if x1 < 0 ∨ o_bytes_n ≤ (x1).toNatClampNeg then none else
  some (((o_bytes_v (x1).toNatClampNeg) &&& (255 : Int32)))))
theorem hdX6_get : yX6_get.cls = RX6 ∧ yX6_get.cls ≠ "java/lang/invoke/MethodHandle" ∧ yX6_get.cls ≠ "java/lang/invoke/VarHandle" ∧ (parseMethodDescriptor yX6_get.desc).map (fun d => d.parameters.length) = some 1 := by decide +kernel
set_option maxHeartbeats 8000000 in
set_option maxRecDepth 100000 in
theorem mX6_get (l : Launch) (dC : Nat → ClassId) (dI : Nat → Nat → Nat) (o : Nat) (o_bytes : Nat) (o_bytes_c : ClassId) (o_bytes_n : Nat) (o_size : Int32) (o_bytes_v : Nat → Int32) (x1 : Int32) (sz : Nat) (u : Int32) (h : pX6_get o_bytes_n o_size o_bytes_v x1 = some u) : Met l yX6_get (Cond.code yX6_get cX6_get 2 (some .int) :: fb_tb) ({ frames := 0, cells := 0, slots := 0, locals := 0 }) (fb_Pc (dC, dI) [.ref o, .int x1] sz [(o_bytes_c, .byte)] [(o, .inr (6, [.ref o_bytes, .int o_size])), (o_bytes, .inl (o_bytes_c, o_bytes_n, .inl o_bytes_v))]) (fb_Qi (dC, dI) u [(o, .inr (6, [.ref o_bytes, .int o_size])), (o_bytes, .inl (o_bytes_c, o_bytes_n, .inl o_bytes_v))] (va_A [(o, .inr (6, [.ref o_bytes, .int o_size])), (o_bytes, .inl (o_bytes_c, o_bytes_n, .inl o_bytes_v))] sz)) 0 0 (va_A [(o, .inr (6, [.ref o_bytes, .int o_size])), (o_bytes, .inl (o_bytes_c, o_bytes_n, .inl o_bytes_v))] sz) := by
  refine fb_meti (ty := .int) (by decide) (Nat.le_of_ble_eq_true rfl) (fun p e s m args below meth c A Q ls H hx hb hml hown hts hP hK hN hZ hD hA hS hret hl => ?_)
  replace hl : lv_has ls 2 [(0, .ref o), (1, .int x1)] := hl
  unfold pX6_get at h
  refine lv_iload_n hx hb dX6_get_0 rfl (lv_at hl 1 rfl) ?_
  refine lv_if_lt (tgt := 25) hx hb dX6_get_1 (by decide) (fun c1 => ?_) (fun c1 => ?_)
  · replace h := fb_t c1 h
    refine lv_iconst (v := (-1 : Int32)) hx hb dX6_get_25 (by decide) ?_
    have hu := Option.some.inj h
    exact hret _ _ _ _ _ dX6_get_26 rfl (by rw [← hu]) hP hD hS
  · replace h := fb_f c1 h
    refine lv_iload_n hx hb dX6_get_4 rfl (lv_at hl 1 rfl) ?_
    refine lv_aload_n hx hb dX6_get_5 rfl (lv_at hl 0 rfl) ?_
    refine va_get (D := (dC, dI)) (ci := 6) (v := .int o_size) (C := RX6) (T := TX6) (N := 2) hx hb hts i_X6 hown hK hP 0 rfl rfl 1 (by decide) (hts _ k_106) (fun _ h9 => h9) rfl dX6_get_6 ?_
    refine lv_icmp_ge (tgt := 25) hx hb dX6_get_9 (by decide) (fun c2 => ?_) (fun c2 => ?_)
    · replace h := fb_t c2 h
      refine lv_iconst (v := (-1 : Int32)) hx hb dX6_get_25 (by decide) ?_
      have hu := Option.some.inj h
      exact hret _ _ _ _ _ dX6_get_26 rfl (by rw [← hu]) hP hD hS
    · replace h := fb_f c2 h
      refine lv_aload_n hx hb dX6_get_12 rfl (lv_at hl 0 rfl) ?_
      refine va_get (D := (dC, dI)) (ci := 6) (v := .ref o_bytes) (C := RX6) (T := TX6) (N := 2) hx hb hts i_X6 hown hK hP 0 rfl rfl 0 (by decide) (hts _ k_102) (fun _ h9 => h9) rfl dX6_get_13 ?_
      refine lv_iload_n hx hb dX6_get_16 rfl (lv_at hl 1 rfl) ?_
      obtain ⟨g3, h⟩ := fb_g h
      refine va_bald hx hb hK hP 1 0 rfl rfl g3 dX6_get_17 ?_
      refine lv_sipush (v := (255 : Int32)) hx hb dX6_get_18 (by decide) ?_
      refine lv_iand hx hb dX6_get_21 ?_
      refine lv_goto (tgt := 26) hx hb dX6_get_22 (by decide) ?_
      have hu := Option.some.inj h
      exact hret _ _ _ _ _ dX6_get_26 rfl (by rw [← hu]) hP hD hS
theorem dX4_slot_0 : decode cX4_slot 0 = .ok (.aload_n 0, 1) := by decide +kernel
theorem dX4_slot_1 : decode cX4_slot 1 = .ok (.getfield 15, 3) := by decide +kernel
theorem dX4_slot_4 : decode cX4_slot 4 = .ok (.iload_n 1, 1) := by decide +kernel
theorem dX4_slot_5 : decode cX4_slot 5 = .ok (.invokevirtual 48, 3) := by decide +kernel
theorem dX4_slot_8 : decode cX4_slot 8 = .ok (.bipush 16, 2) := by decide +kernel
theorem dX4_slot_10 : decode cX4_slot 10 = .ok (.ishl, 1) := by decide +kernel
theorem dX4_slot_11 : decode cX4_slot 11 = .ok (.aload_n 0, 1) := by decide +kernel
theorem dX4_slot_12 : decode cX4_slot 12 = .ok (.getfield 15, 3) := by decide +kernel
theorem dX4_slot_15 : decode cX4_slot 15 = .ok (.iload_n 1, 1) := by decide +kernel
theorem dX4_slot_16 : decode cX4_slot 16 = .ok (.iconst 1, 1) := by decide +kernel
theorem dX4_slot_17 : decode cX4_slot 17 = .ok (.iadd, 1) := by decide +kernel
theorem dX4_slot_18 : decode cX4_slot 18 = .ok (.invokevirtual 48, 3) := by decide +kernel
theorem dX4_slot_21 : decode cX4_slot 21 = .ok (.bipush 8, 2) := by decide +kernel
theorem dX4_slot_23 : decode cX4_slot 23 = .ok (.ishl, 1) := by decide +kernel
theorem dX4_slot_24 : decode cX4_slot 24 = .ok (.ior, 1) := by decide +kernel
theorem dX4_slot_25 : decode cX4_slot 25 = .ok (.aload_n 0, 1) := by decide +kernel
theorem dX4_slot_26 : decode cX4_slot 26 = .ok (.getfield 15, 3) := by decide +kernel
theorem dX4_slot_29 : decode cX4_slot 29 = .ok (.iload_n 1, 1) := by decide +kernel
theorem dX4_slot_30 : decode cX4_slot 30 = .ok (.iconst 2, 1) := by decide +kernel
theorem dX4_slot_31 : decode cX4_slot 31 = .ok (.iadd, 1) := by decide +kernel
theorem dX4_slot_32 : decode cX4_slot 32 = .ok (.invokevirtual 48, 3) := by decide +kernel
theorem dX4_slot_35 : decode cX4_slot 35 = .ok (.ior, 1) := by decide +kernel
theorem dX4_slot_36 : decode cX4_slot 36 = .ok (.istore_n 2, 1) := by decide +kernel
theorem dX4_slot_37 : decode cX4_slot 37 = .ok (.iload_n 2, 1) := by decide +kernel
theorem dX4_slot_38 : decode cX4_slot 38 = .ok (.ldc 51, 2) := by decide +kernel
theorem dX4_slot_40 : decode cX4_slot 40 = .ok (.imul, 1) := by decide +kernel
theorem dX4_slot_41 : decode cX4_slot 41 = .ok (.bipush 20, 2) := by decide +kernel
theorem dX4_slot_43 : decode cX4_slot 43 = .ok (.iushr, 1) := by decide +kernel
theorem dX4_slot_44 : decode cX4_slot 44 = .ok (.ireturn, 1) := by decide +kernel
def pX4_slot (o_text_bytes_n : Nat) (o_text_size : Int32) (o_text_bytes_v : Nat → Int32) (x1 : Int32)   : Option (Int32) :=
  (pX6_get o_text_bytes_n o_text_size o_text_bytes_v x1).bind (fun u1 =>
  (pX6_get o_text_bytes_n o_text_size o_text_bytes_v (x1 + (1 : Int32))).bind (fun u2 =>
  (pX6_get o_text_bytes_n o_text_size o_text_bytes_v (x1 + (2 : Int32))).bind (fun u3 =>
  some ((((((((u1 <<< ((16 : Int32) &&& 31)) ||| (u2 <<< ((8 : Int32) &&& 31))) ||| u3) * (-1640531535 : Int32))).toUInt32 >>> (((20 : Int32)).toUInt32 &&& Int32.toUInt32 31)).toInt32)))))
theorem hdX4_slot : yX4_slot.cls = RX4 ∧ yX4_slot.cls ≠ "java/lang/invoke/MethodHandle" ∧ yX4_slot.cls ≠ "java/lang/invoke/VarHandle" ∧ (parseMethodDescriptor yX4_slot.desc).map (fun d => d.parameters.length) = some 1 := by decide +kernel
set_option maxHeartbeats 8000000 in
set_option maxRecDepth 100000 in
theorem mX4_slot (l : Launch) (dC : Nat → ClassId) (dI : Nat → Nat → Nat) (o : Nat) (o_text : Nat) (o_text_bytes : Nat) (o_latest : Nat) (o_earlier : Nat) (o_text_bytes_c : ClassId) (o_text_bytes_n : Nat) (o_chain : Int32) (o_linked : Int32) (o_length : Int32) (o_distance : Int32) (o_text_size : Int32) (o_text_bytes_v : Nat → Int32) (x1 : Int32) (sz : Nat) (u : Int32) (h : pX4_slot o_text_bytes_n o_text_size o_text_bytes_v x1 = some u) : Met l yX4_slot (Cond.code yX4_slot cX4_slot 3 (some .int) :: fb_tb) ({ frames := 1, cells := 0, slots := 0, locals := 21 }) (fb_Pc (dC, dI) [.ref o, .int x1] sz [(o_text_bytes_c, .byte)] [(o, .inr (4, [.ref o_text, .int o_chain, .ref o_latest, .ref o_earlier, .int o_linked, .int o_length, .int o_distance])), (o_text, .inr (6, [.ref o_text_bytes, .int o_text_size])), (o_text_bytes, .inl (o_text_bytes_c, o_text_bytes_n, .inl o_text_bytes_v))]) (fb_Qi (dC, dI) u [(o, .inr (4, [.ref o_text, .int o_chain, .ref o_latest, .ref o_earlier, .int o_linked, .int o_length, .int o_distance])), (o_text, .inr (6, [.ref o_text_bytes, .int o_text_size])), (o_text_bytes, .inl (o_text_bytes_c, o_text_bytes_n, .inl o_text_bytes_v))] (va_A [(o, .inr (4, [.ref o_text, .int o_chain, .ref o_latest, .ref o_earlier, .int o_linked, .int o_length, .int o_distance])), (o_text, .inr (6, [.ref o_text_bytes, .int o_text_size])), (o_text_bytes, .inl (o_text_bytes_c, o_text_bytes_n, .inl o_text_bytes_v))] sz)) 0 0 (va_A [(o, .inr (4, [.ref o_text, .int o_chain, .ref o_latest, .ref o_earlier, .int o_linked, .int o_length, .int o_distance])), (o_text, .inr (6, [.ref o_text_bytes, .int o_text_size])), (o_text_bytes, .inl (o_text_bytes_c, o_text_bytes_n, .inl o_text_bytes_v))] sz) := by
  refine fb_meti (ty := .int) (by decide) (Nat.le_of_ble_eq_true rfl) (fun p e s m args below meth c A Q ls H hx hb hml hown hts hP hK hN hZ hD hA hS hret hl => ?_)
  replace hl : lv_has ls 3 [(0, .ref o), (1, .int x1)] := hl
  unfold pX4_slot at h
  refine lv_aload_n hx hb dX4_slot_0 rfl (lv_at hl 0 rfl) ?_
  refine va_get (D := (dC, dI)) (ci := 4) (v := .ref o_text) (C := RX4) (T := TX4) (N := 7) hx hb hts i_X4 hown hK hP 0 rfl rfl 0 (by decide) (hts _ k_238) (fun _ h9 => h9) rfl dX4_slot_1 ?_
  refine lv_iload_n hx hb dX4_slot_4 rfl (lv_at hl 1 rfl) ?_
  obtain ⟨u1, e1, h⟩ := fb_b h
  refine fb_ci (wc := [(o_text, .inr (6, [.ref o_text_bytes, .int o_text_size])), (o_text_bytes, .inl (o_text_bytes_c, o_text_bytes_n, .inl o_text_bytes_v))]) (wr := [(o, .inr (4, [.ref o_text, .int o_chain, .ref o_latest, .ref o_earlier, .int o_linked, .int o_length, .int o_distance]))]) (w1 := [(o_text, .inr (6, [.ref o_text_bytes, .int o_text_size])), (o_text_bytes, .inl (o_text_bytes_c, o_text_bytes_n, .inl o_text_bytes_v))]) (ws' := [(o, .inr (4, [.ref o_text, .int o_chain, .ref o_latest, .ref o_earlier, .int o_linked, .int o_length, .int o_distance])), (o_text, .inr (6, [.ref o_text_bytes, .int o_text_size])), (o_text_bytes, .inl (o_text_bytes_c, o_text_bytes_n, .inl o_text_bytes_v))]) (va_runV (As := [.int x1]) (rest := []) ⟨hx, hb, hml, hown, hts⟩ (mX6_get l dC dI o_text o_text_bytes o_text_bytes_c o_text_bytes_n o_text_size o_text_bytes_v x1 H.size u1 e1) (cwV 1 hts (fb_GV k_448 k_449 k_450 k_64 k_451) rfl rfl rfl hdX6_get ⟨Nat.le_of_ble_eq_true rfl, Nat.le_of_ble_eq_true rfl⟩) (fb_pV hP hD hS hA hK hN hZ [1, 2] rfl rfl [0] rfl (q0 := 1) (ci := 6) rfl rfl) rfl rfl hl.1 rfl (lv_room (Nat.le_of_ble_eq_true rfl)) dX4_slot_5 ⟨Nat.le_of_ble_eq_true rfl, Nat.le_of_ble_eq_true rfl⟩) hP hD hS hA [1, 2] [0] rfl rfl rfl (by decide) [0, 1, 2] rfl rfl (fun H locs hP hD hS => ?_)
  refine lv_bipush (v := (16 : Int32)) hx hb dX4_slot_8 (by decide) ?_
  refine lv_ishl hx hb dX4_slot_10 ?_
  refine lv_aload_n hx hb dX4_slot_11 rfl (lv_at hl 0 rfl) ?_
  refine va_get (D := (dC, dI)) (ci := 4) (v := .ref o_text) (C := RX4) (T := TX4) (N := 7) hx hb hts i_X4 hown hK hP 0 rfl rfl 0 (by decide) (hts _ k_238) (fun _ h9 => h9) rfl dX4_slot_12 ?_
  refine lv_iload_n hx hb dX4_slot_15 rfl (lv_at hl 1 rfl) ?_
  refine lv_iconst (v := (1 : Int32)) hx hb dX4_slot_16 (by decide) ?_
  refine lv_iadd hx hb dX4_slot_17 ?_
  obtain ⟨u2, e2, h⟩ := fb_b h
  refine fb_ci (wc := [(o_text, .inr (6, [.ref o_text_bytes, .int o_text_size])), (o_text_bytes, .inl (o_text_bytes_c, o_text_bytes_n, .inl o_text_bytes_v))]) (wr := [(o, .inr (4, [.ref o_text, .int o_chain, .ref o_latest, .ref o_earlier, .int o_linked, .int o_length, .int o_distance]))]) (w1 := [(o_text, .inr (6, [.ref o_text_bytes, .int o_text_size])), (o_text_bytes, .inl (o_text_bytes_c, o_text_bytes_n, .inl o_text_bytes_v))]) (ws' := [(o, .inr (4, [.ref o_text, .int o_chain, .ref o_latest, .ref o_earlier, .int o_linked, .int o_length, .int o_distance])), (o_text, .inr (6, [.ref o_text_bytes, .int o_text_size])), (o_text_bytes, .inl (o_text_bytes_c, o_text_bytes_n, .inl o_text_bytes_v))]) (va_runV (As := [.int (x1 + (1 : Int32))]) (rest := [.int (u1 <<< ((16 : Int32) &&& 31))]) ⟨hx, hb, hml, hown, hts⟩ (mX6_get l dC dI o_text o_text_bytes o_text_bytes_c o_text_bytes_n o_text_size o_text_bytes_v (x1 + (1 : Int32)) H.size u2 e2) (cwV 1 hts (fb_GV k_448 k_449 k_450 k_64 k_451) rfl rfl rfl hdX6_get ⟨Nat.le_of_ble_eq_true rfl, Nat.le_of_ble_eq_true rfl⟩) (fb_pV hP hD hS hA hK hN hZ [1, 2] rfl rfl [0] rfl (q0 := 1) (ci := 6) rfl rfl) rfl rfl hl.1 rfl (lv_room (Nat.le_of_ble_eq_true rfl)) dX4_slot_18 ⟨Nat.le_of_ble_eq_true rfl, Nat.le_of_ble_eq_true rfl⟩) hP hD hS hA [1, 2] [0] rfl rfl rfl (by decide) [0, 1, 2] rfl rfl (fun H locs hP hD hS => ?_)
  refine lv_bipush (v := (8 : Int32)) hx hb dX4_slot_21 (by decide) ?_
  refine lv_ishl hx hb dX4_slot_23 ?_
  refine lv_ior hx hb dX4_slot_24 ?_
  refine lv_aload_n hx hb dX4_slot_25 rfl (lv_at hl 0 rfl) ?_
  refine va_get (D := (dC, dI)) (ci := 4) (v := .ref o_text) (C := RX4) (T := TX4) (N := 7) hx hb hts i_X4 hown hK hP 0 rfl rfl 0 (by decide) (hts _ k_238) (fun _ h9 => h9) rfl dX4_slot_26 ?_
  refine lv_iload_n hx hb dX4_slot_29 rfl (lv_at hl 1 rfl) ?_
  refine lv_iconst (v := (2 : Int32)) hx hb dX4_slot_30 (by decide) ?_
  refine lv_iadd hx hb dX4_slot_31 ?_
  obtain ⟨u3, e3, h⟩ := fb_b h
  refine fb_ci (wc := [(o_text, .inr (6, [.ref o_text_bytes, .int o_text_size])), (o_text_bytes, .inl (o_text_bytes_c, o_text_bytes_n, .inl o_text_bytes_v))]) (wr := [(o, .inr (4, [.ref o_text, .int o_chain, .ref o_latest, .ref o_earlier, .int o_linked, .int o_length, .int o_distance]))]) (w1 := [(o_text, .inr (6, [.ref o_text_bytes, .int o_text_size])), (o_text_bytes, .inl (o_text_bytes_c, o_text_bytes_n, .inl o_text_bytes_v))]) (ws' := [(o, .inr (4, [.ref o_text, .int o_chain, .ref o_latest, .ref o_earlier, .int o_linked, .int o_length, .int o_distance])), (o_text, .inr (6, [.ref o_text_bytes, .int o_text_size])), (o_text_bytes, .inl (o_text_bytes_c, o_text_bytes_n, .inl o_text_bytes_v))]) (va_runV (As := [.int (x1 + (2 : Int32))]) (rest := [.int ((u1 <<< ((16 : Int32) &&& 31)) ||| (u2 <<< ((8 : Int32) &&& 31)))]) ⟨hx, hb, hml, hown, hts⟩ (mX6_get l dC dI o_text o_text_bytes o_text_bytes_c o_text_bytes_n o_text_size o_text_bytes_v (x1 + (2 : Int32)) H.size u3 e3) (cwV 1 hts (fb_GV k_448 k_449 k_450 k_64 k_451) rfl rfl rfl hdX6_get ⟨Nat.le_of_ble_eq_true rfl, Nat.le_of_ble_eq_true rfl⟩) (fb_pV hP hD hS hA hK hN hZ [1, 2] rfl rfl [0] rfl (q0 := 1) (ci := 6) rfl rfl) rfl rfl hl.1 rfl (lv_room (Nat.le_of_ble_eq_true rfl)) dX4_slot_32 ⟨Nat.le_of_ble_eq_true rfl, Nat.le_of_ble_eq_true rfl⟩) hP hD hS hA [1, 2] [0] rfl rfl rfl (by decide) [0, 1, 2] rfl rfl (fun H locs hP hD hS => ?_)
  refine lv_ior hx hb dX4_slot_35 ?_
  refine lv_istore_n (lv' := [(2, .int (((u1 <<< ((16 : Int32) &&& 31)) ||| (u2 <<< ((8 : Int32) &&& 31))) ||| u3)), (0, .ref o), (1, .int x1)]) hx hb dX4_slot_36 rfl hl (by decide) rfl (fun ls hl => ?_)
  refine lv_iload_n hx hb dX4_slot_37 rfl (lv_at hl 0 rfl) ?_
  refine lv_ldc (v := (-1640531535 : Int32)) hx hb hown (hts _ k_452) dX4_slot_38 ?_
  refine lv_imul hx hb dX4_slot_40 ?_
  refine lv_bipush (v := (20 : Int32)) hx hb dX4_slot_41 (by decide) ?_
  refine lv_iushr (v := ((((((u1 <<< ((16 : Int32) &&& 31)) ||| (u2 <<< ((8 : Int32) &&& 31))) ||| u3) * (-1640531535 : Int32))).toUInt32 >>> (((20 : Int32)).toUInt32 &&& Int32.toUInt32 31)).toInt32) hx hb dX4_slot_43 rfl ?_
  have hu := Option.some.inj h
  exact hret _ _ _ _ _ dX4_slot_44 rfl (by rw [← hu]) hP hD hS
theorem dX4_link_0 : decode cX4_link 0 = .ok (.aload_n 0, 1) := by decide +kernel
theorem dX4_link_1 : decode cX4_link 1 = .ok (.getfield 32, 3) := by decide +kernel
theorem dX4_link_4 : decode cX4_link 4 = .ok (.iconst 3, 1) := by decide +kernel
theorem dX4_link_5 : decode cX4_link 5 = .ok (.iadd, 1) := by decide +kernel
theorem dX4_link_6 : decode cX4_link 6 = .ok (.aload_n 0, 1) := by decide +kernel
theorem dX4_link_7 : decode cX4_link 7 = .ok (.getfield 15, 3) := by decide +kernel
theorem dX4_link_10 : decode cX4_link 10 = .ok (.getfield 41, 3) := by decide +kernel
theorem dX4_link_13 : decode cX4_link 13 = .ok (.if_icmp .gt 52, 3) := by decide +kernel
theorem dX4_link_16 : decode cX4_link 16 = .ok (.aload_n 0, 1) := by decide +kernel
theorem dX4_link_17 : decode cX4_link 17 = .ok (.aload_n 0, 1) := by decide +kernel
theorem dX4_link_18 : decode cX4_link 18 = .ok (.getfield 32, 3) := by decide +kernel
theorem dX4_link_21 : decode cX4_link 21 = .ok (.invokevirtual 44, 3) := by decide +kernel
theorem dX4_link_24 : decode cX4_link 24 = .ok (.istore_n 1, 1) := by decide +kernel
theorem dX4_link_25 : decode cX4_link 25 = .ok (.aload_n 0, 1) := by decide +kernel
theorem dX4_link_26 : decode cX4_link 26 = .ok (.getfield 29, 3) := by decide +kernel
theorem dX4_link_29 : decode cX4_link 29 = .ok (.aload_n 0, 1) := by decide +kernel
theorem dX4_link_30 : decode cX4_link 30 = .ok (.getfield 32, 3) := by decide +kernel
theorem dX4_link_33 : decode cX4_link 33 = .ok (.aload_n 0, 1) := by decide +kernel
theorem dX4_link_34 : decode cX4_link 34 = .ok (.getfield 11, 3) := by decide +kernel
theorem dX4_link_37 : decode cX4_link 37 = .ok (.iload_n 1, 1) := by decide +kernel
theorem dX4_link_38 : decode cX4_link 38 = .ok (.iaload, 1) := by decide +kernel
theorem dX4_link_39 : decode cX4_link 39 = .ok (.iastore, 1) := by decide +kernel
theorem dX4_link_40 : decode cX4_link 40 = .ok (.aload_n 0, 1) := by decide +kernel
theorem dX4_link_41 : decode cX4_link 41 = .ok (.getfield 11, 3) := by decide +kernel
theorem dX4_link_44 : decode cX4_link 44 = .ok (.iload_n 1, 1) := by decide +kernel
theorem dX4_link_45 : decode cX4_link 45 = .ok (.aload_n 0, 1) := by decide +kernel
theorem dX4_link_46 : decode cX4_link 46 = .ok (.getfield 32, 3) := by decide +kernel
theorem dX4_link_49 : decode cX4_link 49 = .ok (.iconst 1, 1) := by decide +kernel
theorem dX4_link_50 : decode cX4_link 50 = .ok (.iadd, 1) := by decide +kernel
theorem dX4_link_51 : decode cX4_link 51 = .ok (.iastore, 1) := by decide +kernel
theorem dX4_link_52 : decode cX4_link 52 = .ok (.aload_n 0, 1) := by decide +kernel
theorem dX4_link_53 : decode cX4_link 53 = .ok (.dup, 1) := by decide +kernel
theorem dX4_link_54 : decode cX4_link 54 = .ok (.getfield 32, 3) := by decide +kernel
theorem dX4_link_57 : decode cX4_link 57 = .ok (.iconst 1, 1) := by decide +kernel
theorem dX4_link_58 : decode cX4_link 58 = .ok (.iadd, 1) := by decide +kernel
theorem dX4_link_59 : decode cX4_link 59 = .ok (.putfield 32, 3) := by decide +kernel
theorem dX4_link_62 : decode cX4_link 62 = .ok (.goto (-62), 3) := by decide +kernel
theorem dX4_link_65 : decode cX4_link 65 = .ok (.return_, 1) := by decide +kernel
def pX4_link_b0 (o_text_bytes_n : Nat) (o_latest_n : Nat) (o_earlier_n : Nat) (o_text_size : Int32) (o_text_bytes_v : Nat → Int32)  : Nat → Int32 → (Nat → Int32) → (Nat → Int32) → Option (Int32 × (Nat → Int32) × (Nat → Int32))
  | 0 => fun _ _ _ => none
  | n + 1 => fun o_linked o_latest_v o_earlier_v =>
  if o_text_size < (o_linked + (3 : Int32)) then
  (some (o_linked, o_latest_v, o_earlier_v))
  else
  ((pX4_slot o_text_bytes_n o_text_size o_text_bytes_v o_linked).bind (fun u2 =>
  if u2 < 0 ∨ o_latest_n ≤ (u2).toNatClampNeg then none else
  if o_linked < 0 ∨ o_earlier_n ≤ (o_linked).toNatClampNeg then none else
  if u2 < 0 ∨ o_latest_n ≤ (u2).toNatClampNeg then none else
  (pX4_link_b0 o_text_bytes_n o_latest_n o_earlier_n o_text_size o_text_bytes_v n) (o_linked + (1 : Int32)) (upd o_latest_v (u2).toNatClampNeg (o_linked + (1 : Int32))) (upd o_earlier_v (o_linked).toNatClampNeg (o_latest_v (u2).toNatClampNeg))))
def pX4_link (o_text_bytes_n : Nat) (o_latest_n : Nat) (o_earlier_n : Nat) (o_text_size : Int32) (o_text_bytes_v : Nat → Int32) (o_linked : Int32) (o_latest_v : Nat → Int32) (o_earlier_v : Nat → Int32) : Option (Int32 × (Nat → Int32) × (Nat → Int32)) := pX4_link_b0 o_text_bytes_n o_latest_n o_earlier_n o_text_size o_text_bytes_v fb_F o_linked o_latest_v o_earlier_v
theorem hdX4_link : yX4_link.cls = RX4 ∧ yX4_link.cls ≠ "java/lang/invoke/MethodHandle" ∧ yX4_link.cls ≠ "java/lang/invoke/VarHandle" ∧ (parseMethodDescriptor yX4_link.desc).map (fun d => d.parameters.length) = some 0 := by decide +kernel
set_option maxHeartbeats 8000000 in
set_option maxRecDepth 100000 in
theorem mX4_link (l : Launch) (dC : Nat → ClassId) (dI : Nat → Nat → Nat) (o : Nat) (o_text : Nat) (o_text_bytes : Nat) (o_latest : Nat) (o_earlier : Nat) (o_text_bytes_c : ClassId) (o_latest_c : ClassId) (o_earlier_c : ClassId) (o_text_bytes_n : Nat) (o_latest_n : Nat) (o_earlier_n : Nat) (o_chain : Int32) (o_linked : Int32) (o_length : Int32) (o_distance : Int32) (o_text_size : Int32) (o_text_bytes_v : Nat → Int32) (o_latest_v : Nat → Int32) (o_earlier_v : Nat → Int32)  (sz : Nat) (u : Int32 × (Nat → Int32) × (Nat → Int32)) (h : pX4_link o_text_bytes_n o_latest_n o_earlier_n o_text_size o_text_bytes_v o_linked o_latest_v o_earlier_v = some u) : Met l yX4_link (Cond.code yX4_link cX4_link 2 none :: fb_tb) ({ frames := 2, cells := 0, slots := 0, locals := 43 }) (fb_Pc (dC, dI) [.ref o] sz [(o_text_bytes_c, .byte), (o_latest_c, .int), (o_earlier_c, .int)] [(o, .inr (4, [.ref o_text, .int o_chain, .ref o_latest, .ref o_earlier, .int o_linked, .int o_length, .int o_distance])), (o_text, .inr (6, [.ref o_text_bytes, .int o_text_size])), (o_text_bytes, .inl (o_text_bytes_c, o_text_bytes_n, .inl o_text_bytes_v)), (o_latest, .inl (o_latest_c, o_latest_n, .inl o_latest_v)), (o_earlier, .inl (o_earlier_c, o_earlier_n, .inl o_earlier_v))]) (fb_Qv (dC, dI) [(o, .inr (4, [.ref o_text, .int o_chain, .ref o_latest, .ref o_earlier, .int u.1, .int o_length, .int o_distance])), (o_text, .inr (6, [.ref o_text_bytes, .int o_text_size])), (o_text_bytes, .inl (o_text_bytes_c, o_text_bytes_n, .inl o_text_bytes_v)), (o_latest, .inl (o_latest_c, o_latest_n, .inl u.2.1)), (o_earlier, .inl (o_earlier_c, o_earlier_n, .inl u.2.2))] (va_A [(o, .inr (4, [.ref o_text, .int o_chain, .ref o_latest, .ref o_earlier, .int o_linked, .int o_length, .int o_distance])), (o_text, .inr (6, [.ref o_text_bytes, .int o_text_size])), (o_text_bytes, .inl (o_text_bytes_c, o_text_bytes_n, .inl o_text_bytes_v)), (o_latest, .inl (o_latest_c, o_latest_n, .inl o_latest_v)), (o_earlier, .inl (o_earlier_c, o_earlier_n, .inl o_earlier_v))] sz)) 0 0 (va_A [(o, .inr (4, [.ref o_text, .int o_chain, .ref o_latest, .ref o_earlier, .int o_linked, .int o_length, .int o_distance])), (o_text, .inr (6, [.ref o_text_bytes, .int o_text_size])), (o_text_bytes, .inl (o_text_bytes_c, o_text_bytes_n, .inl o_text_bytes_v)), (o_latest, .inl (o_latest_c, o_latest_n, .inl o_latest_v)), (o_earlier, .inl (o_earlier_c, o_earlier_n, .inl o_earlier_v))] sz) := by
  refine fb_metv (by decide) (Nat.le_of_ble_eq_true rfl) (fun p e s m args below meth c A Q ls H hx hb hml hown hts hP hK hN hZ hD hA hS hret hl => ?_)
  replace hl : lv_has ls 2 [(0, .ref o)] := hl
  have wB0 : ∀ n : Nat, ∀ (o_linked : Int32) (o_latest_v : Nat → Int32) (o_earlier_v : Nat → Int32) (H : Heap) (locs : List Loc) (ls : Array Slot), va_P (dC, dI) fb_cl [(o, .inr (4, [.ref o_text, .int o_chain, .ref o_latest, .ref o_earlier, .int o_linked, .int o_length, .int o_distance])), (o_text, .inr (6, [.ref o_text_bytes, .int o_text_size])), (o_text_bytes, .inl (o_text_bytes_c, o_text_bytes_n, .inl o_text_bytes_v)), (o_latest, .inl (o_latest_c, o_latest_n, .inl o_latest_v)), (o_earlier, .inl (o_earlier_c, o_earlier_n, .inl o_earlier_v))] H → va_D A [(o, .inr (4, [.ref o_text, .int o_chain, .ref o_latest, .ref o_earlier, .int o_linked, .int o_length, .int o_distance])), (o_text, .inr (6, [.ref o_text_bytes, .int o_text_size])), (o_text_bytes, .inl (o_text_bytes_c, o_text_bytes_n, .inl o_text_bytes_v)), (o_latest, .inl (o_latest_c, o_latest_n, .inl o_latest_v)), (o_earlier, .inl (o_earlier_c, o_earlier_n, .inl o_earlier_v))] → va_S A s.heap H locs → lv_has ls 2 [(0, .ref o)] → pX4_link_b0 o_text_bytes_n o_latest_n o_earlier_n o_text_size o_text_bytes_v n o_linked o_latest_v o_earlier_v = some u → W p l e ({ frames := 2, cells := 0, slots := 0, locals := 43 }) s m args below meth c H locs 0 0 Q (F0 m 0 ls []) := by
    intro n
    induction n with
    | zero => intro o_linked o_latest_v o_earlier_v H locs ls hP hD hS hl h; cases h
    | succ n ih =>
      intro o_linked o_latest_v o_earlier_v H locs ls hP hD hS hl h
      rw [pX4_link_b0] at h
      refine lv_aload_n hx hb dX4_link_0 rfl (lv_at hl 0 rfl) ?_
      refine va_get (D := (dC, dI)) (ci := 4) (v := .int o_linked) (C := RX4) (T := TX4) (N := 7) hx hb hts i_X4 hown hK hP 0 rfl rfl 4 (by decide) (hts _ k_242) (fun _ h9 => h9) rfl dX4_link_1 ?_
      refine lv_iconst (v := (3 : Int32)) hx hb dX4_link_4 (by decide) ?_
      refine lv_iadd hx hb dX4_link_5 ?_
      refine lv_aload_n hx hb dX4_link_6 rfl (lv_at hl 0 rfl) ?_
      refine va_get (D := (dC, dI)) (ci := 4) (v := .ref o_text) (C := RX4) (T := TX4) (N := 7) hx hb hts i_X4 hown hK hP 0 rfl rfl 0 (by decide) (hts _ k_238) (fun _ h9 => h9) rfl dX4_link_7 ?_
      refine va_get (D := (dC, dI)) (ci := 6) (v := .int o_text_size) (C := RX6) (T := TX6) (N := 2) hx hb hts i_X6 hown hK hP 1 rfl rfl 1 (by decide) (hts _ k_107) (fun _ h9 => h9) rfl dX4_link_10 ?_
      refine lv_icmp_gt (tgt := 65) hx hb dX4_link_13 (by decide) (fun c1 => ?_) (fun c1 => ?_)
      · replace h := fb_t c1 h
        have hu := Option.some.inj h
        exact hret _ _ _ _ dX4_link_65 (by rw [← hu]; exact hP) (by rw [← hu]; exact hD) hS
      · replace h := fb_f c1 h
        refine lv_aload_n hx hb dX4_link_16 rfl (lv_at hl 0 rfl) ?_
        refine lv_aload_n hx hb dX4_link_17 rfl (lv_at hl 0 rfl) ?_
        refine va_get (D := (dC, dI)) (ci := 4) (v := .int o_linked) (C := RX4) (T := TX4) (N := 7) hx hb hts i_X4 hown hK hP 0 rfl rfl 4 (by decide) (hts _ k_242) (fun _ h9 => h9) rfl dX4_link_18 ?_
        obtain ⟨u2, e2, h⟩ := fb_b h
        refine fb_ci (wc := [(o, .inr (4, [.ref o_text, .int o_chain, .ref o_latest, .ref o_earlier, .int o_linked, .int o_length, .int o_distance])), (o_text, .inr (6, [.ref o_text_bytes, .int o_text_size])), (o_text_bytes, .inl (o_text_bytes_c, o_text_bytes_n, .inl o_text_bytes_v))]) (wr := [(o_latest, .inl (o_latest_c, o_latest_n, .inl o_latest_v)), (o_earlier, .inl (o_earlier_c, o_earlier_n, .inl o_earlier_v))]) (w1 := [(o, .inr (4, [.ref o_text, .int o_chain, .ref o_latest, .ref o_earlier, .int o_linked, .int o_length, .int o_distance])), (o_text, .inr (6, [.ref o_text_bytes, .int o_text_size])), (o_text_bytes, .inl (o_text_bytes_c, o_text_bytes_n, .inl o_text_bytes_v))]) (ws' := [(o, .inr (4, [.ref o_text, .int o_chain, .ref o_latest, .ref o_earlier, .int o_linked, .int o_length, .int o_distance])), (o_text, .inr (6, [.ref o_text_bytes, .int o_text_size])), (o_text_bytes, .inl (o_text_bytes_c, o_text_bytes_n, .inl o_text_bytes_v)), (o_latest, .inl (o_latest_c, o_latest_n, .inl o_latest_v)), (o_earlier, .inl (o_earlier_c, o_earlier_n, .inl o_earlier_v))]) (va_runV (As := [.int o_linked]) (rest := []) ⟨hx, hb, hml, hown, hts⟩ (mX4_slot l dC dI o o_text o_text_bytes o_latest o_earlier o_text_bytes_c o_text_bytes_n o_chain o_linked o_length o_distance o_text_size o_text_bytes_v o_linked H.size u2 e2) (cwV 1 hts (fb_GV k_444 k_446 k_1 k_70 k_447) rfl rfl rfl hdX4_slot ⟨Nat.le_of_ble_eq_true rfl, Nat.le_of_ble_eq_true rfl⟩) (fb_pV hP hD hS hA hK hN hZ [0, 1, 2] rfl rfl [0] rfl (q0 := 0) (ci := 4) rfl rfl) rfl rfl hl.1 rfl (lv_room (Nat.le_of_ble_eq_true rfl)) dX4_link_21 ⟨Nat.le_of_ble_eq_true rfl, Nat.le_of_ble_eq_true rfl⟩) hP hD hS hA [0, 1, 2] [3, 4] rfl rfl rfl (by decide) [2, 3, 4, 0, 1] rfl rfl (fun H locs hP hD hS => ?_)
        refine lv_istore_n (lv' := [(1, .int u2), (0, .ref o)]) hx hb dX4_link_24 rfl hl (by decide) rfl (fun ls hl => ?_)
        refine lv_aload_n hx hb dX4_link_25 rfl (lv_at hl 1 rfl) ?_
        refine va_get (D := (dC, dI)) (ci := 4) (v := .ref o_earlier) (C := RX4) (T := TX4) (N := 7) hx hb hts i_X4 hown hK hP 0 rfl rfl 3 (by decide) (hts _ k_241) (fun _ h9 => h9) rfl dX4_link_26 ?_
        refine lv_aload_n hx hb dX4_link_29 rfl (lv_at hl 1 rfl) ?_
        refine va_get (D := (dC, dI)) (ci := 4) (v := .int o_linked) (C := RX4) (T := TX4) (N := 7) hx hb hts i_X4 hown hK hP 0 rfl rfl 4 (by decide) (hts _ k_242) (fun _ h9 => h9) rfl dX4_link_30 ?_
        refine lv_aload_n hx hb dX4_link_33 rfl (lv_at hl 1 rfl) ?_
        refine va_get (D := (dC, dI)) (ci := 4) (v := .ref o_latest) (C := RX4) (T := TX4) (N := 7) hx hb hts i_X4 hown hK hP 0 rfl rfl 2 (by decide) (hts _ k_240) (fun _ h9 => h9) rfl dX4_link_34 ?_
        refine lv_iload_n hx hb dX4_link_37 rfl (lv_at hl 0 rfl) ?_
        obtain ⟨g3, h⟩ := fb_g h
        refine va_iald hx hb hK hP 3 1 rfl rfl g3 dX4_link_38 ?_
        obtain ⟨g4, h⟩ := fb_g h
        refine va_iast hx hb hK hP hD hS 4 2 rfl rfl g4 dX4_link_39 (fun H locs hP hD hS => ?_)
        replace hP : va_P (dC, dI) fb_cl [(o, .inr (4, [.ref o_text, .int o_chain, .ref o_latest, .ref o_earlier, .int o_linked, .int o_length, .int o_distance])), (o_text, .inr (6, [.ref o_text_bytes, .int o_text_size])), (o_text_bytes, .inl (o_text_bytes_c, o_text_bytes_n, .inl o_text_bytes_v)), (o_latest, .inl (o_latest_c, o_latest_n, .inl o_latest_v)), (o_earlier, .inl (o_earlier_c, o_earlier_n, .inl (upd o_earlier_v (o_linked).toNatClampNeg (o_latest_v (u2).toNatClampNeg))))] H := hP
        replace hD : va_D A [(o, .inr (4, [.ref o_text, .int o_chain, .ref o_latest, .ref o_earlier, .int o_linked, .int o_length, .int o_distance])), (o_text, .inr (6, [.ref o_text_bytes, .int o_text_size])), (o_text_bytes, .inl (o_text_bytes_c, o_text_bytes_n, .inl o_text_bytes_v)), (o_latest, .inl (o_latest_c, o_latest_n, .inl o_latest_v)), (o_earlier, .inl (o_earlier_c, o_earlier_n, .inl (upd o_earlier_v (o_linked).toNatClampNeg (o_latest_v (u2).toNatClampNeg))))] := hD
        refine lv_aload_n hx hb dX4_link_40 rfl (lv_at hl 1 rfl) ?_
        refine va_get (D := (dC, dI)) (ci := 4) (v := .ref o_latest) (C := RX4) (T := TX4) (N := 7) hx hb hts i_X4 hown hK hP 0 rfl rfl 2 (by decide) (hts _ k_240) (fun _ h9 => h9) rfl dX4_link_41 ?_
        refine lv_iload_n hx hb dX4_link_44 rfl (lv_at hl 0 rfl) ?_
        refine lv_aload_n hx hb dX4_link_45 rfl (lv_at hl 1 rfl) ?_
        refine va_get (D := (dC, dI)) (ci := 4) (v := .int o_linked) (C := RX4) (T := TX4) (N := 7) hx hb hts i_X4 hown hK hP 0 rfl rfl 4 (by decide) (hts _ k_242) (fun _ h9 => h9) rfl dX4_link_46 ?_
        refine lv_iconst (v := (1 : Int32)) hx hb dX4_link_49 (by decide) ?_
        refine lv_iadd hx hb dX4_link_50 ?_
        obtain ⟨g5, h⟩ := fb_g h
        refine va_iast hx hb hK hP hD hS 3 1 rfl rfl g5 dX4_link_51 (fun H locs hP hD hS => ?_)
        replace hP : va_P (dC, dI) fb_cl [(o, .inr (4, [.ref o_text, .int o_chain, .ref o_latest, .ref o_earlier, .int o_linked, .int o_length, .int o_distance])), (o_text, .inr (6, [.ref o_text_bytes, .int o_text_size])), (o_text_bytes, .inl (o_text_bytes_c, o_text_bytes_n, .inl o_text_bytes_v)), (o_latest, .inl (o_latest_c, o_latest_n, .inl (upd o_latest_v (u2).toNatClampNeg (o_linked + (1 : Int32))))), (o_earlier, .inl (o_earlier_c, o_earlier_n, .inl (upd o_earlier_v (o_linked).toNatClampNeg (o_latest_v (u2).toNatClampNeg))))] H := hP
        replace hD : va_D A [(o, .inr (4, [.ref o_text, .int o_chain, .ref o_latest, .ref o_earlier, .int o_linked, .int o_length, .int o_distance])), (o_text, .inr (6, [.ref o_text_bytes, .int o_text_size])), (o_text_bytes, .inl (o_text_bytes_c, o_text_bytes_n, .inl o_text_bytes_v)), (o_latest, .inl (o_latest_c, o_latest_n, .inl (upd o_latest_v (u2).toNatClampNeg (o_linked + (1 : Int32))))), (o_earlier, .inl (o_earlier_c, o_earlier_n, .inl (upd o_earlier_v (o_linked).toNatClampNeg (o_latest_v (u2).toNatClampNeg))))] := hD
        refine lv_aload_n hx hb dX4_link_52 rfl (lv_at hl 1 rfl) ?_
        refine lv_dup hx hb dX4_link_53 rfl ?_
        refine va_get (D := (dC, dI)) (ci := 4) (v := .int o_linked) (C := RX4) (T := TX4) (N := 7) hx hb hts i_X4 hown hK hP 0 rfl rfl 4 (by decide) (hts _ k_242) (fun _ h9 => h9) rfl dX4_link_54 ?_
        refine lv_iconst (v := (1 : Int32)) hx hb dX4_link_57 (by decide) ?_
        refine lv_iadd hx hb dX4_link_58 ?_
        refine va_put (D := (dC, dI)) (ci := 4) (v := .int (o_linked + (1 : Int32))) (ty := .int) (C := RX4) (T := TX4) (N := 7) hx hb hts i_X4 tyX4 tyX4_ok nmX4 hown hK hP hD hS 0 rfl rfl 4 (by decide) (hts _ k_242) (fun _ h9 => h9) rfl (by decide +kernel) rfl rfl (Nat.le_of_ble_eq_true rfl) dX4_link_59 (fun H locs hP hD hS => ?_)
        replace hP : va_P (dC, dI) fb_cl [(o, .inr (4, [.ref o_text, .int o_chain, .ref o_latest, .ref o_earlier, .int (o_linked + (1 : Int32)), .int o_length, .int o_distance])), (o_text, .inr (6, [.ref o_text_bytes, .int o_text_size])), (o_text_bytes, .inl (o_text_bytes_c, o_text_bytes_n, .inl o_text_bytes_v)), (o_latest, .inl (o_latest_c, o_latest_n, .inl (upd o_latest_v (u2).toNatClampNeg (o_linked + (1 : Int32))))), (o_earlier, .inl (o_earlier_c, o_earlier_n, .inl (upd o_earlier_v (o_linked).toNatClampNeg (o_latest_v (u2).toNatClampNeg))))] H := hP
        replace hD : va_D A [(o, .inr (4, [.ref o_text, .int o_chain, .ref o_latest, .ref o_earlier, .int (o_linked + (1 : Int32)), .int o_length, .int o_distance])), (o_text, .inr (6, [.ref o_text_bytes, .int o_text_size])), (o_text_bytes, .inl (o_text_bytes_c, o_text_bytes_n, .inl o_text_bytes_v)), (o_latest, .inl (o_latest_c, o_latest_n, .inl (upd o_latest_v (u2).toNatClampNeg (o_linked + (1 : Int32))))), (o_earlier, .inl (o_earlier_c, o_earlier_n, .inl (upd o_earlier_v (o_linked).toNatClampNeg (o_latest_v (u2).toNatClampNeg))))] := hD
        refine lv_goto (tgt := 0) hx hb dX4_link_62 (by decide) ?_
        exact ih (o_linked + (1 : Int32)) (upd o_latest_v (u2).toNatClampNeg (o_linked + (1 : Int32))) (upd o_earlier_v (o_linked).toNatClampNeg (o_latest_v (u2).toNatClampNeg)) _ _ _ hP hD hS (lv_sub hl [1] rfl) h
  exact wB0 fb_F o_linked o_latest_v o_earlier_v _ _ _ hP hD hS (lv_sub hl [0] rfl) h
