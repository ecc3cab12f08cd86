theorem dX2_assign_0 : decode cX2_assign 0 = .ok (.aload_n 0, 1) := by decide +kernel
theorem dX2_assign_1 : decode cX2_assign 1 = .ok (.invokevirtual 48, 3) := by decide +kernel
theorem dX2_assign_4 : decode cX2_assign 4 = .ok (.iconst 1, 1) := by decide +kernel
theorem dX2_assign_5 : decode cX2_assign 5 = .ok (.istore_n 1, 1) := by decide +kernel
theorem dX2_assign_6 : decode cX2_assign 6 = .ok (.iload_n 1, 1) := by decide +kernel
theorem dX2_assign_7 : decode cX2_assign 7 = .ok (.bipush 15, 2) := by decide +kernel
theorem dX2_assign_9 : decode cX2_assign 9 = .ok (.if_icmp .gt 57, 3) := by decide +kernel
theorem dX2_assign_12 : decode cX2_assign 12 = .ok (.aload_n 0, 1) := by decide +kernel
theorem dX2_assign_13 : decode cX2_assign 13 = .ok (.getfield 15, 3) := by decide +kernel
theorem dX2_assign_16 : decode cX2_assign 16 = .ok (.iload_n 1, 1) := by decide +kernel
theorem dX2_assign_17 : decode cX2_assign 17 = .ok (.iconst 2, 1) := by decide +kernel
theorem dX2_assign_18 : decode cX2_assign 18 = .ok (.aload_n 0, 1) := by decide +kernel
theorem dX2_assign_19 : decode cX2_assign 19 = .ok (.getfield 15, 3) := by decide +kernel
theorem dX2_assign_22 : decode cX2_assign 22 = .ok (.iload_n 1, 1) := by decide +kernel
theorem dX2_assign_23 : decode cX2_assign 23 = .ok (.iconst 1, 1) := by decide +kernel
theorem dX2_assign_24 : decode cX2_assign 24 = .ok (.isub, 1) := by decide +kernel
theorem dX2_assign_25 : decode cX2_assign 25 = .ok (.iaload, 1) := by decide +kernel
theorem dX2_assign_26 : decode cX2_assign 26 = .ok (.aload_n 0, 1) := by decide +kernel
theorem dX2_assign_27 : decode cX2_assign 27 = .ok (.getfield 9, 3) := by decide +kernel
theorem dX2_assign_30 : decode cX2_assign 30 = .ok (.iload_n 1, 1) := by decide +kernel
theorem dX2_assign_31 : decode cX2_assign 31 = .ok (.iconst 1, 1) := by decide +kernel
theorem dX2_assign_32 : decode cX2_assign 32 = .ok (.isub, 1) := by decide +kernel
theorem dX2_assign_33 : decode cX2_assign 33 = .ok (.iaload, 1) := by decide +kernel
theorem dX2_assign_34 : decode cX2_assign 34 = .ok (.iadd, 1) := by decide +kernel
theorem dX2_assign_35 : decode cX2_assign 35 = .ok (.imul, 1) := by decide +kernel
theorem dX2_assign_36 : decode cX2_assign 36 = .ok (.iastore, 1) := by decide +kernel
theorem dX2_assign_37 : decode cX2_assign 37 = .ok (.aload_n 0, 1) := by decide +kernel
theorem dX2_assign_38 : decode cX2_assign 38 = .ok (.getfield 18, 3) := by decide +kernel
theorem dX2_assign_41 : decode cX2_assign 41 = .ok (.iload_n 1, 1) := by decide +kernel
theorem dX2_assign_42 : decode cX2_assign 42 = .ok (.aload_n 0, 1) := by decide +kernel
theorem dX2_assign_43 : decode cX2_assign 43 = .ok (.getfield 18, 3) := by decide +kernel
theorem dX2_assign_46 : decode cX2_assign 46 = .ok (.iload_n 1, 1) := by decide +kernel
theorem dX2_assign_47 : decode cX2_assign 47 = .ok (.iconst 1, 1) := by decide +kernel
theorem dX2_assign_48 : decode cX2_assign 48 = .ok (.isub, 1) := by decide +kernel
theorem dX2_assign_49 : decode cX2_assign 49 = .ok (.iaload, 1) := by decide +kernel
theorem dX2_assign_50 : decode cX2_assign 50 = .ok (.aload_n 0, 1) := by decide +kernel
theorem dX2_assign_51 : decode cX2_assign 51 = .ok (.getfield 9, 3) := by decide +kernel
theorem dX2_assign_54 : decode cX2_assign 54 = .ok (.iload_n 1, 1) := by decide +kernel
theorem dX2_assign_55 : decode cX2_assign 55 = .ok (.iconst 1, 1) := by decide +kernel
theorem dX2_assign_56 : decode cX2_assign 56 = .ok (.isub, 1) := by decide +kernel
theorem dX2_assign_57 : decode cX2_assign 57 = .ok (.iaload, 1) := by decide +kernel
theorem dX2_assign_58 : decode cX2_assign 58 = .ok (.iadd, 1) := by decide +kernel
theorem dX2_assign_59 : decode cX2_assign 59 = .ok (.iastore, 1) := by decide +kernel
theorem dX2_assign_60 : decode cX2_assign 60 = .ok (.iinc 1 1, 3) := by decide +kernel
theorem dX2_assign_63 : decode cX2_assign 63 = .ok (.goto (-57), 3) := by decide +kernel
theorem dX2_assign_66 : decode cX2_assign 66 = .ok (.aload_n 0, 1) := by decide +kernel
theorem dX2_assign_67 : decode cX2_assign 67 = .ok (.getfield 21, 3) := by decide +kernel
theorem dX2_assign_70 : decode cX2_assign 70 = .ok (.iconst 0, 1) := by decide +kernel
theorem dX2_assign_71 : decode cX2_assign 71 = .ok (.invokestatic 33, 3) := by decide +kernel
theorem dX2_assign_74 : decode cX2_assign 74 = .ok (.iconst 0, 1) := by decide +kernel
theorem dX2_assign_75 : decode cX2_assign 75 = .ok (.istore_n 1, 1) := by decide +kernel
theorem dX2_assign_76 : decode cX2_assign 76 = .ok (.iload_n 1, 1) := by decide +kernel
theorem dX2_assign_77 : decode cX2_assign 77 = .ok (.aload_n 0, 1) := by decide +kernel
theorem dX2_assign_78 : decode cX2_assign 78 = .ok (.getfield 24, 3) := by decide +kernel
theorem dX2_assign_81 : decode cX2_assign 81 = .ok (.arraylength, 1) := by decide +kernel
theorem dX2_assign_82 : decode cX2_assign 82 = .ok (.if_icmp .ge 68, 3) := by decide +kernel
theorem dX2_assign_85 : decode cX2_assign 85 = .ok (.aload_n 0, 1) := by decide +kernel
theorem dX2_assign_86 : decode cX2_assign 86 = .ok (.getfield 24, 3) := by decide +kernel
theorem dX2_assign_89 : decode cX2_assign 89 = .ok (.iload_n 1, 1) := by decide +kernel
theorem dX2_assign_90 : decode cX2_assign 90 = .ok (.iaload, 1) := by decide +kernel
theorem dX2_assign_91 : decode cX2_assign 91 = .ok (.istore_n 2, 1) := by decide +kernel
theorem dX2_assign_92 : decode cX2_assign 92 = .ok (.iload_n 2, 1) := by decide +kernel
theorem dX2_assign_93 : decode cX2_assign 93 = .ok (.ifCond .le 51, 3) := by decide +kernel
theorem dX2_assign_96 : decode cX2_assign 96 = .ok (.aload_n 0, 1) := by decide +kernel
theorem dX2_assign_97 : decode cX2_assign 97 = .ok (.getfield 27, 3) := by decide +kernel
theorem dX2_assign_100 : decode cX2_assign 100 = .ok (.iload_n 1, 1) := by decide +kernel
theorem dX2_assign_101 : decode cX2_assign 101 = .ok (.aload_n 0, 1) := by decide +kernel
theorem dX2_assign_102 : decode cX2_assign 102 = .ok (.getfield 15, 3) := by decide +kernel
theorem dX2_assign_105 : decode cX2_assign 105 = .ok (.iload_n 2, 1) := by decide +kernel
theorem dX2_assign_106 : decode cX2_assign 106 = .ok (.iaload, 1) := by decide +kernel
theorem dX2_assign_107 : decode cX2_assign 107 = .ok (.aload_n 0, 1) := by decide +kernel
theorem dX2_assign_108 : decode cX2_assign 108 = .ok (.getfield 21, 3) := by decide +kernel
theorem dX2_assign_111 : decode cX2_assign 111 = .ok (.iload_n 2, 1) := by decide +kernel
theorem dX2_assign_112 : decode cX2_assign 112 = .ok (.iaload, 1) := by decide +kernel
theorem dX2_assign_113 : decode cX2_assign 113 = .ok (.iadd, 1) := by decide +kernel
theorem dX2_assign_114 : decode cX2_assign 114 = .ok (.iastore, 1) := by decide +kernel
theorem dX2_assign_115 : decode cX2_assign 115 = .ok (.aload_n 0, 1) := by decide +kernel
theorem dX2_assign_116 : decode cX2_assign 116 = .ok (.getfield 30, 3) := by decide +kernel
theorem dX2_assign_119 : decode cX2_assign 119 = .ok (.aload_n 0, 1) := by decide +kernel
theorem dX2_assign_120 : decode cX2_assign 120 = .ok (.getfield 18, 3) := by decide +kernel
theorem dX2_assign_123 : decode cX2_assign 123 = .ok (.iload_n 2, 1) := by decide +kernel
theorem dX2_assign_124 : decode cX2_assign 124 = .ok (.iaload, 1) := by decide +kernel
theorem dX2_assign_125 : decode cX2_assign 125 = .ok (.aload_n 0, 1) := by decide +kernel
theorem dX2_assign_126 : decode cX2_assign 126 = .ok (.getfield 21, 3) := by decide +kernel
theorem dX2_assign_129 : decode cX2_assign 129 = .ok (.iload_n 2, 1) := by decide +kernel
theorem dX2_assign_130 : decode cX2_assign 130 = .ok (.iaload, 1) := by decide +kernel
theorem dX2_assign_131 : decode cX2_assign 131 = .ok (.iadd, 1) := by decide +kernel
theorem dX2_assign_132 : decode cX2_assign 132 = .ok (.iload_n 1, 1) := by decide +kernel
theorem dX2_assign_133 : decode cX2_assign 133 = .ok (.iastore, 1) := by decide +kernel
theorem dX2_assign_134 : decode cX2_assign 134 = .ok (.aload_n 0, 1) := by decide +kernel
theorem dX2_assign_135 : decode cX2_assign 135 = .ok (.getfield 21, 3) := by decide +kernel
theorem dX2_assign_138 : decode cX2_assign 138 = .ok (.iload_n 2, 1) := by decide +kernel
theorem dX2_assign_139 : decode cX2_assign 139 = .ok (.dup2, 1) := by decide +kernel
theorem dX2_assign_140 : decode cX2_assign 140 = .ok (.iaload, 1) := by decide +kernel
theorem dX2_assign_141 : decode cX2_assign 141 = .ok (.iconst 1, 1) := by decide +kernel
theorem dX2_assign_142 : decode cX2_assign 142 = .ok (.iadd, 1) := by decide +kernel
theorem dX2_assign_143 : decode cX2_assign 143 = .ok (.iastore, 1) := by decide +kernel
theorem dX2_assign_144 : decode cX2_assign 144 = .ok (.iinc 1 1, 3) := by decide +kernel
theorem dX2_assign_147 : decode cX2_assign 147 = .ok (.goto (-71), 3) := by decide +kernel
theorem dX2_assign_150 : decode cX2_assign 150 = .ok (.return_, 1) := by decide +kernel
def pX2_assign_b76 (o_lengths_n : Nat) (o_firstCode_n : Nat) (o_firstPlace_n : Nat) (o_given_n : Nat) (o_codes_n : Nat) (o_byCode_n : Nat) (o_lengths_v : Nat → Int32)  : Nat → Int32 → (Nat → Int32) → (Nat → Int32) → (Nat → Int32) → (Nat → Int32) → (Nat → Int32) → (Nat → Int32) → Int32 → Option (Int32 × (Nat → Int32) × (Nat → Int32) × (Nat → Int32) × (Nat → Int32) × (Nat → Int32) × (Nat → Int32))
  | 0 => fun _ _ _ _ _ _ _ _ => none
  | n + 1 => fun o_longest o_ofLength_v o_firstCode_v o_firstPlace_v o_given_v o_codes_v o_byCode_v x1 =>
  if (Int32.ofNat o_lengths_n) ≤ x1 then
  (some (o_longest, o_ofLength_v, o_firstCode_v, o_firstPlace_v, o_given_v, o_codes_v, o_byCode_v))
  else
  (if x1 < 0 ∨ o_lengths_n ≤ (x1).toNatClampNeg then none else
  if (o_lengths_v (x1).toNatClampNeg) ≤ 0 then
  ((pX2_assign_b76 o_lengths_n o_firstCode_n o_firstPlace_n o_given_n o_codes_n o_byCode_n o_lengths_v n) o_longest o_ofLength_v o_firstCode_v o_firstPlace_v o_given_v o_codes_v o_byCode_v (x1 + (1 : Int32)))
  else
  (if (o_lengths_v (x1).toNatClampNeg) < 0 ∨ o_firstCode_n ≤ ((o_lengths_v (x1).toNatClampNeg)).toNatClampNeg then none else
  if (o_lengths_v (x1).toNatClampNeg) < 0 ∨ o_given_n ≤ ((o_lengths_v (x1).toNatClampNeg)).toNatClampNeg then none else
  if x1 < 0 ∨ o_codes_n ≤ (x1).toNatClampNeg then none else
  if (o_lengths_v (x1).toNatClampNeg) < 0 ∨ o_firstPlace_n ≤ ((o_lengths_v (x1).toNatClampNeg)).toNatClampNeg then none else
  if (o_lengths_v (x1).toNatClampNeg) < 0 ∨ o_given_n ≤ ((o_lengths_v (x1).toNatClampNeg)).toNatClampNeg then none else
  if ((o_firstPlace_v ((o_lengths_v (x1).toNatClampNeg)).toNatClampNeg) + (o_given_v ((o_lengths_v (x1).toNatClampNeg)).toNatClampNeg)) < 0 ∨ o_byCode_n ≤ (((o_firstPlace_v ((o_lengths_v (x1).toNatClampNeg)).toNatClampNeg) + (o_given_v ((o_lengths_v (x1).toNatClampNeg)).toNatClampNeg))).toNatClampNeg then none else
  if (o_lengths_v (x1).toNatClampNeg) < 0 ∨ o_given_n ≤ ((o_lengths_v (x1).toNatClampNeg)).toNatClampNeg then none else
  if (o_lengths_v (x1).toNatClampNeg) < 0 ∨ o_given_n ≤ ((o_lengths_v (x1).toNatClampNeg)).toNatClampNeg then none else
  (pX2_assign_b76 o_lengths_n o_firstCode_n o_firstPlace_n o_given_n o_codes_n o_byCode_n o_lengths_v n) o_longest o_ofLength_v o_firstCode_v o_firstPlace_v (upd o_given_v ((o_lengths_v (x1).toNatClampNeg)).toNatClampNeg ((o_given_v ((o_lengths_v (x1).toNatClampNeg)).toNatClampNeg) + (1 : Int32))) (upd o_codes_v (x1).toNatClampNeg ((o_firstCode_v ((o_lengths_v (x1).toNatClampNeg)).toNatClampNeg) + (o_given_v ((o_lengths_v (x1).toNatClampNeg)).toNatClampNeg))) (upd o_byCode_v (((o_firstPlace_v ((o_lengths_v (x1).toNatClampNeg)).toNatClampNeg) + (o_given_v ((o_lengths_v (x1).toNatClampNeg)).toNatClampNeg))).toNatClampNeg x1) (x1 + (1 : Int32))))
def pX2_assign_b6 (o_ofLength_n : Nat) (o_lengths_n : Nat) (o_firstCode_n : Nat) (o_firstPlace_n : Nat) (o_given_n : Nat) (o_codes_n : Nat) (o_byCode_n : Nat) (o_lengths_v : Nat → Int32)  : Nat → Int32 → (Nat → Int32) → (Nat → Int32) → (Nat → Int32) → (Nat → Int32) → (Nat → Int32) → (Nat → Int32) → Int32 → Option (Int32 × (Nat → Int32) × (Nat → Int32) × (Nat → Int32) × (Nat → Int32) × (Nat → Int32) × (Nat → Int32))
  | 0 => fun _ _ _ _ _ _ _ _ => none
  | n + 1 => fun o_longest o_ofLength_v o_firstCode_v o_firstPlace_v o_given_v o_codes_v o_byCode_v x1 =>
  if (15 : Int32) < x1 then
  ((pJ7_fill_53178 o_given_n (0 : Int32) o_given_v).bind (fun u13 =>
  pX2_assign_b76 o_lengths_n o_firstCode_n o_firstPlace_n o_given_n o_codes_n o_byCode_n o_lengths_v fb_F o_longest o_ofLength_v o_firstCode_v o_firstPlace_v u13 o_codes_v o_byCode_v (0 : Int32)))
  else
  (if (x1 - (1 : Int32)) < 0 ∨ o_firstCode_n ≤ ((x1 - (1 : Int32))).toNatClampNeg then none else
  if (x1 - (1 : Int32)) < 0 ∨ o_ofLength_n ≤ ((x1 - (1 : Int32))).toNatClampNeg then none else
  if x1 < 0 ∨ o_firstCode_n ≤ (x1).toNatClampNeg then none else
  if (x1 - (1 : Int32)) < 0 ∨ o_firstPlace_n ≤ ((x1 - (1 : Int32))).toNatClampNeg then none else
  if (x1 - (1 : Int32)) < 0 ∨ o_ofLength_n ≤ ((x1 - (1 : Int32))).toNatClampNeg then none else
  if x1 < 0 ∨ o_firstPlace_n ≤ (x1).toNatClampNeg then none else
  (pX2_assign_b6 o_ofLength_n o_lengths_n o_firstCode_n o_firstPlace_n o_given_n o_codes_n o_byCode_n o_lengths_v n) o_longest o_ofLength_v (upd o_firstCode_v (x1).toNatClampNeg ((2 : Int32) * ((o_firstCode_v ((x1 - (1 : Int32))).toNatClampNeg) + (o_ofLength_v ((x1 - (1 : Int32))).toNatClampNeg)))) (upd o_firstPlace_v (x1).toNatClampNeg ((o_firstPlace_v ((x1 - (1 : Int32))).toNatClampNeg) + (o_ofLength_v ((x1 - (1 : Int32))).toNatClampNeg))) o_given_v o_codes_v o_byCode_v (x1 + (1 : Int32)))
def pX2_assign (o_ofLength_n : Nat) (o_lengths_n : Nat) (o_firstCode_n : Nat) (o_firstPlace_n : Nat) (o_given_n : Nat) (o_codes_n : Nat) (o_byCode_n : Nat) (o_lengths_v : Nat → Int32)  (o_ofLength_v : Nat → Int32) (o_firstCode_v : Nat → Int32) (o_firstPlace_v : Nat → Int32) (o_given_v : Nat → Int32) (o_codes_v : Nat → Int32) (o_byCode_v : Nat → Int32) : Option (Int32 × (Nat → Int32) × (Nat → Int32) × (Nat → Int32) × (Nat → Int32) × (Nat → Int32) × (Nat → Int32)) :=
  (pX2_countLengths o_ofLength_n o_lengths_n o_lengths_v o_ofLength_v).bind (fun u20 =>
  pX2_assign_b6 o_ofLength_n o_lengths_n o_firstCode_n o_firstPlace_n o_given_n o_codes_n o_byCode_n o_lengths_v fb_F u20.1 u20.2 o_firstCode_v o_firstPlace_v o_given_v o_codes_v o_byCode_v (1 : Int32))
theorem hdX2_assign : yX2_assign.cls = RX2 ∧ yX2_assign.cls ≠ "java/lang/invoke/MethodHandle" ∧ yX2_assign.cls ≠ "java/lang/invoke/VarHandle" ∧ (parseMethodDescriptor yX2_assign.desc).map (fun d => d.parameters.length) = some 0 := by decide +kernel
set_option maxHeartbeats 8000000 in
set_option maxRecDepth 100000 in
theorem mX2_assign (l : Launch) (dC : Nat → ClassId) (dI : Nat → Nat → Nat) (o : Nat) (o_ofLength : Nat) (o_lengths : Nat) (o_firstCode : Nat) (o_firstPlace : Nat) (o_given : Nat) (o_codes : Nat) (o_byCode : Nat) (o_ofLength_c : ClassId) (o_lengths_c : ClassId) (o_firstCode_c : ClassId) (o_firstPlace_c : ClassId) (o_given_c : ClassId) (o_codes_c : ClassId) (o_byCode_c : ClassId) (o_ofLength_n : Nat) (o_lengths_n : Nat) (o_firstCode_n : Nat) (o_firstPlace_n : Nat) (o_given_n : Nat) (o_codes_n : Nat) (o_byCode_n : Nat) (o_longest : Int32) (o_ofLength_v : Nat → Int32) (o_lengths_v : Nat → Int32) (o_firstCode_v : Nat → Int32) (o_firstPlace_v : Nat → Int32) (o_given_v : Nat → Int32) (o_codes_v : Nat → Int32) (o_byCode_v : Nat → Int32)  (sz : Nat) (u : Int32 × (Nat → Int32) × (Nat → Int32) × (Nat → Int32) × (Nat → Int32) × (Nat → Int32) × (Nat → Int32)) (h : pX2_assign o_ofLength_n o_lengths_n o_firstCode_n o_firstPlace_n o_given_n o_codes_n o_byCode_n o_lengths_v o_ofLength_v o_firstCode_v o_firstPlace_v o_given_v o_codes_v o_byCode_v = some u) : Met l yX2_assign (Cond.code yX2_assign cX2_assign 3 none :: fb_tb) ({ frames := 2, cells := 0, slots := 0, locals := 47 }) (fb_Pc (dC, dI) [.ref o] sz [(o_ofLength_c, .int), (o_lengths_c, .int), (o_firstCode_c, .int), (o_firstPlace_c, .int), (o_given_c, .int), (o_codes_c, .int), (o_byCode_c, .int)] [(o, .inr (2, [.ref o_lengths, .ref o_codes, .ref o_byCode, .ref o_ofLength, .ref o_firstCode, .ref o_firstPlace, .ref o_given, .int o_longest])), (o_ofLength, .inl (o_ofLength_c, o_ofLength_n, .inl o_ofLength_v)), (o_lengths, .inl (o_lengths_c, o_lengths_n, .inl o_lengths_v)), (o_firstCode, .inl (o_firstCode_c, o_firstCode_n, .inl o_firstCode_v)), (o_firstPlace, .inl (o_firstPlace_c, o_firstPlace_n, .inl o_firstPlace_v)), (o_given, .inl (o_given_c, o_given_n, .inl o_given_v)), (o_codes, .inl (o_codes_c, o_codes_n, .inl o_codes_v)), (o_byCode, .inl (o_byCode_c, o_byCode_n, .inl o_byCode_v))]) (fb_Qv (dC, dI) [(o, .inr (2, [.ref o_lengths, .ref o_codes, .ref o_byCode, .ref o_ofLength, .ref o_firstCode, .ref o_firstPlace, .ref o_given, .int u.1])), (o_ofLength, .inl (o_ofLength_c, o_ofLength_n, .inl u.2.1)), (o_lengths, .inl (o_lengths_c, o_lengths_n, .inl o_lengths_v)), (o_firstCode, .inl (o_firstCode_c, o_firstCode_n, .inl u.2.2.1)), (o_firstPlace, .inl (o_firstPlace_c, o_firstPlace_n, .inl u.2.2.2.1)), (o_given, .inl (o_given_c, o_given_n, .inl u.2.2.2.2.1)), (o_codes, .inl (o_codes_c, o_codes_n, .inl u.2.2.2.2.2.1)), (o_byCode, .inl (o_byCode_c, o_byCode_n, .inl u.2.2.2.2.2.2))] (va_A [(o, .inr (2, [.ref o_lengths, .ref o_codes, .ref o_byCode, .ref o_ofLength, .ref o_firstCode, .ref o_firstPlace, .ref o_given, .int o_longest])), (o_ofLength, .inl (o_ofLength_c, o_ofLength_n, .inl o_ofLength_v)), (o_lengths, .inl (o_lengths_c, o_lengths_n, .inl o_lengths_v)), (o_firstCode, .inl (o_firstCode_c, o_firstCode_n, .inl o_firstCode_v)), (o_firstPlace, .inl (o_firstPlace_c, o_firstPlace_n, .inl o_firstPlace_v)), (o_given, .inl (o_given_c, o_given_n, .inl o_given_v)), (o_codes, .inl (o_codes_c, o_codes_n, .inl o_codes_v)), (o_byCode, .inl (o_byCode_c, o_byCode_n, .inl o_byCode_v))] sz)) 0 0 (va_A [(o, .inr (2, [.ref o_lengths, .ref o_codes, .ref o_byCode, .ref o_ofLength, .ref o_firstCode, .ref o_firstPlace, .ref o_given, .int o_longest])), (o_ofLength, .inl (o_ofLength_c, o_ofLength_n, .inl o_ofLength_v)), (o_lengths, .inl (o_lengths_c, o_lengths_n, .inl o_lengths_v)), (o_firstCode, .inl (o_firstCode_c, o_firstCode_n, .inl o_firstCode_v)), (o_firstPlace, .inl (o_firstPlace_c, o_firstPlace_n, .inl o_firstPlace_v)), (o_given, .inl (o_given_c, o_given_n, .inl o_given_v)), (o_codes, .inl (o_codes_c, o_codes_n, .inl o_codes_v)), (o_byCode, .inl (o_byCode_c, o_byCode_n, .inl o_byCode_v))] sz) := by
  refine fb_metv (by decide) (Nat.le_of_ble_eq_true rfl) (fun p e s m args below meth c A Q ls H hx hb hml hown hts hP hK hN hZ hD hA hS hret hl => ?_)
  replace hl : lv_has ls 3 [(0, .ref o)] := hl
  have wB76 : ∀ n : Nat, ∀ (o_longest : Int32) (o_ofLength_v : Nat → Int32) (o_firstCode_v : Nat → Int32) (o_firstPlace_v : Nat → Int32) (o_given_v : Nat → Int32) (o_codes_v : Nat → Int32) (o_byCode_v : Nat → Int32) (x1 : Int32) (H : Heap) (locs : List Loc) (ls : Array Slot), va_P (dC, dI) fb_cl [(o, .inr (2, [.ref o_lengths, .ref o_codes, .ref o_byCode, .ref o_ofLength, .ref o_firstCode, .ref o_firstPlace, .ref o_given, .int o_longest])), (o_ofLength, .inl (o_ofLength_c, o_ofLength_n, .inl o_ofLength_v)), (o_lengths, .inl (o_lengths_c, o_lengths_n, .inl o_lengths_v)), (o_firstCode, .inl (o_firstCode_c, o_firstCode_n, .inl o_firstCode_v)), (o_firstPlace, .inl (o_firstPlace_c, o_firstPlace_n, .inl o_firstPlace_v)), (o_given, .inl (o_given_c, o_given_n, .inl o_given_v)), (o_codes, .inl (o_codes_c, o_codes_n, .inl o_codes_v)), (o_byCode, .inl (o_byCode_c, o_byCode_n, .inl o_byCode_v))] H → va_D A [(o, .inr (2, [.ref o_lengths, .ref o_codes, .ref o_byCode, .ref o_ofLength, .ref o_firstCode, .ref o_firstPlace, .ref o_given, .int o_longest])), (o_ofLength, .inl (o_ofLength_c, o_ofLength_n, .inl o_ofLength_v)), (o_lengths, .inl (o_lengths_c, o_lengths_n, .inl o_lengths_v)), (o_firstCode, .inl (o_firstCode_c, o_firstCode_n, .inl o_firstCode_v)), (o_firstPlace, .inl (o_firstPlace_c, o_firstPlace_n, .inl o_firstPlace_v)), (o_given, .inl (o_given_c, o_given_n, .inl o_given_v)), (o_codes, .inl (o_codes_c, o_codes_n, .inl o_codes_v)), (o_byCode, .inl (o_byCode_c, o_byCode_n, .inl o_byCode_v))] → va_S A s.heap H locs → lv_has ls 3 [(0, .ref o), (1, .int x1)] → pX2_assign_b76 o_lengths_n o_firstCode_n o_firstPlace_n o_given_n o_codes_n o_byCode_n o_lengths_v n o_longest o_ofLength_v o_firstCode_v o_firstPlace_v o_given_v o_codes_v o_byCode_v x1 = some u → W p l e ({ frames := 2, cells := 0, slots := 0, locals := 47 }) s m args below meth c H locs 0 0 Q (F0 m 76 ls []) := by
    intro n
    induction n with
    | zero => intro o_longest o_ofLength_v o_firstCode_v o_firstPlace_v o_given_v o_codes_v o_byCode_v x1 H locs ls hP hD hS hl h; cases h
    | succ n ih =>
      intro o_longest o_ofLength_v o_firstCode_v o_firstPlace_v o_given_v o_codes_v o_byCode_v x1 H locs ls hP hD hS hl h
      rw [pX2_assign_b76] at h
      refine lv_iload_n hx hb dX2_assign_76 rfl (lv_at hl 1 rfl) ?_
      refine lv_aload_n hx hb dX2_assign_77 rfl (lv_at hl 0 rfl) ?_
      refine va_get (D := (dC, dI)) (ci := 2) (v := .ref o_lengths) (C := RX2) (T := TX2) (N := 8) hx hb hts i_X2 hown hK hP 0 rfl rfl 0 (by decide) (hts _ k_156) (fun _ h9 => h9) rfl dX2_assign_78 ?_
      refine va_alen (v := (Int32.ofNat o_lengths_n)) hx hb hK hP 2 1 rfl rfl rfl dX2_assign_81 ?_
      refine lv_icmp_ge (tgt := 150) hx hb dX2_assign_82 (by decide) (fun c1 => ?_) (fun c1 => ?_)
      · replace h := fb_t c1 h
        have hu := Option.some.inj h
        exact hret _ _ _ _ dX2_assign_150 (by rw [← hu]; exact hP) (by rw [← hu]; exact hD) hS
      · replace h := fb_f c1 h
        refine lv_aload_n hx hb dX2_assign_85 rfl (lv_at hl 0 rfl) ?_
        refine va_get (D := (dC, dI)) (ci := 2) (v := .ref o_lengths) (C := RX2) (T := TX2) (N := 8) hx hb hts i_X2 hown hK hP 0 rfl rfl 0 (by decide) (hts _ k_156) (fun _ h9 => h9) rfl dX2_assign_86 ?_
        refine lv_iload_n hx hb dX2_assign_89 rfl (lv_at hl 1 rfl) ?_
        obtain ⟨g2, h⟩ := fb_g h
        refine va_iald hx hb hK hP 2 1 rfl rfl g2 dX2_assign_90 ?_
        refine lv_istore_n (lv' := [(2, .int (o_lengths_v (x1).toNatClampNeg)), (0, .ref o), (1, .int x1)]) hx hb dX2_assign_91 rfl hl (by decide) rfl (fun ls hl => ?_)
        refine lv_iload_n hx hb dX2_assign_92 rfl (lv_at hl 0 rfl) ?_
        refine lv_if_le (tgt := 144) hx hb dX2_assign_93 (by decide) (fun c3 => ?_) (fun c3 => ?_)
        · replace h := fb_t c3 h
          refine lv_iinc (v := (x1 + (1 : Int32))) (lv' := [(1, .int (x1 + (1 : Int32))), (2, .int (o_lengths_v (x1).toNatClampNeg)), (0, .ref o)]) hx hb dX2_assign_144 hl (k := 2) rfl rfl (by decide) rfl (fun ls hl => ?_)
          refine lv_goto (tgt := 76) hx hb dX2_assign_147 (by decide) ?_
          exact ih o_longest o_ofLength_v o_firstCode_v o_firstPlace_v o_given_v o_codes_v o_byCode_v (x1 + (1 : Int32)) _ _ _ hP hD hS (lv_sub hl [2, 0] rfl) h
        · replace h := fb_f c3 h
          refine lv_aload_n hx hb dX2_assign_96 rfl (lv_at hl 1 rfl) ?_
          refine va_get (D := (dC, dI)) (ci := 2) (v := .ref o_codes) (C := RX2) (T := TX2) (N := 8) hx hb hts i_X2 hown hK hP 0 rfl rfl 1 (by decide) (hts _ k_161) (fun _ h9 => h9) rfl dX2_assign_97 ?_
          refine lv_iload_n hx hb dX2_assign_100 rfl (lv_at hl 2 rfl) ?_
          refine lv_aload_n hx hb dX2_assign_101 rfl (lv_at hl 1 rfl) ?_
          refine va_get (D := (dC, dI)) (ci := 2) (v := .ref o_firstCode) (C := RX2) (T := TX2) (N := 8) hx hb hts i_X2 hown hK hP 0 rfl rfl 4 (by decide) (hts _ k_165) (fun _ h9 => h9) rfl dX2_assign_102 ?_
          refine lv_iload_n hx hb dX2_assign_105 rfl (lv_at hl 0 rfl) ?_
          obtain ⟨g4, h⟩ := fb_g h
          refine va_iald hx hb hK hP 3 2 rfl rfl g4 dX2_assign_106 ?_
          refine lv_aload_n hx hb dX2_assign_107 rfl (lv_at hl 1 rfl) ?_
          refine va_get (D := (dC, dI)) (ci := 2) (v := .ref o_given) (C := RX2) (T := TX2) (N := 8) hx hb hts i_X2 hown hK hP 0 rfl rfl 6 (by decide) (hts _ k_167) (fun _ h9 => h9) rfl dX2_assign_108 ?_
          refine lv_iload_n hx hb dX2_assign_111 rfl (lv_at hl 0 rfl) ?_
          obtain ⟨g5, h⟩ := fb_g h
          refine va_iald hx hb hK hP 5 4 rfl rfl g5 dX2_assign_112 ?_
          refine lv_iadd hx hb dX2_assign_113 ?_
          obtain ⟨g6, h⟩ := fb_g h
          refine va_iast hx hb hK hP hD hS 6 5 rfl rfl g6 dX2_assign_114 (fun H locs hP hD hS => ?_)
          replace hP : va_P (dC, dI) fb_cl [(o, .inr (2, [.ref o_lengths, .ref o_codes, .ref o_byCode, .ref o_ofLength, .ref o_firstCode, .ref o_firstPlace, .ref o_given, .int o_longest])), (o_ofLength, .inl (o_ofLength_c, o_ofLength_n, .inl o_ofLength_v)), (o_lengths, .inl (o_lengths_c, o_lengths_n, .inl o_lengths_v)), (o_firstCode, .inl (o_firstCode_c, o_firstCode_n, .inl o_firstCode_v)), (o_firstPlace, .inl (o_firstPlace_c, o_firstPlace_n, .inl o_firstPlace_v)), (o_given, .inl (o_given_c, o_given_n, .inl o_given_v)), (o_codes, .inl (o_codes_c, o_codes_n, .inl (upd o_codes_v (x1).toNatClampNeg ((o_firstCode_v ((o_lengths_v (x1).toNatClampNeg)).toNatClampNeg) + (o_given_v ((o_lengths_v (x1).toNatClampNeg)).toNatClampNeg))))), (o_byCode, .inl (o_byCode_c, o_byCode_n, .inl o_byCode_v))] H := hP
          replace hD : va_D A [(o, .inr (2, [.ref o_lengths, .ref o_codes, .ref o_byCode, .ref o_ofLength, .ref o_firstCode, .ref o_firstPlace, .ref o_given, .int o_longest])), (o_ofLength, .inl (o_ofLength_c, o_ofLength_n, .inl o_ofLength_v)), (o_lengths, .inl (o_lengths_c, o_lengths_n, .inl o_lengths_v)), (o_firstCode, .inl (o_firstCode_c, o_firstCode_n, .inl o_firstCode_v)), (o_firstPlace, .inl (o_firstPlace_c, o_firstPlace_n, .inl o_firstPlace_v)), (o_given, .inl (o_given_c, o_given_n, .inl o_given_v)), (o_codes, .inl (o_codes_c, o_codes_n, .inl (upd o_codes_v (x1).toNatClampNeg ((o_firstCode_v ((o_lengths_v (x1).toNatClampNeg)).toNatClampNeg) + (o_given_v ((o_lengths_v (x1).toNatClampNeg)).toNatClampNeg))))), (o_byCode, .inl (o_byCode_c, o_byCode_n, .inl o_byCode_v))] := hD
          refine lv_aload_n hx hb dX2_assign_115 rfl (lv_at hl 1 rfl) ?_
          refine va_get (D := (dC, dI)) (ci := 2) (v := .ref o_byCode) (C := RX2) (T := TX2) (N := 8) hx hb hts i_X2 hown hK hP 0 rfl rfl 2 (by decide) (hts _ k_163) (fun _ h9 => h9) rfl dX2_assign_116 ?_
          refine lv_aload_n hx hb dX2_assign_119 rfl (lv_at hl 1 rfl) ?_
          refine va_get (D := (dC, dI)) (ci := 2) (v := .ref o_firstPlace) (C := RX2) (T := TX2) (N := 8) hx hb hts i_X2 hown hK hP 0 rfl rfl 5 (by decide) (hts _ k_166) (fun _ h9 => h9) rfl dX2_assign_120 ?_
          refine lv_iload_n hx hb dX2_assign_123 rfl (lv_at hl 0 rfl) ?_
          obtain ⟨g7, h⟩ := fb_g h
          refine va_iald hx hb hK hP 4 3 rfl rfl g7 dX2_assign_124 ?_
          refine lv_aload_n hx hb dX2_assign_125 rfl (lv_at hl 1 rfl) ?_
          refine va_get (D := (dC, dI)) (ci := 2) (v := .ref o_given) (C := RX2) (T := TX2) (N := 8) hx hb hts i_X2 hown hK hP 0 rfl rfl 6 (by decide) (hts _ k_167) (fun _ h9 => h9) rfl dX2_assign_126 ?_
          refine lv_iload_n hx hb dX2_assign_129 rfl (lv_at hl 0 rfl) ?_
          obtain ⟨g8, h⟩ := fb_g h
          refine va_iald hx hb hK hP 5 4 rfl rfl g8 dX2_assign_130 ?_
          refine lv_iadd hx hb dX2_assign_131 ?_
          refine lv_iload_n hx hb dX2_assign_132 rfl (lv_at hl 2 rfl) ?_
          obtain ⟨g9, h⟩ := fb_g h
          refine va_iast hx hb hK hP hD hS 7 6 rfl rfl g9 dX2_assign_133 (fun H locs hP hD hS => ?_)
          replace hP : va_P (dC, dI) fb_cl [(o, .inr (2, [.ref o_lengths, .ref o_codes, .ref o_byCode, .ref o_ofLength, .ref o_firstCode, .ref o_firstPlace, .ref o_given, .int o_longest])), (o_ofLength, .inl (o_ofLength_c, o_ofLength_n, .inl o_ofLength_v)), (o_lengths, .inl (o_lengths_c, o_lengths_n, .inl o_lengths_v)), (o_firstCode, .inl (o_firstCode_c, o_firstCode_n, .inl o_firstCode_v)), (o_firstPlace, .inl (o_firstPlace_c, o_firstPlace_n, .inl o_firstPlace_v)), (o_given, .inl (o_given_c, o_given_n, .inl o_given_v)), (o_codes, .inl (o_codes_c, o_codes_n, .inl (upd o_codes_v (x1).toNatClampNeg ((o_firstCode_v ((o_lengths_v (x1).toNatClampNeg)).toNatClampNeg) + (o_given_v ((o_lengths_v (x1).toNatClampNeg)).toNatClampNeg))))), (o_byCode, .inl (o_byCode_c, o_byCode_n, .inl (upd o_byCode_v (((o_firstPlace_v ((o_lengths_v (x1).toNatClampNeg)).toNatClampNeg) + (o_given_v ((o_lengths_v (x1).toNatClampNeg)).toNatClampNeg))).toNatClampNeg x1)))] H := hP
          replace hD : va_D A [(o, .inr (2, [.ref o_lengths, .ref o_codes, .ref o_byCode, .ref o_ofLength, .ref o_firstCode, .ref o_firstPlace, .ref o_given, .int o_longest])), (o_ofLength, .inl (o_ofLength_c, o_ofLength_n, .inl o_ofLength_v)), (o_lengths, .inl (o_lengths_c, o_lengths_n, .inl o_lengths_v)), (o_firstCode, .inl (o_firstCode_c, o_firstCode_n, .inl o_firstCode_v)), (o_firstPlace, .inl (o_firstPlace_c, o_firstPlace_n, .inl o_firstPlace_v)), (o_given, .inl (o_given_c, o_given_n, .inl o_given_v)), (o_codes, .inl (o_codes_c, o_codes_n, .inl (upd o_codes_v (x1).toNatClampNeg ((o_firstCode_v ((o_lengths_v (x1).toNatClampNeg)).toNatClampNeg) + (o_given_v ((o_lengths_v (x1).toNatClampNeg)).toNatClampNeg))))), (o_byCode, .inl (o_byCode_c, o_byCode_n, .inl (upd o_byCode_v (((o_firstPlace_v ((o_lengths_v (x1).toNatClampNeg)).toNatClampNeg) + (o_given_v ((o_lengths_v (x1).toNatClampNeg)).toNatClampNeg))).toNatClampNeg x1)))] := hD
          refine lv_aload_n hx hb dX2_assign_134 rfl (lv_at hl 1 rfl) ?_
          refine va_get (D := (dC, dI)) (ci := 2) (v := .ref o_given) (C := RX2) (T := TX2) (N := 8) hx hb hts i_X2 hown hK hP 0 rfl rfl 6 (by decide) (hts _ k_167) (fun _ h9 => h9) rfl dX2_assign_135 ?_
          refine lv_iload_n hx hb dX2_assign_138 rfl (lv_at hl 0 rfl) ?_
          refine lv_dup2_11 hx hb dX2_assign_139 rfl rfl ?_
          obtain ⟨g10, h⟩ := fb_g h
          refine va_iald hx hb hK hP 5 4 rfl rfl g10 dX2_assign_140 ?_
          refine lv_iconst (v := (1 : Int32)) hx hb dX2_assign_141 (by decide) ?_
          refine lv_iadd hx hb dX2_assign_142 ?_
          obtain ⟨g11, h⟩ := fb_g h
          refine va_iast hx hb hK hP hD hS 5 4 rfl rfl g11 dX2_assign_143 (fun H locs hP hD hS => ?_)
          replace hP : va_P (dC, dI) fb_cl [(o, .inr (2, [.ref o_lengths, .ref o_codes, .ref o_byCode, .ref o_ofLength, .ref o_firstCode, .ref o_firstPlace, .ref o_given, .int o_longest])), (o_ofLength, .inl (o_ofLength_c, o_ofLength_n, .inl o_ofLength_v)), (o_lengths, .inl (o_lengths_c, o_lengths_n, .inl o_lengths_v)), (o_firstCode, .inl (o_firstCode_c, o_firstCode_n, .inl o_firstCode_v)), (o_firstPlace, .inl (o_firstPlace_c, o_firstPlace_n, .inl o_firstPlace_v)), (o_given, .inl (o_given_c, o_given_n, .inl (upd o_given_v ((o_lengths_v (x1).toNatClampNeg)).toNatClampNeg ((o_given_v ((o_lengths_v (x1).toNatClampNeg)).toNatClampNeg) + (1 : Int32))))), (o_codes, .inl (o_codes_c, o_codes_n, .inl (upd o_codes_v (x1).toNatClampNeg ((o_firstCode_v ((o_lengths_v (x1).toNatClampNeg)).toNatClampNeg) + (o_given_v ((o_lengths_v (x1).toNatClampNeg)).toNatClampNeg))))), (o_byCode, .inl (o_byCode_c, o_byCode_n, .inl (upd o_byCode_v (((o_firstPlace_v ((o_lengths_v (x1).toNatClampNeg)).toNatClampNeg) + (o_given_v ((o_lengths_v (x1).toNatClampNeg)).toNatClampNeg))).toNatClampNeg x1)))] H := hP
          replace hD : va_D A [(o, .inr (2, [.ref o_lengths, .ref o_codes, .ref o_byCode, .ref o_ofLength, .ref o_firstCode, .ref o_firstPlace, .ref o_given, .int o_longest])), (o_ofLength, .inl (o_ofLength_c, o_ofLength_n, .inl o_ofLength_v)), (o_lengths, .inl (o_lengths_c, o_lengths_n, .inl o_lengths_v)), (o_firstCode, .inl (o_firstCode_c, o_firstCode_n, .inl o_firstCode_v)), (o_firstPlace, .inl (o_firstPlace_c, o_firstPlace_n, .inl o_firstPlace_v)), (o_given, .inl (o_given_c, o_given_n, .inl (upd o_given_v ((o_lengths_v (x1).toNatClampNeg)).toNatClampNeg ((o_given_v ((o_lengths_v (x1).toNatClampNeg)).toNatClampNeg) + (1 : Int32))))), (o_codes, .inl (o_codes_c, o_codes_n, .inl (upd o_codes_v (x1).toNatClampNeg ((o_firstCode_v ((o_lengths_v (x1).toNatClampNeg)).toNatClampNeg) + (o_given_v ((o_lengths_v (x1).toNatClampNeg)).toNatClampNeg))))), (o_byCode, .inl (o_byCode_c, o_byCode_n, .inl (upd o_byCode_v (((o_firstPlace_v ((o_lengths_v (x1).toNatClampNeg)).toNatClampNeg) + (o_given_v ((o_lengths_v (x1).toNatClampNeg)).toNatClampNeg))).toNatClampNeg x1)))] := hD
          refine lv_iinc (v := (x1 + (1 : Int32))) (lv' := [(1, .int (x1 + (1 : Int32))), (2, .int (o_lengths_v (x1).toNatClampNeg)), (0, .ref o)]) hx hb dX2_assign_144 hl (k := 2) rfl rfl (by decide) rfl (fun ls hl => ?_)
          refine lv_goto (tgt := 76) hx hb dX2_assign_147 (by decide) ?_
          exact ih o_longest o_ofLength_v o_firstCode_v o_firstPlace_v (upd o_given_v ((o_lengths_v (x1).toNatClampNeg)).toNatClampNeg ((o_given_v ((o_lengths_v (x1).toNatClampNeg)).toNatClampNeg) + (1 : Int32))) (upd o_codes_v (x1).toNatClampNeg ((o_firstCode_v ((o_lengths_v (x1).toNatClampNeg)).toNatClampNeg) + (o_given_v ((o_lengths_v (x1).toNatClampNeg)).toNatClampNeg))) (upd o_byCode_v (((o_firstPlace_v ((o_lengths_v (x1).toNatClampNeg)).toNatClampNeg) + (o_given_v ((o_lengths_v (x1).toNatClampNeg)).toNatClampNeg))).toNatClampNeg x1) (x1 + (1 : Int32)) _ _ _ hP hD hS (lv_sub hl [2, 0] rfl) h
  have wB6 : ∀ n : Nat, ∀ (o_longest : Int32) (o_ofLength_v : Nat → Int32) (o_firstCode_v : Nat → Int32) (o_firstPlace_v : Nat → Int32) (o_given_v : Nat → Int32) (o_codes_v : Nat → Int32) (o_byCode_v : Nat → Int32) (x1 : Int32) (H : Heap) (locs : List Loc) (ls : Array Slot), va_P (dC, dI) fb_cl [(o, .inr (2, [.ref o_lengths, .ref o_codes, .ref o_byCode, .ref o_ofLength, .ref o_firstCode, .ref o_firstPlace, .ref o_given, .int o_longest])), (o_ofLength, .inl (o_ofLength_c, o_ofLength_n, .inl o_ofLength_v)), (o_lengths, .inl (o_lengths_c, o_lengths_n, .inl o_lengths_v)), (o_firstCode, .inl (o_firstCode_c, o_firstCode_n, .inl o_firstCode_v)), (o_firstPlace, .inl (o_firstPlace_c, o_firstPlace_n, .inl o_firstPlace_v)), (o_given, .inl (o_given_c, o_given_n, .inl o_given_v)), (o_codes, .inl (o_codes_c, o_codes_n, .inl o_codes_v)), (o_byCode, .inl (o_byCode_c, o_byCode_n, .inl o_byCode_v))] H → va_D A [(o, .inr (2, [.ref o_lengths, .ref o_codes, .ref o_byCode, .ref o_ofLength, .ref o_firstCode, .ref o_firstPlace, .ref o_given, .int o_longest])), (o_ofLength, .inl (o_ofLength_c, o_ofLength_n, .inl o_ofLength_v)), (o_lengths, .inl (o_lengths_c, o_lengths_n, .inl o_lengths_v)), (o_firstCode, .inl (o_firstCode_c, o_firstCode_n, .inl o_firstCode_v)), (o_firstPlace, .inl (o_firstPlace_c, o_firstPlace_n, .inl o_firstPlace_v)), (o_given, .inl (o_given_c, o_given_n, .inl o_given_v)), (o_codes, .inl (o_codes_c, o_codes_n, .inl o_codes_v)), (o_byCode, .inl (o_byCode_c, o_byCode_n, .inl o_byCode_v))] → va_S A s.heap H locs → lv_has ls 3 [(0, .ref o), (1, .int x1)] → pX2_assign_b6 o_ofLength_n o_lengths_n o_firstCode_n o_firstPlace_n o_given_n o_codes_n o_byCode_n o_lengths_v n o_longest o_ofLength_v o_firstCode_v o_firstPlace_v o_given_v o_codes_v o_byCode_v x1 = some u → W p l e ({ frames := 2, cells := 0, slots := 0, locals := 47 }) s m args below meth c H locs 0 0 Q (F0 m 6 ls []) := by
    intro n
    induction n with
    | zero => intro o_longest o_ofLength_v o_firstCode_v o_firstPlace_v o_given_v o_codes_v o_byCode_v x1 H locs ls hP hD hS hl h; cases h
    | succ n ih =>
      intro o_longest o_ofLength_v o_firstCode_v o_firstPlace_v o_given_v o_codes_v o_byCode_v x1 H locs ls hP hD hS hl h
      rw [pX2_assign_b6] at h
      refine lv_iload_n hx hb dX2_assign_6 rfl (lv_at hl 1 rfl) ?_
      refine lv_bipush (v := (15 : Int32)) hx hb dX2_assign_7 (by decide) ?_
      refine lv_icmp_gt (tgt := 66) hx hb dX2_assign_9 (by decide) (fun c12 => ?_) (fun c12 => ?_)
      · replace h := fb_t c12 h
        refine lv_aload_n hx hb dX2_assign_66 rfl (lv_at hl 0 rfl) ?_
        refine va_get (D := (dC, dI)) (ci := 2) (v := .ref o_given) (C := RX2) (T := TX2) (N := 8) hx hb hts i_X2 hown hK hP 0 rfl rfl 6 (by decide) (hts _ k_167) (fun _ h9 => h9) rfl dX2_assign_67 ?_
        refine lv_iconst (v := (0 : Int32)) hx hb dX2_assign_70 (by decide) ?_
        obtain ⟨u13, e13, h⟩ := fb_b h
        refine fb_cv (wc := [(o_given, .inl (o_given_c, o_given_n, .inl o_given_v))]) (wr := [(o, .inr (2, [.ref o_lengths, .ref o_codes, .ref o_byCode, .ref o_ofLength, .ref o_firstCode, .ref o_firstPlace, .ref o_given, .int o_longest])), (o_ofLength, .inl (o_ofLength_c, o_ofLength_n, .inl o_ofLength_v)), (o_lengths, .inl (o_lengths_c, o_lengths_n, .inl o_lengths_v)), (o_firstCode, .inl (o_firstCode_c, o_firstCode_n, .inl o_firstCode_v)), (o_firstPlace, .inl (o_firstPlace_c, o_firstPlace_n, .inl o_firstPlace_v)), (o_codes, .inl (o_codes_c, o_codes_n, .inl o_codes_v)), (o_byCode, .inl (o_byCode_c, o_byCode_n, .inl o_byCode_v))]) (w1 := [(o_given, .inl (o_given_c, o_given_n, .inl u13))]) (ws' := [(o, .inr (2, [.ref o_lengths, .ref o_codes, .ref o_byCode, .ref o_ofLength, .ref o_firstCode, .ref o_firstPlace, .ref o_given, .int o_longest])), (o_ofLength, .inl (o_ofLength_c, o_ofLength_n, .inl o_ofLength_v)), (o_lengths, .inl (o_lengths_c, o_lengths_n, .inl o_lengths_v)), (o_firstCode, .inl (o_firstCode_c, o_firstCode_n, .inl o_firstCode_v)), (o_firstPlace, .inl (o_firstPlace_c, o_firstPlace_n, .inl o_firstPlace_v)), (o_given, .inl (o_given_c, o_given_n, .inl u13)), (o_codes, .inl (o_codes_c, o_codes_n, .inl o_codes_v)), (o_byCode, .inl (o_byCode_c, o_byCode_n, .inl o_byCode_v))]) (va_runS (As := [.ref o_given, .int (0 : Int32)]) (rest := []) ⟨hx, hb, hml, hown, hts⟩ (mJ7_fill_53178 l dC dI o_given o_given_c o_given_n o_given_v (0 : Int32) H.size u13 e13) (va_cwS 2 hts (fb_GSx k_524 k_438 k_75 k_439) rfl rfl rfl hdJ7_fill_53178 ⟨Nat.le_of_ble_eq_true rfl, Nat.le_of_ble_eq_true rfl⟩) (fb_pS hP hD hS hA hK hN hZ [5] rfl rfl [4] rfl) rfl rfl hl.1 rfl (lv_room (Nat.le_of_ble_eq_true rfl)) dX2_assign_71 ⟨Nat.le_of_ble_eq_true rfl, Nat.le_of_ble_eq_true rfl⟩) hP hD hS hA [5] [0, 1, 2, 3, 4, 6, 7] rfl rfl rfl (by decide) [0, 1, 2, 3, 4, 7, 5, 6] rfl rfl (fun H locs hP hD hS => ?_)
        refine lv_iconst (v := (0 : Int32)) hx hb dX2_assign_74 (by decide) ?_
        refine lv_istore_n (lv' := [(1, .int (0 : Int32)), (0, .ref o)]) hx hb dX2_assign_75 rfl hl (by decide) rfl (fun ls hl => ?_)
        exact wB76 fb_F o_longest o_ofLength_v o_firstCode_v o_firstPlace_v u13 o_codes_v o_byCode_v (0 : Int32) _ _ _ hP hD hS (lv_sub hl [1, 0] rfl) h
      · replace h := fb_f c12 h
        refine lv_aload_n hx hb dX2_assign_12 rfl (lv_at hl 0 rfl) ?_
        refine va_get (D := (dC, dI)) (ci := 2) (v := .ref o_firstCode) (C := RX2) (T := TX2) (N := 8) hx hb hts i_X2 hown hK hP 0 rfl rfl 4 (by decide) (hts _ k_165) (fun _ h9 => h9) rfl dX2_assign_13 ?_
        refine lv_iload_n hx hb dX2_assign_16 rfl (lv_at hl 1 rfl) ?_
        refine lv_iconst (v := (2 : Int32)) hx hb dX2_assign_17 (by decide) ?_
        refine lv_aload_n hx hb dX2_assign_18 rfl (lv_at hl 0 rfl) ?_
        refine va_get (D := (dC, dI)) (ci := 2) (v := .ref o_firstCode) (C := RX2) (T := TX2) (N := 8) hx hb hts i_X2 hown hK hP 0 rfl rfl 4 (by decide) (hts _ k_165) (fun _ h9 => h9) rfl dX2_assign_19 ?_
        refine lv_iload_n hx hb dX2_assign_22 rfl (lv_at hl 1 rfl) ?_
        refine lv_iconst (v := (1 : Int32)) hx hb dX2_assign_23 (by decide) ?_
        refine lv_isub hx hb dX2_assign_24 ?_
        obtain ⟨g14, h⟩ := fb_g h
        refine va_iald hx hb hK hP 3 2 rfl rfl g14 dX2_assign_25 ?_
        refine lv_aload_n hx hb dX2_assign_26 rfl (lv_at hl 0 rfl) ?_
        refine va_get (D := (dC, dI)) (ci := 2) (v := .ref o_ofLength) (C := RX2) (T := TX2) (N := 8) hx hb hts i_X2 hown hK hP 0 rfl rfl 3 (by decide) (hts _ k_164) (fun _ h9 => h9) rfl dX2_assign_27 ?_
        refine lv_iload_n hx hb dX2_assign_30 rfl (lv_at hl 1 rfl) ?_
        refine lv_iconst (v := (1 : Int32)) hx hb dX2_assign_31 (by decide) ?_
        refine lv_isub hx hb dX2_assign_32 ?_
        obtain ⟨g15, h⟩ := fb_g h
        refine va_iald hx hb hK hP 1 0 rfl rfl g15 dX2_assign_33 ?_
        refine lv_iadd hx hb dX2_assign_34 ?_
        refine lv_imul hx hb dX2_assign_35 ?_
        obtain ⟨g16, h⟩ := fb_g h
        refine va_iast hx hb hK hP hD hS 3 2 rfl rfl g16 dX2_assign_36 (fun H locs hP hD hS => ?_)
        replace hP : va_P (dC, dI) fb_cl [(o, .inr (2, [.ref o_lengths, .ref o_codes, .ref o_byCode, .ref o_ofLength, .ref o_firstCode, .ref o_firstPlace, .ref o_given, .int o_longest])), (o_ofLength, .inl (o_ofLength_c, o_ofLength_n, .inl o_ofLength_v)), (o_lengths, .inl (o_lengths_c, o_lengths_n, .inl o_lengths_v)), (o_firstCode, .inl (o_firstCode_c, o_firstCode_n, .inl (upd o_firstCode_v (x1).toNatClampNeg ((2 : Int32) * ((o_firstCode_v ((x1 - (1 : Int32))).toNatClampNeg) + (o_ofLength_v ((x1 - (1 : Int32))).toNatClampNeg)))))), (o_firstPlace, .inl (o_firstPlace_c, o_firstPlace_n, .inl o_firstPlace_v)), (o_given, .inl (o_given_c, o_given_n, .inl o_given_v)), (o_codes, .inl (o_codes_c, o_codes_n, .inl o_codes_v)), (o_byCode, .inl (o_byCode_c, o_byCode_n, .inl o_byCode_v))] H := hP
        replace hD : va_D A [(o, .inr (2, [.ref o_lengths, .ref o_codes, .ref o_byCode, .ref o_ofLength, .ref o_firstCode, .ref o_firstPlace, .ref o_given, .int o_longest])), (o_ofLength, .inl (o_ofLength_c, o_ofLength_n, .inl o_ofLength_v)), (o_lengths, .inl (o_lengths_c, o_lengths_n, .inl o_lengths_v)), (o_firstCode, .inl (o_firstCode_c, o_firstCode_n, .inl (upd o_firstCode_v (x1).toNatClampNeg ((2 : Int32) * ((o_firstCode_v ((x1 - (1 : Int32))).toNatClampNeg) + (o_ofLength_v ((x1 - (1 : Int32))).toNatClampNeg)))))), (o_firstPlace, .inl (o_firstPlace_c, o_firstPlace_n, .inl o_firstPlace_v)), (o_given, .inl (o_given_c, o_given_n, .inl o_given_v)), (o_codes, .inl (o_codes_c, o_codes_n, .inl o_codes_v)), (o_byCode, .inl (o_byCode_c, o_byCode_n, .inl o_byCode_v))] := hD
        refine lv_aload_n hx hb dX2_assign_37 rfl (lv_at hl 0 rfl) ?_
        refine va_get (D := (dC, dI)) (ci := 2) (v := .ref o_firstPlace) (C := RX2) (T := TX2) (N := 8) hx hb hts i_X2 hown hK hP 0 rfl rfl 5 (by decide) (hts _ k_166) (fun _ h9 => h9) rfl dX2_assign_38 ?_
        refine lv_iload_n hx hb dX2_assign_41 rfl (lv_at hl 1 rfl) ?_
        refine lv_aload_n hx hb dX2_assign_42 rfl (lv_at hl 0 rfl) ?_
        refine va_get (D := (dC, dI)) (ci := 2) (v := .ref o_firstPlace) (C := RX2) (T := TX2) (N := 8) hx hb hts i_X2 hown hK hP 0 rfl rfl 5 (by decide) (hts _ k_166) (fun _ h9 => h9) rfl dX2_assign_43 ?_
        refine lv_iload_n hx hb dX2_assign_46 rfl (lv_at hl 1 rfl) ?_
        refine lv_iconst (v := (1 : Int32)) hx hb dX2_assign_47 (by decide) ?_
        refine lv_isub hx hb dX2_assign_48 ?_
        obtain ⟨g17, h⟩ := fb_g h
        refine va_iald hx hb hK hP 4 3 rfl rfl g17 dX2_assign_49 ?_
        refine lv_aload_n hx hb dX2_assign_50 rfl (lv_at hl 0 rfl) ?_
        refine va_get (D := (dC, dI)) (ci := 2) (v := .ref o_ofLength) (C := RX2) (T := TX2) (N := 8) hx hb hts i_X2 hown hK hP 0 rfl rfl 3 (by decide) (hts _ k_164) (fun _ h9 => h9) rfl dX2_assign_51 ?_
        refine lv_iload_n hx hb dX2_assign_54 rfl (lv_at hl 1 rfl) ?_
        refine lv_iconst (v := (1 : Int32)) hx hb dX2_assign_55 (by decide) ?_
        refine lv_isub hx hb dX2_assign_56 ?_
        obtain ⟨g18, h⟩ := fb_g h
        refine va_iald hx hb hK hP 1 0 rfl rfl g18 dX2_assign_57 ?_
        refine lv_iadd hx hb dX2_assign_58 ?_
        obtain ⟨g19, h⟩ := fb_g h
        refine va_iast hx hb hK hP hD hS 4 3 rfl rfl g19 dX2_assign_59 (fun H locs hP hD hS => ?_)
        replace hP : va_P (dC, dI) fb_cl [(o, .inr (2, [.ref o_lengths, .ref o_codes, .ref o_byCode, .ref o_ofLength, .ref o_firstCode, .ref o_firstPlace, .ref o_given, .int o_longest])), (o_ofLength, .inl (o_ofLength_c, o_ofLength_n, .inl o_ofLength_v)), (o_lengths, .inl (o_lengths_c, o_lengths_n, .inl o_lengths_v)), (o_firstCode, .inl (o_firstCode_c, o_firstCode_n, .inl (upd o_firstCode_v (x1).toNatClampNeg ((2 : Int32) * ((o_firstCode_v ((x1 - (1 : Int32))).toNatClampNeg) + (o_ofLength_v ((x1 - (1 : Int32))).toNatClampNeg)))))), (o_firstPlace, .inl (o_firstPlace_c, o_firstPlace_n, .inl (upd o_firstPlace_v (x1).toNatClampNeg ((o_firstPlace_v ((x1 - (1 : Int32))).toNatClampNeg) + (o_ofLength_v ((x1 - (1 : Int32))).toNatClampNeg))))), (o_given, .inl (o_given_c, o_given_n, .inl o_given_v)), (o_codes, .inl (o_codes_c, o_codes_n, .inl o_codes_v)), (o_byCode, .inl (o_byCode_c, o_byCode_n, .inl o_byCode_v))] H := hP
        replace hD : va_D A [(o, .inr (2, [.ref o_lengths, .ref o_codes, .ref o_byCode, .ref o_ofLength, .ref o_firstCode, .ref o_firstPlace, .ref o_given, .int o_longest])), (o_ofLength, .inl (o_ofLength_c, o_ofLength_n, .inl o_ofLength_v)), (o_lengths, .inl (o_lengths_c, o_lengths_n, .inl o_lengths_v)), (o_firstCode, .inl (o_firstCode_c, o_firstCode_n, .inl (upd o_firstCode_v (x1).toNatClampNeg ((2 : Int32) * ((o_firstCode_v ((x1 - (1 : Int32))).toNatClampNeg) + (o_ofLength_v ((x1 - (1 : Int32))).toNatClampNeg)))))), (o_firstPlace, .inl (o_firstPlace_c, o_firstPlace_n, .inl (upd o_firstPlace_v (x1).toNatClampNeg ((o_firstPlace_v ((x1 - (1 : Int32))).toNatClampNeg) + (o_ofLength_v ((x1 - (1 : Int32))).toNatClampNeg))))), (o_given, .inl (o_given_c, o_given_n, .inl o_given_v)), (o_codes, .inl (o_codes_c, o_codes_n, .inl o_codes_v)), (o_byCode, .inl (o_byCode_c, o_byCode_n, .inl o_byCode_v))] := hD
        refine lv_iinc (v := (x1 + (1 : Int32))) (lv' := [(1, .int (x1 + (1 : Int32))), (0, .ref o)]) hx hb dX2_assign_60 hl (k := 1) rfl rfl (by decide) rfl (fun ls hl => ?_)
        refine lv_goto (tgt := 6) hx hb dX2_assign_63 (by decide) ?_
        exact ih o_longest o_ofLength_v (upd o_firstCode_v (x1).toNatClampNeg ((2 : Int32) * ((o_firstCode_v ((x1 - (1 : Int32))).toNatClampNeg) + (o_ofLength_v ((x1 - (1 : Int32))).toNatClampNeg)))) (upd o_firstPlace_v (x1).toNatClampNeg ((o_firstPlace_v ((x1 - (1 : Int32))).toNatClampNeg) + (o_ofLength_v ((x1 - (1 : Int32))).toNatClampNeg))) o_given_v o_codes_v o_byCode_v (x1 + (1 : Int32)) _ _ _ hP hD hS (lv_sub hl [1, 0] rfl) h
  unfold pX2_assign at h
  refine lv_aload_n hx hb dX2_assign_0 rfl (lv_at hl 0 rfl) ?_
  obtain ⟨u20, e20, h⟩ := fb_b h
  refine fb_cv (wc := [(o, .inr (2, [.ref o_lengths, .ref o_codes, .ref o_byCode, .ref o_ofLength, .ref o_firstCode, .ref o_firstPlace, .ref o_given, .int o_longest])), (o_ofLength, .inl (o_ofLength_c, o_ofLength_n, .inl o_ofLength_v)), (o_lengths, .inl (o_lengths_c, o_lengths_n, .inl o_lengths_v))]) (wr := [(o_firstCode, .inl (o_firstCode_c, o_firstCode_n, .inl o_firstCode_v)), (o_firstPlace, .inl (o_firstPlace_c, o_firstPlace_n, .inl o_firstPlace_v)), (o_given, .inl (o_given_c, o_given_n, .inl o_given_v)), (o_codes, .inl (o_codes_c, o_codes_n, .inl o_codes_v)), (o_byCode, .inl (o_byCode_c, o_byCode_n, .inl o_byCode_v))]) (w1 := [(o, .inr (2, [.ref o_lengths, .ref o_codes, .ref o_byCode, .ref o_ofLength, .ref o_firstCode, .ref o_firstPlace, .ref o_given, .int u20.1])), (o_ofLength, .inl (o_ofLength_c, o_ofLength_n, .inl u20.2)), (o_lengths, .inl (o_lengths_c, o_lengths_n, .inl o_lengths_v))]) (ws' := [(o, .inr (2, [.ref o_lengths, .ref o_codes, .ref o_byCode, .ref o_ofLength, .ref o_firstCode, .ref o_firstPlace, .ref o_given, .int u20.1])), (o_ofLength, .inl (o_ofLength_c, o_ofLength_n, .inl u20.2)), (o_lengths, .inl (o_lengths_c, o_lengths_n, .inl o_lengths_v)), (o_firstCode, .inl (o_firstCode_c, o_firstCode_n, .inl o_firstCode_v)), (o_firstPlace, .inl (o_firstPlace_c, o_firstPlace_n, .inl o_firstPlace_v)), (o_given, .inl (o_given_c, o_given_n, .inl o_given_v)), (o_codes, .inl (o_codes_c, o_codes_n, .inl o_codes_v)), (o_byCode, .inl (o_byCode_c, o_byCode_n, .inl o_byCode_v))]) (va_runV (As := []) (rest := []) ⟨hx, hb, hml, hown, hts⟩ (mX2_countLengths l dC dI o o_ofLength o_lengths o_codes o_byCode o_firstCode o_firstPlace o_given o_ofLength_c o_lengths_c o_ofLength_n o_lengths_n o_longest o_ofLength_v o_lengths_v H.size u20 e20) (cwV 0 hts (fb_GV k_520 k_522 k_10 k_67 k_523) rfl rfl rfl hdX2_countLengths ⟨Nat.le_of_ble_eq_true rfl, Nat.le_of_ble_eq_true rfl⟩) (fb_pV hP hD hS hA hK hN hZ [0, 1, 2] rfl rfl [0, 1] rfl (q0 := 0) (ci := 2) rfl rfl) rfl rfl hl.1 rfl (lv_room (Nat.le_of_ble_eq_true rfl)) dX2_assign_1 ⟨Nat.le_of_ble_eq_true rfl, Nat.le_of_ble_eq_true rfl⟩) hP hD hS hA [0, 1, 2] [3, 4, 5, 6, 7] rfl rfl rfl (by decide) [5, 6, 7, 0, 1, 2, 3, 4] rfl rfl (fun H locs hP hD hS => ?_)
  refine lv_iconst (v := (1 : Int32)) hx hb dX2_assign_4 (by decide) ?_
  refine lv_istore_n (lv' := [(1, .int (1 : Int32)), (0, .ref o)]) hx hb dX2_assign_5 rfl hl (by decide) rfl (fun ls hl => ?_)
  exact wB6 fb_F u20.1 u20.2 o_firstCode_v o_firstPlace_v o_given_v o_codes_v o_byCode_v (1 : Int32) _ _ _ hP hD hS (lv_sub hl [1, 0] rfl) h
theorem dX2_areComplete_0 : decode cX2_areComplete 0 = .ok (.iconst 1, 1) := by decide +kernel
theorem dX2_areComplete_1 : decode cX2_areComplete 1 = .ok (.istore_n 1, 1) := by decide +kernel
theorem dX2_areComplete_2 : decode cX2_areComplete 2 = .ok (.iconst 1, 1) := by decide +kernel
theorem dX2_areComplete_3 : decode cX2_areComplete 3 = .ok (.istore_n 2, 1) := by decide +kernel
theorem dX2_areComplete_4 : decode cX2_areComplete 4 = .ok (.iload_n 2, 1) := by decide +kernel
theorem dX2_areComplete_5 : decode cX2_areComplete 5 = .ok (.bipush 15, 2) := by decide +kernel
theorem dX2_areComplete_7 : decode cX2_areComplete 7 = .ok (.if_icmp .gt 20, 3) := by decide +kernel
theorem dX2_areComplete_10 : decode cX2_areComplete 10 = .ok (.iconst 2, 1) := by decide +kernel
theorem dX2_areComplete_11 : decode cX2_areComplete 11 = .ok (.iload_n 1, 1) := by decide +kernel
theorem dX2_areComplete_12 : decode cX2_areComplete 12 = .ok (.imul, 1) := by decide +kernel
theorem dX2_areComplete_13 : decode cX2_areComplete 13 = .ok (.aload_n 0, 1) := by decide +kernel
theorem dX2_areComplete_14 : decode cX2_areComplete 14 = .ok (.getfield 9, 3) := by decide +kernel
theorem dX2_areComplete_17 : decode cX2_areComplete 17 = .ok (.iload_n 2, 1) := by decide +kernel
theorem dX2_areComplete_18 : decode cX2_areComplete 18 = .ok (.iaload, 1) := by decide +kernel
theorem dX2_areComplete_19 : decode cX2_areComplete 19 = .ok (.isub, 1) := by decide +kernel
theorem dX2_areComplete_20 : decode cX2_areComplete 20 = .ok (.istore_n 1, 1) := by decide +kernel
theorem dX2_areComplete_21 : decode cX2_areComplete 21 = .ok (.iinc 2 1, 3) := by decide +kernel
theorem dX2_areComplete_24 : decode cX2_areComplete 24 = .ok (.goto (-20), 3) := by decide +kernel
theorem dX2_areComplete_27 : decode cX2_areComplete 27 = .ok (.iload_n 1, 1) := by decide +kernel
theorem dX2_areComplete_28 : decode cX2_areComplete 28 = .ok (.ifCond .ne 7, 3) := by decide +kernel
theorem dX2_areComplete_31 : decode cX2_areComplete 31 = .ok (.iconst 1, 1) := by decide +kernel
theorem dX2_areComplete_32 : decode cX2_areComplete 32 = .ok (.goto 4, 3) := by decide +kernel
theorem dX2_areComplete_35 : decode cX2_areComplete 35 = .ok (.iconst 0, 1) := by decide +kernel
theorem dX2_areComplete_36 : decode cX2_areComplete 36 = .ok (.ireturn, 1) := by decide +kernel
def pX2_areComplete_b4 (o_ofLength_n : Nat) (o_ofLength_v : Nat → Int32)  : Nat → Int32 → Int32 → Option (Int32)
  | 0 => fun _ _ => none
  | n + 1 => fun x1 x2 =>
  if (15 : Int32) < x2 then
  (if x1 = 0 then
  (some ((1 : Int32)))
  else
  (some ((0 : Int32))))
  else
  (if x2 < 0 ∨ o_ofLength_n ≤ (x2).toNatClampNeg then none else
  (pX2_areComplete_b4 o_ofLength_n o_ofLength_v n) (((2 : Int32) * x1) - (o_ofLength_v (x2).toNatClampNeg)) (x2 + (1 : Int32)))
def pX2_areComplete (o_ofLength_n : Nat) (o_ofLength_v : Nat → Int32)   : Option (Int32) :=
  pX2_areComplete_b4 o_ofLength_n o_ofLength_v fb_F (1 : Int32) (1 : Int32)
theorem hdX2_areComplete : yX2_areComplete.cls = RX2 ∧ yX2_areComplete.cls ≠ "java/lang/invoke/MethodHandle" ∧ yX2_areComplete.cls ≠ "java/lang/invoke/VarHandle" ∧ (parseMethodDescriptor yX2_areComplete.desc).map (fun d => d.parameters.length) = some 0 := by decide +kernel
set_option maxHeartbeats 8000000 in
set_option maxRecDepth 100000 in
theorem mX2_areComplete (l : Launch) (dC : Nat → ClassId) (dI : Nat → Nat → Nat) (o : Nat) (o_ofLength : Nat) (o_lengths : Nat) (o_codes : Nat) (o_byCode : Nat) (o_firstCode : Nat) (o_firstPlace : Nat) (o_given : Nat) (o_ofLength_c : ClassId) (o_ofLength_n : Nat) (o_longest : Int32) (o_ofLength_v : Nat → Int32)  (sz : Nat) (u : Int32) (h : pX2_areComplete o_ofLength_n o_ofLength_v = some u) : Met l yX2_areComplete (Cond.code yX2_areComplete cX2_areComplete 3 (some .boolean) :: fb_tb) ({ frames := 0, cells := 0, slots := 0, locals := 0 }) (fb_Pc (dC, dI) [.ref o] sz [(o_ofLength_c, .int)] [(o, .inr (2, [.ref o_lengths, .ref o_codes, .ref o_byCode, .ref o_ofLength, .ref o_firstCode, .ref o_firstPlace, .ref o_given, .int o_longest])), (o_ofLength, .inl (o_ofLength_c, o_ofLength_n, .inl o_ofLength_v))]) (fb_Qi (dC, dI) u [(o, .inr (2, [.ref o_lengths, .ref o_codes, .ref o_byCode, .ref o_ofLength, .ref o_firstCode, .ref o_firstPlace, .ref o_given, .int o_longest])), (o_ofLength, .inl (o_ofLength_c, o_ofLength_n, .inl o_ofLength_v))] (va_A [(o, .inr (2, [.ref o_lengths, .ref o_codes, .ref o_byCode, .ref o_ofLength, .ref o_firstCode, .ref o_firstPlace, .ref o_given, .int o_longest])), (o_ofLength, .inl (o_ofLength_c, o_ofLength_n, .inl o_ofLength_v))] sz)) 0 0 (va_A [(o, .inr (2, [.ref o_lengths, .ref o_codes, .ref o_byCode, .ref o_ofLength, .ref o_firstCode, .ref o_firstPlace, .ref o_given, .int o_longest])), (o_ofLength, .inl (o_ofLength_c, o_ofLength_n, .inl o_ofLength_v))] sz) := by
  refine fb_meti (ty := .boolean) (by decide) (Nat.le_of_ble_eq_true rfl) (fun p e s m args below meth c A Q ls H hx hb hml hown hts hP hK hN hZ hD hA hS hret hl => ?_)
  replace hl : lv_has ls 3 [(0, .ref o)] := hl
  have wB4 : ∀ n : Nat, ∀ (x1 : Int32) (x2 : Int32) (H : Heap) (locs : List Loc) (ls : Array Slot), va_P (dC, dI) fb_cl [(o, .inr (2, [.ref o_lengths, .ref o_codes, .ref o_byCode, .ref o_ofLength, .ref o_firstCode, .ref o_firstPlace, .ref o_given, .int o_longest])), (o_ofLength, .inl (o_ofLength_c, o_ofLength_n, .inl o_ofLength_v))] H → va_D A [(o, .inr (2, [.ref o_lengths, .ref o_codes, .ref o_byCode, .ref o_ofLength, .ref o_firstCode, .ref o_firstPlace, .ref o_given, .int o_longest])), (o_ofLength, .inl (o_ofLength_c, o_ofLength_n, .inl o_ofLength_v))] → va_S A s.heap H locs → lv_has ls 3 [(0, .ref o), (1, .int x1), (2, .int x2)] → pX2_areComplete_b4 o_ofLength_n o_ofLength_v n x1 x2 = some u → W p l e ({ frames := 0, cells := 0, slots := 0, locals := 0 }) s m args below meth c H locs 0 0 Q (F0 m 4 ls []) := by
    intro n
    induction n with
    | zero => intro x1 x2 H locs ls hP hD hS hl h; cases h
    | succ n ih =>
      intro x1 x2 H locs ls hP hD hS hl h
      rw [pX2_areComplete_b4] at h
      refine lv_iload_n hx hb dX2_areComplete_4 rfl (lv_at hl 2 rfl) ?_
      refine lv_bipush (v := (15 : Int32)) hx hb dX2_areComplete_5 (by decide) ?_
      refine lv_icmp_gt (tgt := 27) hx hb dX2_areComplete_7 (by decide) (fun c1 => ?_) (fun c1 => ?_)
      · replace h := fb_t c1 h
        refine lv_iload_n hx hb dX2_areComplete_27 rfl (lv_at hl 1 rfl) ?_
        refine lv_if_ne (tgt := 35) hx hb dX2_areComplete_28 (by decide) (fun c2 => ?_) (fun c2 => ?_)
        · replace h := fb_f c2 h
          refine lv_iconst (v := (0 : Int32)) hx hb dX2_areComplete_35 (by decide) ?_
          have hu := Option.some.inj h
          exact hret _ _ _ _ _ dX2_areComplete_36 rfl (by rw [← hu]) hP hD hS
        · replace h := fb_t c2 h
          refine lv_iconst (v := (1 : Int32)) hx hb dX2_areComplete_31 (by decide) ?_
          refine lv_goto (tgt := 36) hx hb dX2_areComplete_32 (by decide) ?_
          have hu := Option.some.inj h
          exact hret _ _ _ _ _ dX2_areComplete_36 rfl (by rw [← hu]) hP hD hS
      · replace h := fb_f c1 h
        refine lv_iconst (v := (2 : Int32)) hx hb dX2_areComplete_10 (by decide) ?_
        refine lv_iload_n hx hb dX2_areComplete_11 rfl (lv_at hl 1 rfl) ?_
        refine lv_imul hx hb dX2_areComplete_12 ?_
        refine lv_aload_n hx hb dX2_areComplete_13 rfl (lv_at hl 0 rfl) ?_
        refine va_get (D := (dC, dI)) (ci := 2) (v := .ref o_ofLength) (C := RX2) (T := TX2) (N := 8) hx hb hts i_X2 hown hK hP 0 rfl rfl 3 (by decide) (hts _ k_164) (fun _ h9 => h9) rfl dX2_areComplete_14 ?_
        refine lv_iload_n hx hb dX2_areComplete_17 rfl (lv_at hl 2 rfl) ?_
        obtain ⟨g3, h⟩ := fb_g h
        refine va_iald hx hb hK hP 1 0 rfl rfl g3 dX2_areComplete_18 ?_
        refine lv_isub hx hb dX2_areComplete_19 ?_
        refine lv_istore_n (lv' := [(1, .int (((2 : Int32) * x1) - (o_ofLength_v (x2).toNatClampNeg))), (0, .ref o), (2, .int x2)]) hx hb dX2_areComplete_20 rfl hl (by decide) rfl (fun ls hl => ?_)
        refine lv_iinc (v := (x2 + (1 : Int32))) (lv' := [(2, .int (x2 + (1 : Int32))), (1, .int (((2 : Int32) * x1) - (o_ofLength_v (x2).toNatClampNeg))), (0, .ref o)]) hx hb dX2_areComplete_21 hl (k := 2) rfl rfl (by decide) rfl (fun ls hl => ?_)
        refine lv_goto (tgt := 4) hx hb dX2_areComplete_24 (by decide) ?_
        exact ih (((2 : Int32) * x1) - (o_ofLength_v (x2).toNatClampNeg)) (x2 + (1 : Int32)) _ _ _ hP hD hS (lv_sub hl [2, 1, 0] rfl) h
  unfold pX2_areComplete at h
  refine lv_iconst (v := (1 : Int32)) hx hb dX2_areComplete_0 (by decide) ?_
  refine lv_istore_n (lv' := [(1, .int (1 : Int32)), (0, .ref o)]) hx hb dX2_areComplete_1 rfl hl (by decide) rfl (fun ls hl => ?_)
  refine lv_iconst (v := (1 : Int32)) hx hb dX2_areComplete_2 (by decide) ?_
  refine lv_istore_n (lv' := [(2, .int (1 : Int32)), (1, .int (1 : Int32)), (0, .ref o)]) hx hb dX2_areComplete_3 rfl hl (by decide) rfl (fun ls hl => ?_)
  exact wB4 fb_F (1 : Int32) (1 : Int32) _ _ _ hP hD hS (lv_sub hl [2, 1, 0] rfl) h
theorem dX2_areOneAloneOfOneBit_0 : decode cX2_areOneAloneOfOneBit 0 = .ok (.aload_n 0, 1) := by decide +kernel
theorem dX2_areOneAloneOfOneBit_1 : decode cX2_areOneAloneOfOneBit 1 = .ok (.getfield 51, 3) := by decide +kernel
theorem dX2_areOneAloneOfOneBit_4 : decode cX2_areOneAloneOfOneBit 4 = .ok (.iconst 1, 1) := by decide +kernel
theorem dX2_areOneAloneOfOneBit_5 : decode cX2_areOneAloneOfOneBit 5 = .ok (.if_icmp .ne 17, 3) := by decide +kernel
theorem dX2_areOneAloneOfOneBit_8 : decode cX2_areOneAloneOfOneBit 8 = .ok (.aload_n 0, 1) := by decide +kernel
theorem dX2_areOneAloneOfOneBit_9 : decode cX2_areOneAloneOfOneBit 9 = .ok (.getfield 9, 3) := by decide +kernel
theorem dX2_areOneAloneOfOneBit_12 : decode cX2_areOneAloneOfOneBit 12 = .ok (.iconst 1, 1) := by decide +kernel
theorem dX2_areOneAloneOfOneBit_13 : decode cX2_areOneAloneOfOneBit 13 = .ok (.iaload, 1) := by decide +kernel
theorem dX2_areOneAloneOfOneBit_14 : decode cX2_areOneAloneOfOneBit 14 = .ok (.iconst 1, 1) := by decide +kernel
theorem dX2_areOneAloneOfOneBit_15 : decode cX2_areOneAloneOfOneBit 15 = .ok (.if_icmp .ne 7, 3) := by decide +kernel
theorem dX2_areOneAloneOfOneBit_18 : decode cX2_areOneAloneOfOneBit 18 = .ok (.iconst 1, 1) := by decide +kernel
theorem dX2_areOneAloneOfOneBit_19 : decode cX2_areOneAloneOfOneBit 19 = .ok (.goto 4, 3) := by decide +kernel
theorem dX2_areOneAloneOfOneBit_22 : decode cX2_areOneAloneOfOneBit 22 = .ok (.iconst 0, 1) := by decide +kernel
theorem dX2_areOneAloneOfOneBit_23 : decode cX2_areOneAloneOfOneBit 23 = .ok (.ireturn, 1) := by decide +kernel
def pX2_areOneAloneOfOneBit (o_ofLength_n : Nat) (o_longest : Int32) (o_ofLength_v : Nat → Int32)   : Option (Int32) :=
  if o_longest = (1 : Int32) then
  (if (1 : Int32) < 0 ∨ o_ofLength_n ≤ ((1 : Int32)).toNatClampNeg then none else
  if (o_ofLength_v ((1 : Int32)).toNatClampNeg) = (1 : Int32) then
  (some ((1 : Int32)))
  else
  (some ((0 : Int32))))
  else
  (some ((0 : Int32)))
theorem hdX2_areOneAloneOfOneBit : yX2_areOneAloneOfOneBit.cls = RX2 ∧ yX2_areOneAloneOfOneBit.cls ≠ "java/lang/invoke/MethodHandle" ∧ yX2_areOneAloneOfOneBit.cls ≠ "java/lang/invoke/VarHandle" ∧ (parseMethodDescriptor yX2_areOneAloneOfOneBit.desc).map (fun d => d.parameters.length) = some 0 := by decide +kernel
set_option maxHeartbeats 8000000 in
set_option maxRecDepth 100000 in
theorem mX2_areOneAloneOfOneBit (l : Launch) (dC : Nat → ClassId) (dI : Nat → Nat → Nat) (o : Nat) (o_ofLength : Nat) (o_lengths : Nat) (o_codes : Nat) (o_byCode : Nat) (o_firstCode : Nat) (o_firstPlace : Nat) (o_given : Nat) (o_ofLength_c : ClassId) (o_ofLength_n : Nat) (o_longest : Int32) (o_ofLength_v : Nat → Int32)  (sz : Nat) (u : Int32) (h : pX2_areOneAloneOfOneBit o_ofLength_n o_longest o_ofLength_v = some u) : Met l yX2_areOneAloneOfOneBit (Cond.code yX2_areOneAloneOfOneBit cX2_areOneAloneOfOneBit 1 (some .boolean) :: fb_tb) ({ frames := 0, cells := 0, slots := 0, locals := 0 }) (fb_Pc (dC, dI) [.ref o] sz [(o_ofLength_c, .int)] [(o, .inr (2, [.ref o_lengths, .ref o_codes, .ref o_byCode, .ref o_ofLength, .ref o_firstCode, .ref o_firstPlace, .ref o_given, .int o_longest])), (o_ofLength, .inl (o_ofLength_c, o_ofLength_n, .inl o_ofLength_v))]) (fb_Qi (dC, dI) u [(o, .inr (2, [.ref o_lengths, .ref o_codes, .ref o_byCode, .ref o_ofLength, .ref o_firstCode, .ref o_firstPlace, .ref o_given, .int o_longest])), (o_ofLength, .inl (o_ofLength_c, o_ofLength_n, .inl o_ofLength_v))] (va_A [(o, .inr (2, [.ref o_lengths, .ref o_codes, .ref o_byCode, .ref o_ofLength, .ref o_firstCode, .ref o_firstPlace, .ref o_given, .int o_longest])), (o_ofLength, .inl (o_ofLength_c, o_ofLength_n, .inl o_ofLength_v))] sz)) 0 0 (va_A [(o, .inr (2, [.ref o_lengths, .ref o_codes, .ref o_byCode, .ref o_ofLength, .ref o_firstCode, .ref o_firstPlace, .ref o_given, .int o_longest])), (o_ofLength, .inl (o_ofLength_c, o_ofLength_n, .inl o_ofLength_v))] sz) := by
  refine fb_meti (ty := .boolean) (by decide) (Nat.le_of_ble_eq_true rfl) (fun p e s m args below meth c A Q ls H hx hb hml hown hts hP hK hN hZ hD hA hS hret hl => ?_)
  replace hl : lv_has ls 1 [(0, .ref o)] := hl
  unfold pX2_areOneAloneOfOneBit at h
  refine lv_aload_n hx hb dX2_areOneAloneOfOneBit_0 rfl (lv_at hl 0 rfl) ?_
  refine va_get (D := (dC, dI)) (ci := 2) (v := .int o_longest) (C := RX2) (T := TX2) (N := 8) hx hb hts i_X2 hown hK hP 0 rfl rfl 7 (by decide) (hts _ k_168) (fun _ h9 => h9) rfl dX2_areOneAloneOfOneBit_1 ?_
  refine lv_iconst (v := (1 : Int32)) hx hb dX2_areOneAloneOfOneBit_4 (by decide) ?_
  refine lv_icmp_ne (tgt := 22) hx hb dX2_areOneAloneOfOneBit_5 (by decide) (fun c1 => ?_) (fun c1 => ?_)
  · replace h := fb_f c1 h
    refine lv_iconst (v := (0 : Int32)) hx hb dX2_areOneAloneOfOneBit_22 (by decide) ?_
    have hu := Option.some.inj h
    exact hret _ _ _ _ _ dX2_areOneAloneOfOneBit_23 rfl (by rw [← hu]) hP hD hS
  · replace h := fb_t c1 h
    refine lv_aload_n hx hb dX2_areOneAloneOfOneBit_8 rfl (lv_at hl 0 rfl) ?_
    refine va_get (D := (dC, dI)) (ci := 2) (v := .ref o_ofLength) (C := RX2) (T := TX2) (N := 8) hx hb hts i_X2 hown hK hP 0 rfl rfl 3 (by decide) (hts _ k_164) (fun _ h9 => h9) rfl dX2_areOneAloneOfOneBit_9 ?_
    refine lv_iconst (v := (1 : Int32)) hx hb dX2_areOneAloneOfOneBit_12 (by decide) ?_
    obtain ⟨g2, h⟩ := fb_g h
    refine va_iald hx hb hK hP 1 0 rfl rfl g2 dX2_areOneAloneOfOneBit_13 ?_
    refine lv_iconst (v := (1 : Int32)) hx hb dX2_areOneAloneOfOneBit_14 (by decide) ?_
    refine lv_icmp_ne (tgt := 22) hx hb dX2_areOneAloneOfOneBit_15 (by decide) (fun c3 => ?_) (fun c3 => ?_)
    · replace h := fb_f c3 h
      refine lv_iconst (v := (0 : Int32)) hx hb dX2_areOneAloneOfOneBit_22 (by decide) ?_
      have hu := Option.some.inj h
      exact hret _ _ _ _ _ dX2_areOneAloneOfOneBit_23 rfl (by rw [← hu]) hP hD hS
    · replace h := fb_t c3 h
      refine lv_iconst (v := (1 : Int32)) hx hb dX2_areOneAloneOfOneBit_18 (by decide) ?_
      refine lv_goto (tgt := 23) hx hb dX2_areOneAloneOfOneBit_19 (by decide) ?_
      have hu := Option.some.inj h
      exact hret _ _ _ _ _ dX2_areOneAloneOfOneBit_23 rfl (by rw [← hu]) hP hD hS
theorem dX2_areNone_0 : decode cX2_areNone 0 = .ok (.aload_n 0, 1) := by decide +kernel
theorem dX2_areNone_1 : decode cX2_areNone 1 = .ok (.getfield 51, 3) := by decide +kernel
theorem dX2_areNone_4 : decode cX2_areNone 4 = .ok (.ifCond .ne 7, 3) := by decide +kernel
theorem dX2_areNone_7 : decode cX2_areNone 7 = .ok (.iconst 1, 1) := by decide +kernel
theorem dX2_areNone_8 : decode cX2_areNone 8 = .ok (.goto 4, 3) := by decide +kernel
theorem dX2_areNone_11 : decode cX2_areNone 11 = .ok (.iconst 0, 1) := by decide +kernel
theorem dX2_areNone_12 : decode cX2_areNone 12 = .ok (.ireturn, 1) := by decide +kernel
def pX2_areNone (o_longest : Int32)   : Option (Int32) :=
  if o_longest = 0 then
  (some ((1 : Int32)))
  else
  (some ((0 : Int32)))
theorem hdX2_areNone : yX2_areNone.cls = RX2 ∧ yX2_areNone.cls ≠ "java/lang/invoke/MethodHandle" ∧ yX2_areNone.cls ≠ "java/lang/invoke/VarHandle" ∧ (parseMethodDescriptor yX2_areNone.desc).map (fun d => d.parameters.length) = some 0 := by decide +kernel
set_option maxHeartbeats 8000000 in
set_option maxRecDepth 100000 in
theorem mX2_areNone (l : Launch) (dC : Nat → ClassId) (dI : Nat → Nat → Nat) (o : Nat) (o_lengths : Nat) (o_codes : Nat) (o_byCode : Nat) (o_ofLength : Nat) (o_firstCode : Nat) (o_firstPlace : Nat) (o_given : Nat)   (o_longest : Int32)  (sz : Nat) (u : Int32) (h : pX2_areNone o_longest = some u) : Met l yX2_areNone (Cond.code yX2_areNone cX2_areNone 1 (some .boolean) :: fb_tb) ({ frames := 0, cells := 0, slots := 0, locals := 0 }) (fb_Pc (dC, dI) [.ref o] sz [] [(o, .inr (2, [.ref o_lengths, .ref o_codes, .ref o_byCode, .ref o_ofLength, .ref o_firstCode, .ref o_firstPlace, .ref o_given, .int o_longest]))]) (fb_Qi (dC, dI) u [(o, .inr (2, [.ref o_lengths, .ref o_codes, .ref o_byCode, .ref o_ofLength, .ref o_firstCode, .ref o_firstPlace, .ref o_given, .int o_longest]))] (va_A [(o, .inr (2, [.ref o_lengths, .ref o_codes, .ref o_byCode, .ref o_ofLength, .ref o_firstCode, .ref o_firstPlace, .ref o_given, .int o_longest]))] sz)) 0 0 (va_A [(o, .inr (2, [.ref o_lengths, .ref o_codes, .ref o_byCode, .ref o_ofLength, .ref o_firstCode, .ref o_firstPlace, .ref o_given, .int o_longest]))] sz) := by
  refine fb_meti (ty := .boolean) (by decide) (Nat.le_of_ble_eq_true rfl) (fun p e s m args below meth c A Q ls H hx hb hml hown hts hP hK hN hZ hD hA hS hret hl => ?_)
  replace hl : lv_has ls 1 [(0, .ref o)] := hl
  unfold pX2_areNone at h
  refine lv_aload_n hx hb dX2_areNone_0 rfl (lv_at hl 0 rfl) ?_
  refine va_get (D := (dC, dI)) (ci := 2) (v := .int o_longest) (C := RX2) (T := TX2) (N := 8) hx hb hts i_X2 hown hK hP 0 rfl rfl 7 (by decide) (hts _ k_168) (fun _ h9 => h9) rfl dX2_areNone_1 ?_
  refine lv_if_ne (tgt := 11) hx hb dX2_areNone_4 (by decide) (fun c1 => ?_) (fun c1 => ?_)
  · replace h := fb_f c1 h
    refine lv_iconst (v := (0 : Int32)) hx hb dX2_areNone_11 (by decide) ?_
    have hu := Option.some.inj h
    exact hret _ _ _ _ _ dX2_areNone_12 rfl (by rw [← hu]) hP hD hS
  · replace h := fb_t c1 h
    refine lv_iconst (v := (1 : Int32)) hx hb dX2_areNone_7 (by decide) ?_
    refine lv_goto (tgt := 12) hx hb dX2_areNone_8 (by decide) ?_
    have hu := Option.some.inj h
    exact hret _ _ _ _ _ dX2_areNone_12 rfl (by rw [← hu]) hP hD hS
theorem dX2_lastCoded_0 : decode cX2_lastCoded 0 = .ok (.aload_n 0, 1) := by decide +kernel
theorem dX2_lastCoded_1 : decode cX2_lastCoded 1 = .ok (.getfield 24, 3) := by decide +kernel
theorem dX2_lastCoded_4 : decode cX2_lastCoded 4 = .ok (.arraylength, 1) := by decide +kernel
theorem dX2_lastCoded_5 : decode cX2_lastCoded 5 = .ok (.iconst 1, 1) := by decide +kernel
theorem dX2_lastCoded_6 : decode cX2_lastCoded 6 = .ok (.isub, 1) := by decide +kernel
theorem dX2_lastCoded_7 : decode cX2_lastCoded 7 = .ok (.istore_n 1, 1) := by decide +kernel
theorem dX2_lastCoded_8 : decode cX2_lastCoded 8 = .ok (.iload_n 1, 1) := by decide +kernel
theorem dX2_lastCoded_9 : decode cX2_lastCoded 9 = .ok (.ifCond .lt 18, 3) := by decide +kernel
theorem dX2_lastCoded_12 : decode cX2_lastCoded 12 = .ok (.aload_n 0, 1) := by decide +kernel
theorem dX2_lastCoded_13 : decode cX2_lastCoded 13 = .ok (.getfield 24, 3) := by decide +kernel
theorem dX2_lastCoded_16 : decode cX2_lastCoded 16 = .ok (.iload_n 1, 1) := by decide +kernel
theorem dX2_lastCoded_17 : decode cX2_lastCoded 17 = .ok (.iaload, 1) := by decide +kernel
theorem dX2_lastCoded_18 : decode cX2_lastCoded 18 = .ok (.ifCond .ne 9, 3) := by decide +kernel
theorem dX2_lastCoded_21 : decode cX2_lastCoded 21 = .ok (.iinc 1 (-1), 3) := by decide +kernel
theorem dX2_lastCoded_24 : decode cX2_lastCoded 24 = .ok (.goto (-16), 3) := by decide +kernel
theorem dX2_lastCoded_27 : decode cX2_lastCoded 27 = .ok (.iload_n 1, 1) := by decide +kernel
theorem dX2_lastCoded_28 : decode cX2_lastCoded 28 = .ok (.ireturn, 1) := by decide +kernel
def pX2_lastCoded_b8 (o_lengths_n : Nat) (o_lengths_v : Nat → Int32)  : Nat → Int32 → Option (Int32)
  | 0 => fun _ => none
  | n + 1 => fun x1 =>
  if x1 < 0 then
  (some (x1))
  else
  (if x1 < 0 ∨ o_lengths_n ≤ (x1).toNatClampNeg then none else
  if (o_lengths_v (x1).toNatClampNeg) = 0 then
  ((pX2_lastCoded_b8 o_lengths_n o_lengths_v n) (x1 + (-1 : Int32)))
  else
  (some (x1)))
def pX2_lastCoded (o_lengths_n : Nat) (o_lengths_v : Nat → Int32)   : Option (Int32) :=
  pX2_lastCoded_b8 o_lengths_n o_lengths_v fb_F ((Int32.ofNat o_lengths_n) - (1 : Int32))
theorem hdX2_lastCoded : yX2_lastCoded.cls = RX2 ∧ yX2_lastCoded.cls ≠ "java/lang/invoke/MethodHandle" ∧ yX2_lastCoded.cls ≠ "java/lang/invoke/VarHandle" ∧ (parseMethodDescriptor yX2_lastCoded.desc).map (fun d => d.parameters.length) = some 0 := by decide +kernel
set_option maxHeartbeats 8000000 in
set_option maxRecDepth 100000 in
theorem mX2_lastCoded (l : Launch) (dC : Nat → ClassId) (dI : Nat → Nat → Nat) (o : Nat) (o_lengths : Nat) (o_codes : Nat) (o_byCode : Nat) (o_ofLength : Nat) (o_firstCode : Nat) (o_firstPlace : Nat) (o_given : Nat) (o_lengths_c : ClassId) (o_lengths_n : Nat) (o_longest : Int32) (o_lengths_v : Nat → Int32)  (sz : Nat) (u : Int32) (h : pX2_lastCoded o_lengths_n o_lengths_v = some u) : Met l yX2_lastCoded (Cond.code yX2_lastCoded cX2_lastCoded 2 (some .int) :: fb_tb) ({ frames := 0, cells := 0, slots := 0, locals := 0 }) (fb_Pc (dC, dI) [.ref o] sz [(o_lengths_c, .int)] [(o, .inr (2, [.ref o_lengths, .ref o_codes, .ref o_byCode, .ref o_ofLength, .ref o_firstCode, .ref o_firstPlace, .ref o_given, .int o_longest])), (o_lengths, .inl (o_lengths_c, o_lengths_n, .inl o_lengths_v))]) (fb_Qi (dC, dI) u [(o, .inr (2, [.ref o_lengths, .ref o_codes, .ref o_byCode, .ref o_ofLength, .ref o_firstCode, .ref o_firstPlace, .ref o_given, .int o_longest])), (o_lengths, .inl (o_lengths_c, o_lengths_n, .inl o_lengths_v))] (va_A [(o, .inr (2, [.ref o_lengths, .ref o_codes, .ref o_byCode, .ref o_ofLength, .ref o_firstCode, .ref o_firstPlace, .ref o_given, .int o_longest])), (o_lengths, .inl (o_lengths_c, o_lengths_n, .inl o_lengths_v))] sz)) 0 0 (va_A [(o, .inr (2, [.ref o_lengths, .ref o_codes, .ref o_byCode, .ref o_ofLength, .ref o_firstCode, .ref o_firstPlace, .ref o_given, .int o_longest])), (o_lengths, .inl (o_lengths_c, o_lengths_n, .inl o_lengths_v))] sz) := by
  refine fb_meti (ty := .int) (by decide) (Nat.le_of_ble_eq_true rfl) (fun p e s m args below meth c A Q ls H hx hb hml hown hts hP hK hN hZ hD hA hS hret hl => ?_)
  replace hl : lv_has ls 2 [(0, .ref o)] := hl
  have wB8 : ∀ n : Nat, ∀ (x1 : Int32) (H : Heap) (locs : List Loc) (ls : Array Slot), va_P (dC, dI) fb_cl [(o, .inr (2, [.ref o_lengths, .ref o_codes, .ref o_byCode, .ref o_ofLength, .ref o_firstCode, .ref o_firstPlace, .ref o_given, .int o_longest])), (o_lengths, .inl (o_lengths_c, o_lengths_n, .inl o_lengths_v))] H → va_D A [(o, .inr (2, [.ref o_lengths, .ref o_codes, .ref o_byCode, .ref o_ofLength, .ref o_firstCode, .ref o_firstPlace, .ref o_given, .int o_longest])), (o_lengths, .inl (o_lengths_c, o_lengths_n, .inl o_lengths_v))] → va_S A s.heap H locs → lv_has ls 2 [(0, .ref o), (1, .int x1)] → pX2_lastCoded_b8 o_lengths_n o_lengths_v n x1 = some u → W p l e ({ frames := 0, cells := 0, slots := 0, locals := 0 }) s m args below meth c H locs 0 0 Q (F0 m 8 ls []) := by
    intro n
    induction n with
    | zero => intro x1 H locs ls hP hD hS hl h; cases h
    | succ n ih =>
      intro x1 H locs ls hP hD hS hl h
      rw [pX2_lastCoded_b8] at h
      refine lv_iload_n hx hb dX2_lastCoded_8 rfl (lv_at hl 1 rfl) ?_
      refine lv_if_lt (tgt := 27) hx hb dX2_lastCoded_9 (by decide) (fun c1 => ?_) (fun c1 => ?_)
      · replace h := fb_t c1 h
        refine lv_iload_n hx hb dX2_lastCoded_27 rfl (lv_at hl 1 rfl) ?_
        have hu := Option.some.inj h
        exact hret _ _ _ _ _ dX2_lastCoded_28 rfl (by rw [← hu]) hP hD hS
      · replace h := fb_f c1 h
        refine lv_aload_n hx hb dX2_lastCoded_12 rfl (lv_at hl 0 rfl) ?_
        refine va_get (D := (dC, dI)) (ci := 2) (v := .ref o_lengths) (C := RX2) (T := TX2) (N := 8) hx hb hts i_X2 hown hK hP 0 rfl rfl 0 (by decide) (hts _ k_156) (fun _ h9 => h9) rfl dX2_lastCoded_13 ?_
        refine lv_iload_n hx hb dX2_lastCoded_16 rfl (lv_at hl 1 rfl) ?_
        obtain ⟨g2, h⟩ := fb_g h
        refine va_iald hx hb hK hP 1 0 rfl rfl g2 dX2_lastCoded_17 ?_
        refine lv_if_ne (tgt := 27) hx hb dX2_lastCoded_18 (by decide) (fun c3 => ?_) (fun c3 => ?_)
        · replace h := fb_f c3 h
          refine lv_iload_n hx hb dX2_lastCoded_27 rfl (lv_at hl 1 rfl) ?_
          have hu := Option.some.inj h
          exact hret _ _ _ _ _ dX2_lastCoded_28 rfl (by rw [← hu]) hP hD hS
        · replace h := fb_t c3 h
          refine lv_iinc (v := (x1 + (-1 : Int32))) (lv' := [(1, .int (x1 + (-1 : Int32))), (0, .ref o)]) hx hb dX2_lastCoded_21 hl (k := 1) rfl rfl (by decide) rfl (fun ls hl => ?_)
          refine lv_goto (tgt := 8) hx hb dX2_lastCoded_24 (by decide) ?_
          exact ih (x1 + (-1 : Int32)) _ _ _ hP hD hS (lv_sub hl [1, 0] rfl) h
  unfold pX2_lastCoded at h
  refine lv_aload_n hx hb dX2_lastCoded_0 rfl (lv_at hl 0 rfl) ?_
  refine va_get (D := (dC, dI)) (ci := 2) (v := .ref o_lengths) (C := RX2) (T := TX2) (N := 8) hx hb hts i_X2 hown hK hP 0 rfl rfl 0 (by decide) (hts _ k_156) (fun _ h9 => h9) rfl dX2_lastCoded_1 ?_
  refine va_alen (v := (Int32.ofNat o_lengths_n)) hx hb hK hP 1 0 rfl rfl rfl dX2_lastCoded_4 ?_
  refine lv_iconst (v := (1 : Int32)) hx hb dX2_lastCoded_5 (by decide) ?_
  refine lv_isub hx hb dX2_lastCoded_6 ?_
  refine lv_istore_n (lv' := [(1, .int ((Int32.ofNat o_lengths_n) - (1 : Int32))), (0, .ref o)]) hx hb dX2_lastCoded_7 rfl hl (by decide) rfl (fun ls hl => ?_)
  exact wB8 fb_F ((Int32.ofNat o_lengths_n) - (1 : Int32)) _ _ _ hP hD hS (lv_sub hl [1, 0] rfl) h
theorem dX2_read_0 : decode cX2_read 0 = .ok (.iconst 0, 1) := by decide +kernel
theorem dX2_read_1 : decode cX2_read 1 = .ok (.istore_n 2, 1) := by decide +kernel
theorem dX2_read_2 : decode cX2_read 2 = .ok (.iconst 1, 1) := by decide +kernel
theorem dX2_read_3 : decode cX2_read 3 = .ok (.istore_n 3, 1) := by decide +kernel
theorem dX2_read_4 : decode cX2_read 4 = .ok (.iload_n 3, 1) := by decide +kernel
theorem dX2_read_5 : decode cX2_read 5 = .ok (.aload_n 0, 1) := by decide +kernel
theorem dX2_read_6 : decode cX2_read 6 = .ok (.getfield 51, 3) := by decide +kernel
theorem dX2_read_9 : decode cX2_read 9 = .ok (.if_icmp .gt 70, 3) := by decide +kernel
theorem dX2_read_12 : decode cX2_read 12 = .ok (.aload_n 1, 1) := by decide +kernel
theorem dX2_read_13 : decode cX2_read 13 = .ok (.invokevirtual 61, 3) := by decide +kernel
theorem dX2_read_16 : decode cX2_read 16 = .ok (.istore 4, 2) := by decide +kernel
theorem dX2_read_18 : decode cX2_read 18 = .ok (.iload 4, 2) := by decide +kernel
theorem dX2_read_20 : decode cX2_read 20 = .ok (.ifCond .ge 5, 3) := by decide +kernel
theorem dX2_read_23 : decode cX2_read 23 = .ok (.iconst (-1), 1) := by decide +kernel
theorem dX2_read_24 : decode cX2_read 24 = .ok (.ireturn, 1) := by decide +kernel
theorem dX2_read_25 : decode cX2_read 25 = .ok (.iconst 2, 1) := by decide +kernel
theorem dX2_read_26 : decode cX2_read 26 = .ok (.iload_n 2, 1) := by decide +kernel
theorem dX2_read_27 : decode cX2_read 27 = .ok (.imul, 1) := by decide +kernel
theorem dX2_read_28 : decode cX2_read 28 = .ok (.iload 4, 2) := by decide +kernel
theorem dX2_read_30 : decode cX2_read 30 = .ok (.iadd, 1) := by decide +kernel
theorem dX2_read_31 : decode cX2_read 31 = .ok (.istore_n 2, 1) := by decide +kernel
theorem dX2_read_32 : decode cX2_read 32 = .ok (.iload_n 2, 1) := by decide +kernel
theorem dX2_read_33 : decode cX2_read 33 = .ok (.aload_n 0, 1) := by decide +kernel
theorem dX2_read_34 : decode cX2_read 34 = .ok (.getfield 15, 3) := by decide +kernel
theorem dX2_read_37 : decode cX2_read 37 = .ok (.iload_n 3, 1) := by decide +kernel
theorem dX2_read_38 : decode cX2_read 38 = .ok (.iaload, 1) := by decide +kernel
theorem dX2_read_39 : decode cX2_read 39 = .ok (.isub, 1) := by decide +kernel
theorem dX2_read_40 : decode cX2_read 40 = .ok (.istore 5, 2) := by decide +kernel
theorem dX2_read_42 : decode cX2_read 42 = .ok (.iload 5, 2) := by decide +kernel
theorem dX2_read_44 : decode cX2_read 44 = .ok (.ifCond .lt 29, 3) := by decide +kernel
theorem dX2_read_47 : decode cX2_read 47 = .ok (.iload 5, 2) := by decide +kernel
theorem dX2_read_49 : decode cX2_read 49 = .ok (.aload_n 0, 1) := by decide +kernel
theorem dX2_read_50 : decode cX2_read 50 = .ok (.getfield 9, 3) := by decide +kernel
theorem dX2_read_53 : decode cX2_read 53 = .ok (.iload_n 3, 1) := by decide +kernel
theorem dX2_read_54 : decode cX2_read 54 = .ok (.iaload, 1) := by decide +kernel
theorem dX2_read_55 : decode cX2_read 55 = .ok (.if_icmp .ge 18, 3) := by decide +kernel
theorem dX2_read_58 : decode cX2_read 58 = .ok (.aload_n 0, 1) := by decide +kernel
theorem dX2_read_59 : decode cX2_read 59 = .ok (.getfield 30, 3) := by decide +kernel
theorem dX2_read_62 : decode cX2_read 62 = .ok (.aload_n 0, 1) := by decide +kernel
theorem dX2_read_63 : decode cX2_read 63 = .ok (.getfield 18, 3) := by decide +kernel
theorem dX2_read_66 : decode cX2_read 66 = .ok (.iload_n 3, 1) := by decide +kernel
theorem dX2_read_67 : decode cX2_read 67 = .ok (.iaload, 1) := by decide +kernel
theorem dX2_read_68 : decode cX2_read 68 = .ok (.iload 5, 2) := by decide +kernel
theorem dX2_read_70 : decode cX2_read 70 = .ok (.iadd, 1) := by decide +kernel
theorem dX2_read_71 : decode cX2_read 71 = .ok (.iaload, 1) := by decide +kernel
theorem dX2_read_72 : decode cX2_read 72 = .ok (.ireturn, 1) := by decide +kernel
theorem dX2_read_73 : decode cX2_read 73 = .ok (.iinc 3 1, 3) := by decide +kernel
theorem dX2_read_76 : decode cX2_read 76 = .ok (.goto (-72), 3) := by decide +kernel
theorem dX2_read_79 : decode cX2_read 79 = .ok (.bipush (-5), 2) := by decide +kernel
theorem dX2_read_81 : decode cX2_read 81 = .ok (.ireturn, 1) := by decide +kernel
def pX2_read_b4 (o_firstCode_n : Nat) (o_ofLength_n : Nat) (o_firstPlace_n : Nat) (o_byCode_n : Nat) (a1_row_bytes_n : Nat) (o_longest : Int32) (o_firstCode_v : Nat → Int32) (o_ofLength_v : Nat → Int32) (o_firstPlace_v : Nat → Int32) (o_byCode_v : Nat → Int32) (a1_all : Int32) (a1_row_bytes_v : Nat → Int32)  : Nat → Int32 → Int32 → Int32 → Option (Int32 × Int32)
  | 0 => fun _ _ _ => none
  | n + 1 => fun a1_taken x2 x3 =>
  if o_longest < x3 then
  (some ((-5 : Int32), a1_taken))
  else
  ((pX0_next a1_row_bytes_n a1_all a1_row_bytes_v a1_taken).bind (fun u2 =>
  if 0 ≤ u2.1 then
  (if x3 < 0 ∨ o_firstCode_n ≤ (x3).toNatClampNeg then none else
  if ((((2 : Int32) * x2) + u2.1) - (o_firstCode_v (x3).toNatClampNeg)) < 0 then
  ((pX2_read_b4 o_firstCode_n o_ofLength_n o_firstPlace_n o_byCode_n a1_row_bytes_n o_longest o_firstCode_v o_ofLength_v o_firstPlace_v o_byCode_v a1_all a1_row_bytes_v n) u2.2 (((2 : Int32) * x2) + u2.1) (x3 + (1 : Int32)))
  else
  (if x3 < 0 ∨ o_ofLength_n ≤ (x3).toNatClampNeg then none else
  if (o_ofLength_v (x3).toNatClampNeg) ≤ ((((2 : Int32) * x2) + u2.1) - (o_firstCode_v (x3).toNatClampNeg)) then
  ((pX2_read_b4 o_firstCode_n o_ofLength_n o_firstPlace_n o_byCode_n a1_row_bytes_n o_longest o_firstCode_v o_ofLength_v o_firstPlace_v o_byCode_v a1_all a1_row_bytes_v n) u2.2 (((2 : Int32) * x2) + u2.1) (x3 + (1 : Int32)))
  else
  (if x3 < 0 ∨ o_firstPlace_n ≤ (x3).toNatClampNeg then none else
  if ((o_firstPlace_v (x3).toNatClampNeg) + ((((2 : Int32) * x2) + u2.1) - (o_firstCode_v (x3).toNatClampNeg))) < 0 ∨ o_byCode_n ≤ (((o_firstPlace_v (x3).toNatClampNeg) + ((((2 : Int32) * x2) + u2.1) - (o_firstCode_v (x3).toNatClampNeg)))).toNatClampNeg then none else
  some ((o_byCode_v (((o_firstPlace_v (x3).toNatClampNeg) + ((((2 : Int32) * x2) + u2.1) - (o_firstCode_v (x3).toNatClampNeg)))).toNatClampNeg), u2.2))))
  else
  (some ((-1 : Int32), u2.2))))
def pX2_read (o_firstCode_n : Nat) (o_ofLength_n : Nat) (o_firstPlace_n : Nat) (o_byCode_n : Nat) (a1_row_bytes_n : Nat) (o_longest : Int32) (o_firstCode_v : Nat → Int32) (o_ofLength_v : Nat → Int32) (o_firstPlace_v : Nat → Int32) (o_byCode_v : Nat → Int32) (a1_all : Int32) (a1_row_bytes_v : Nat → Int32)  (a1_taken : Int32) : Option (Int32 × Int32) :=
  pX2_read_b4 o_firstCode_n o_ofLength_n o_firstPlace_n o_byCode_n a1_row_bytes_n o_longest o_firstCode_v o_ofLength_v o_firstPlace_v o_byCode_v a1_all a1_row_bytes_v fb_F a1_taken (0 : Int32) (1 : Int32)
theorem hdX2_read : yX2_read.cls = RX2 ∧ yX2_read.cls ≠ "java/lang/invoke/MethodHandle" ∧ yX2_read.cls ≠ "java/lang/invoke/VarHandle" ∧ (parseMethodDescriptor yX2_read.desc).map (fun d => d.parameters.length) = some 1 := by decide +kernel
set_option maxHeartbeats 8000000 in
set_option maxRecDepth 100000 in
theorem mX2_read (l : Launch) (dC : Nat → ClassId) (dI : Nat → Nat → Nat) (o : Nat) (a1 : Nat) (o_firstCode : Nat) (o_ofLength : Nat) (o_firstPlace : Nat) (o_byCode : Nat) (a1_row : Nat) (a1_row_bytes : Nat) (o_lengths : Nat) (o_codes : Nat) (o_given : Nat) (o_firstCode_c : ClassId) (o_ofLength_c : ClassId) (o_firstPlace_c : ClassId) (o_byCode_c : ClassId) (a1_row_bytes_c : ClassId) (o_firstCode_n : Nat) (o_ofLength_n : Nat) (o_firstPlace_n : Nat) (o_byCode_n : Nat) (a1_row_bytes_n : Nat) (o_longest : Int32) (o_firstCode_v : Nat → Int32) (o_ofLength_v : Nat → Int32) (o_firstPlace_v : Nat → Int32) (o_byCode_v : Nat → Int32) (a1_all : Int32) (a1_taken : Int32) (a1_row_size : Int32) (a1_row_bytes_v : Nat → Int32)  (sz : Nat) (u : Int32 × Int32) (h : pX2_read o_firstCode_n o_ofLength_n o_firstPlace_n o_byCode_n a1_row_bytes_n o_longest o_firstCode_v o_ofLength_v o_firstPlace_v o_byCode_v a1_all a1_row_bytes_v a1_taken = some u) : Met l yX2_read (Cond.code yX2_read cX2_read 6 (some .int) :: fb_tb) ({ frames := 1, cells := 0, slots := 0, locals := 21 }) (fb_Pc (dC, dI) [.ref o, .ref a1] sz [(o_firstCode_c, .int), (o_ofLength_c, .int), (o_firstPlace_c, .int), (o_byCode_c, .int), (a1_row_bytes_c, .byte)] [(o, .inr (2, [.ref o_lengths, .ref o_codes, .ref o_byCode, .ref o_ofLength, .ref o_firstCode, .ref o_firstPlace, .ref o_given, .int o_longest])), (o_firstCode, .inl (o_firstCode_c, o_firstCode_n, .inl o_firstCode_v)), (o_ofLength, .inl (o_ofLength_c, o_ofLength_n, .inl o_ofLength_v)), (o_firstPlace, .inl (o_firstPlace_c, o_firstPlace_n, .inl o_firstPlace_v)), (o_byCode, .inl (o_byCode_c, o_byCode_n, .inl o_byCode_v)), (a1, .inr (0, [.int a1_all, .int a1_taken, .ref a1_row])), (a1_row, .inr (6, [.ref a1_row_bytes, .int a1_row_size])), (a1_row_bytes, .inl (a1_row_bytes_c, a1_row_bytes_n, .inl a1_row_bytes_v))]) (fb_Qi (dC, dI) u.1 [(o, .inr (2, [.ref o_lengths, .ref o_codes, .ref o_byCode, .ref o_ofLength, .ref o_firstCode, .ref o_firstPlace, .ref o_given, .int o_longest])), (o_firstCode, .inl (o_firstCode_c, o_firstCode_n, .inl o_firstCode_v)), (o_ofLength, .inl (o_ofLength_c, o_ofLength_n, .inl o_ofLength_v)), (o_firstPlace, .inl (o_firstPlace_c, o_firstPlace_n, .inl o_firstPlace_v)), (o_byCode, .inl (o_byCode_c, o_byCode_n, .inl o_byCode_v)), (a1, .inr (0, [.int a1_all, .int u.2, .ref a1_row])), (a1_row, .inr (6, [.ref a1_row_bytes, .int a1_row_size])), (a1_row_bytes, .inl (a1_row_bytes_c, a1_row_bytes_n, .inl a1_row_bytes_v))] (va_A [(o, .inr (2, [.ref o_lengths, .ref o_codes, .ref o_byCode, .ref o_ofLength, .ref o_firstCode, .ref o_firstPlace, .ref o_given, .int o_longest])), (o_firstCode, .inl (o_firstCode_c, o_firstCode_n, .inl o_firstCode_v)), (o_ofLength, .inl (o_ofLength_c, o_ofLength_n, .inl o_ofLength_v)), (o_firstPlace, .inl (o_firstPlace_c, o_firstPlace_n, .inl o_firstPlace_v)), (o_byCode, .inl (o_byCode_c, o_byCode_n, .inl o_byCode_v)), (a1, .inr (0, [.int a1_all, .int a1_taken, .ref a1_row])), (a1_row, .inr (6, [.ref a1_row_bytes, .int a1_row_size])), (a1_row_bytes, .inl (a1_row_bytes_c, a1_row_bytes_n, .inl a1_row_bytes_v))] sz)) 0 0 (va_A [(o, .inr (2, [.ref o_lengths, .ref o_codes, .ref o_byCode, .ref o_ofLength, .ref o_firstCode, .ref o_firstPlace, .ref o_given, .int o_longest])), (o_firstCode, .inl (o_firstCode_c, o_firstCode_n, .inl o_firstCode_v)), (o_ofLength, .inl (o_ofLength_c, o_ofLength_n, .inl o_ofLength_v)), (o_firstPlace, .inl (o_firstPlace_c, o_firstPlace_n, .inl o_firstPlace_v)), (o_byCode, .inl (o_byCode_c, o_byCode_n, .inl o_byCode_v)), (a1, .inr (0, [.int a1_all, .int a1_taken, .ref a1_row])), (a1_row, .inr (6, [.ref a1_row_bytes, .int a1_row_size])), (a1_row_bytes, .inl (a1_row_bytes_c, a1_row_bytes_n, .inl a1_row_bytes_v))] sz) := by
  refine fb_meti (ty := .int) (by decide) (Nat.le_of_ble_eq_true rfl) (fun p e s m args below meth c A Q ls H hx hb hml hown hts hP hK hN hZ hD hA hS hret hl => ?_)
  replace hl : lv_has ls 6 [(0, .ref o), (1, .ref a1)] := hl
  have wB4 : ∀ n : Nat, ∀ (a1_taken : Int32) (x2 : Int32) (x3 : Int32) (H : Heap) (locs : List Loc) (ls : Array Slot), va_P (dC, dI) fb_cl [(o, .inr (2, [.ref o_lengths, .ref o_codes, .ref o_byCode, .ref o_ofLength, .ref o_firstCode, .ref o_firstPlace, .ref o_given, .int o_longest])), (o_firstCode, .inl (o_firstCode_c, o_firstCode_n, .inl o_firstCode_v)), (o_ofLength, .inl (o_ofLength_c, o_ofLength_n, .inl o_ofLength_v)), (o_firstPlace, .inl (o_firstPlace_c, o_firstPlace_n, .inl o_firstPlace_v)), (o_byCode, .inl (o_byCode_c, o_byCode_n, .inl o_byCode_v)), (a1, .inr (0, [.int a1_all, .int a1_taken, .ref a1_row])), (a1_row, .inr (6, [.ref a1_row_bytes, .int a1_row_size])), (a1_row_bytes, .inl (a1_row_bytes_c, a1_row_bytes_n, .inl a1_row_bytes_v))] H → va_D A [(o, .inr (2, [.ref o_lengths, .ref o_codes, .ref o_byCode, .ref o_ofLength, .ref o_firstCode, .ref o_firstPlace, .ref o_given, .int o_longest])), (o_firstCode, .inl (o_firstCode_c, o_firstCode_n, .inl o_firstCode_v)), (o_ofLength, .inl (o_ofLength_c, o_ofLength_n, .inl o_ofLength_v)), (o_firstPlace, .inl (o_firstPlace_c, o_firstPlace_n, .inl o_firstPlace_v)), (o_byCode, .inl (o_byCode_c, o_byCode_n, .inl o_byCode_v)), (a1, .inr (0, [.int a1_all, .int a1_taken, .ref a1_row])), (a1_row, .inr (6, [.ref a1_row_bytes, .int a1_row_size])), (a1_row_bytes, .inl (a1_row_bytes_c, a1_row_bytes_n, .inl a1_row_bytes_v))] → va_S A s.heap H locs → lv_has ls 6 [(0, .ref o), (1, .ref a1), (2, .int x2), (3, .int x3)] → pX2_read_b4 o_firstCode_n o_ofLength_n o_firstPlace_n o_byCode_n a1_row_bytes_n o_longest o_firstCode_v o_ofLength_v o_firstPlace_v o_byCode_v a1_all a1_row_bytes_v n a1_taken x2 x3 = some u → W p l e ({ frames := 1, cells := 0, slots := 0, locals := 21 }) s m args below meth c H locs 0 0 Q (F0 m 4 ls []) := by
    intro n
    induction n with
    | zero => intro a1_taken x2 x3 H locs ls hP hD hS hl h; cases h
    | succ n ih =>
      intro a1_taken x2 x3 H locs ls hP hD hS hl h
      rw [pX2_read_b4] at h
      refine lv_iload_n hx hb dX2_read_4 rfl (lv_at hl 3 rfl) ?_
      refine lv_aload_n hx hb dX2_read_5 rfl (lv_at hl 0 rfl) ?_
      refine va_get (D := (dC, dI)) (ci := 2) (v := .int o_longest) (C := RX2) (T := TX2) (N := 8) hx hb hts i_X2 hown hK hP 0 rfl rfl 7 (by decide) (hts _ k_168) (fun _ h9 => h9) rfl dX2_read_6 ?_
      refine lv_icmp_gt (tgt := 79) hx hb dX2_read_9 (by decide) (fun c1 => ?_) (fun c1 => ?_)
      · replace h := fb_t c1 h
        refine lv_bipush (v := (-5 : Int32)) hx hb dX2_read_79 (by decide) ?_
        have hu := Option.some.inj h
        exact hret _ _ _ _ _ dX2_read_81 rfl (by rw [← hu]) (by rw [← hu]; exact hP) (by rw [← hu]; exact hD) hS
      · replace h := fb_f c1 h
        refine lv_aload_n hx hb dX2_read_12 rfl (lv_at hl 1 rfl) ?_
        obtain ⟨u2, e2, h⟩ := fb_b h
        refine fb_ci (wc := [(a1, .inr (0, [.int a1_all, .int a1_taken, .ref a1_row])), (a1_row, .inr (6, [.ref a1_row_bytes, .int a1_row_size])), (a1_row_bytes, .inl (a1_row_bytes_c, a1_row_bytes_n, .inl a1_row_bytes_v))]) (wr := [(o, .inr (2, [.ref o_lengths, .ref o_codes, .ref o_byCode, .ref o_ofLength, .ref o_firstCode, .ref o_firstPlace, .ref o_given, .int o_longest])), (o_firstCode, .inl (o_firstCode_c, o_firstCode_n, .inl o_firstCode_v)), (o_ofLength, .inl (o_ofLength_c, o_ofLength_n, .inl o_ofLength_v)), (o_firstPlace, .inl (o_firstPlace_c, o_firstPlace_n, .inl o_firstPlace_v)), (o_byCode, .inl (o_byCode_c, o_byCode_n, .inl o_byCode_v))]) (w1 := [(a1, .inr (0, [.int a1_all, .int u2.2, .ref a1_row])), (a1_row, .inr (6, [.ref a1_row_bytes, .int a1_row_size])), (a1_row_bytes, .inl (a1_row_bytes_c, a1_row_bytes_n, .inl a1_row_bytes_v))]) (ws' := [(o, .inr (2, [.ref o_lengths, .ref o_codes, .ref o_byCode, .ref o_ofLength, .ref o_firstCode, .ref o_firstPlace, .ref o_given, .int o_longest])), (o_firstCode, .inl (o_firstCode_c, o_firstCode_n, .inl o_firstCode_v)), (o_ofLength, .inl (o_ofLength_c, o_ofLength_n, .inl o_ofLength_v)), (o_firstPlace, .inl (o_firstPlace_c, o_firstPlace_n, .inl o_firstPlace_v)), (o_byCode, .inl (o_byCode_c, o_byCode_n, .inl o_byCode_v)), (a1, .inr (0, [.int a1_all, .int u2.2, .ref a1_row])), (a1_row, .inr (6, [.ref a1_row_bytes, .int a1_row_size])), (a1_row_bytes, .inl (a1_row_bytes_c, a1_row_bytes_n, .inl a1_row_bytes_v))]) (va_runV (As := []) (rest := []) ⟨hx, hb, hml, hown, hts⟩ (mX0_next l dC dI a1 a1_row a1_row_bytes a1_row_bytes_c a1_row_bytes_n a1_all a1_taken a1_row_size a1_row_bytes_v H.size u2 e2) (cwV 0 hts (fb_GV k_729 k_689 k_690 k_73 k_691) rfl rfl rfl hdX0_next ⟨Nat.le_of_ble_eq_true rfl, Nat.le_of_ble_eq_true rfl⟩) (fb_pV hP hD hS hA hK hN hZ [5, 6, 7] rfl rfl [4] rfl (q0 := 5) (ci := 0) rfl rfl) rfl rfl hl.1 rfl (lv_room (Nat.le_of_ble_eq_true rfl)) dX2_read_13 ⟨Nat.le_of_ble_eq_true rfl, Nat.le_of_ble_eq_true rfl⟩) hP hD hS hA [5, 6, 7] [0, 1, 2, 3, 4] rfl rfl rfl (by decide) [0, 1, 2, 3, 4, 5, 6, 7] rfl rfl (fun H locs hP hD hS => ?_)
        refine lv_istore (lv' := [(4, .int u2.1), (0, .ref o), (1, .ref a1), (2, .int x2), (3, .int x3)]) hx hb dX2_read_16 hl (by decide) rfl (fun ls hl => ?_)
        refine lv_iload hx hb dX2_read_18 (lv_at hl 0 rfl) ?_
        refine lv_if_ge (tgt := 25) hx hb dX2_read_20 (by decide) (fun c3 => ?_) (fun c3 => ?_)
        · replace h := fb_t c3 h
          refine lv_iconst (v := (2 : Int32)) hx hb dX2_read_25 (by decide) ?_
          refine lv_iload_n hx hb dX2_read_26 rfl (lv_at hl 3 rfl) ?_
          refine lv_imul hx hb dX2_read_27 ?_
          refine lv_iload hx hb dX2_read_28 (lv_at hl 0 rfl) ?_
          refine lv_iadd hx hb dX2_read_30 ?_
          refine lv_istore_n (lv' := [(2, .int (((2 : Int32) * x2) + u2.1)), (4, .int u2.1), (0, .ref o), (1, .ref a1), (3, .int x3)]) hx hb dX2_read_31 rfl hl (by decide) rfl (fun ls hl => ?_)
          refine lv_iload_n hx hb dX2_read_32 rfl (lv_at hl 0 rfl) ?_
          refine lv_aload_n hx hb dX2_read_33 rfl (lv_at hl 2 rfl) ?_
          refine va_get (D := (dC, dI)) (ci := 2) (v := .ref o_firstCode) (C := RX2) (T := TX2) (N := 8) hx hb hts i_X2 hown hK hP 0 rfl rfl 4 (by decide) (hts _ k_165) (fun _ h9 => h9) rfl dX2_read_34 ?_
          refine lv_iload_n hx hb dX2_read_37 rfl (lv_at hl 4 rfl) ?_
          obtain ⟨g4, h⟩ := fb_g h
          refine va_iald hx hb hK hP 1 0 rfl rfl g4 dX2_read_38 ?_
          refine lv_isub hx hb dX2_read_39 ?_
          refine lv_istore (lv' := [(5, .int ((((2 : Int32) * x2) + u2.1) - (o_firstCode_v (x3).toNatClampNeg))), (2, .int (((2 : Int32) * x2) + u2.1)), (4, .int u2.1), (0, .ref o), (1, .ref a1), (3, .int x3)]) hx hb dX2_read_40 hl (by decide) rfl (fun ls hl => ?_)
          refine lv_iload hx hb dX2_read_42 (lv_at hl 0 rfl) ?_
          refine lv_if_lt (tgt := 73) hx hb dX2_read_44 (by decide) (fun c5 => ?_) (fun c5 => ?_)
          · replace h := fb_t c5 h
            refine lv_iinc (v := (x3 + (1 : Int32))) (lv' := [(3, .int (x3 + (1 : Int32))), (5, .int ((((2 : Int32) * x2) + u2.1) - (o_firstCode_v (x3).toNatClampNeg))), (2, .int (((2 : Int32) * x2) + u2.1)), (4, .int u2.1), (0, .ref o), (1, .ref a1)]) hx hb dX2_read_73 hl (k := 5) rfl rfl (by decide) rfl (fun ls hl => ?_)
            refine lv_goto (tgt := 4) hx hb dX2_read_76 (by decide) ?_
            exact ih u2.2 (((2 : Int32) * x2) + u2.1) (x3 + (1 : Int32)) _ _ _ hP hD hS (lv_sub hl [4, 5, 2, 0] rfl) h
          · replace h := fb_f c5 h
            refine lv_iload hx hb dX2_read_47 (lv_at hl 0 rfl) ?_
            refine lv_aload_n hx hb dX2_read_49 rfl (lv_at hl 3 rfl) ?_
            refine va_get (D := (dC, dI)) (ci := 2) (v := .ref o_ofLength) (C := RX2) (T := TX2) (N := 8) hx hb hts i_X2 hown hK hP 0 rfl rfl 3 (by decide) (hts _ k_164) (fun _ h9 => h9) rfl dX2_read_50 ?_
            refine lv_iload_n hx hb dX2_read_53 rfl (lv_at hl 5 rfl) ?_
            obtain ⟨g6, h⟩ := fb_g h
            refine va_iald hx hb hK hP 2 1 rfl rfl g6 dX2_read_54 ?_
            refine lv_icmp_ge (tgt := 73) hx hb dX2_read_55 (by decide) (fun c7 => ?_) (fun c7 => ?_)
            · replace h := fb_t c7 h
              refine lv_iinc (v := (x3 + (1 : Int32))) (lv' := [(3, .int (x3 + (1 : Int32))), (5, .int ((((2 : Int32) * x2) + u2.1) - (o_firstCode_v (x3).toNatClampNeg))), (2, .int (((2 : Int32) * x2) + u2.1)), (4, .int u2.1), (0, .ref o), (1, .ref a1)]) hx hb dX2_read_73 hl (k := 5) rfl rfl (by decide) rfl (fun ls hl => ?_)
              refine lv_goto (tgt := 4) hx hb dX2_read_76 (by decide) ?_
              exact ih u2.2 (((2 : Int32) * x2) + u2.1) (x3 + (1 : Int32)) _ _ _ hP hD hS (lv_sub hl [4, 5, 2, 0] rfl) h
            · replace h := fb_f c7 h
              refine lv_aload_n hx hb dX2_read_58 rfl (lv_at hl 3 rfl) ?_
              refine va_get (D := (dC, dI)) (ci := 2) (v := .ref o_byCode) (C := RX2) (T := TX2) (N := 8) hx hb hts i_X2 hown hK hP 0 rfl rfl 2 (by decide) (hts _ k_163) (fun _ h9 => h9) rfl dX2_read_59 ?_
              refine lv_aload_n hx hb dX2_read_62 rfl (lv_at hl 3 rfl) ?_
              refine va_get (D := (dC, dI)) (ci := 2) (v := .ref o_firstPlace) (C := RX2) (T := TX2) (N := 8) hx hb hts i_X2 hown hK hP 0 rfl rfl 5 (by decide) (hts _ k_166) (fun _ h9 => h9) rfl dX2_read_63 ?_
              refine lv_iload_n hx hb dX2_read_66 rfl (lv_at hl 5 rfl) ?_
              obtain ⟨g8, h⟩ := fb_g h
              refine va_iald hx hb hK hP 3 2 rfl rfl g8 dX2_read_67 ?_
              refine lv_iload hx hb dX2_read_68 (lv_at hl 0 rfl) ?_
              refine lv_iadd hx hb dX2_read_70 ?_
              obtain ⟨g9, h⟩ := fb_g h
              refine va_iald hx hb hK hP 4 3 rfl rfl g9 dX2_read_71 ?_
              have hu := Option.some.inj h
              exact hret _ _ _ _ _ dX2_read_72 rfl (by rw [← hu]) (by rw [← hu]; exact hP) (by rw [← hu]; exact hD) hS
        · replace h := fb_f c3 h
          refine lv_iconst (v := (-1 : Int32)) hx hb dX2_read_23 (by decide) ?_
          have hu := Option.some.inj h
          exact hret _ _ _ _ _ dX2_read_24 rfl (by rw [← hu]) (by rw [← hu]; exact hP) (by rw [← hu]; exact hD) hS
  unfold pX2_read at h
  refine lv_iconst (v := (0 : Int32)) hx hb dX2_read_0 (by decide) ?_
  refine lv_istore_n (lv' := [(2, .int (0 : Int32)), (0, .ref o), (1, .ref a1)]) hx hb dX2_read_1 rfl hl (by decide) rfl (fun ls hl => ?_)
  refine lv_iconst (v := (1 : Int32)) hx hb dX2_read_2 (by decide) ?_
  refine lv_istore_n (lv' := [(3, .int (1 : Int32)), (2, .int (0 : Int32)), (0, .ref o), (1, .ref a1)]) hx hb dX2_read_3 rfl hl (by decide) rfl (fun ls hl => ?_)
  exact wB4 fb_F a1_taken (0 : Int32) (1 : Int32) _ _ _ hP hD hS (lv_sub hl [2, 3, 1, 0] rfl) h
theorem dX2_bitsFor_0 : decode cX2_bitsFor 0 = .ok (.iconst 0, 1) := by decide +kernel
theorem dX2_bitsFor_1 : decode cX2_bitsFor 1 = .ok (.istore_n 2, 1) := by decide +kernel
theorem dX2_bitsFor_2 : decode cX2_bitsFor 2 = .ok (.iconst 0, 1) := by decide +kernel
theorem dX2_bitsFor_3 : decode cX2_bitsFor 3 = .ok (.istore_n 3, 1) := by decide +kernel
theorem dX2_bitsFor_4 : decode cX2_bitsFor 4 = .ok (.iload_n 3, 1) := by decide +kernel
theorem dX2_bitsFor_5 : decode cX2_bitsFor 5 = .ok (.aload_n 1, 1) := by decide +kernel
theorem dX2_bitsFor_6 : decode cX2_bitsFor 6 = .ok (.arraylength, 1) := by decide +kernel
theorem dX2_bitsFor_7 : decode cX2_bitsFor 7 = .ok (.if_icmp .ge 22, 3) := by decide +kernel
theorem dX2_bitsFor_10 : decode cX2_bitsFor 10 = .ok (.iload_n 2, 1) := by decide +kernel
theorem dX2_bitsFor_11 : decode cX2_bitsFor 11 = .ok (.aload_n 1, 1) := by decide +kernel
theorem dX2_bitsFor_12 : decode cX2_bitsFor 12 = .ok (.iload_n 3, 1) := by decide +kernel
theorem dX2_bitsFor_13 : decode cX2_bitsFor 13 = .ok (.iaload, 1) := by decide +kernel
theorem dX2_bitsFor_14 : decode cX2_bitsFor 14 = .ok (.aload_n 0, 1) := by decide +kernel
theorem dX2_bitsFor_15 : decode cX2_bitsFor 15 = .ok (.getfield 24, 3) := by decide +kernel
theorem dX2_bitsFor_18 : decode cX2_bitsFor 18 = .ok (.iload_n 3, 1) := by decide +kernel
theorem dX2_bitsFor_19 : decode cX2_bitsFor 19 = .ok (.iaload, 1) := by decide +kernel
theorem dX2_bitsFor_20 : decode cX2_bitsFor 20 = .ok (.imul, 1) := by decide +kernel
theorem dX2_bitsFor_21 : decode cX2_bitsFor 21 = .ok (.iadd, 1) := by decide +kernel
theorem dX2_bitsFor_22 : decode cX2_bitsFor 22 = .ok (.istore_n 2, 1) := by decide +kernel
theorem dX2_bitsFor_23 : decode cX2_bitsFor 23 = .ok (.iinc 3 1, 3) := by decide +kernel
theorem dX2_bitsFor_26 : decode cX2_bitsFor 26 = .ok (.goto (-22), 3) := by decide +kernel
theorem dX2_bitsFor_29 : decode cX2_bitsFor 29 = .ok (.iload_n 2, 1) := by decide +kernel
theorem dX2_bitsFor_30 : decode cX2_bitsFor 30 = .ok (.ireturn, 1) := by decide +kernel
def pX2_bitsFor_b4 (o_lengths_n : Nat) (a1_n : Nat) (o_lengths_v : Nat → Int32) (a1_v : Nat → Int32)  : Nat → Int32 → Int32 → Option (Int32)
  | 0 => fun _ _ => none
  | n + 1 => fun x2 x3 =>
  if (Int32.ofNat a1_n) ≤ x3 then
  (some (x2))
  else
  (if x3 < 0 ∨ a1_n ≤ (x3).toNatClampNeg then none else
  if x3 < 0 ∨ o_lengths_n ≤ (x3).toNatClampNeg then none else
  (pX2_bitsFor_b4 o_lengths_n a1_n o_lengths_v a1_v n) (x2 + ((a1_v (x3).toNatClampNeg) * (o_lengths_v (x3).toNatClampNeg))) (x3 + (1 : Int32)))
def pX2_bitsFor (o_lengths_n : Nat) (a1_n : Nat) (o_lengths_v : Nat → Int32) (a1_v : Nat → Int32)   : Option (Int32) :=
  pX2_bitsFor_b4 o_lengths_n a1_n o_lengths_v a1_v fb_F (0 : Int32) (0 : Int32)
theorem hdX2_bitsFor : yX2_bitsFor.cls = RX2 ∧ yX2_bitsFor.cls ≠ "java/lang/invoke/MethodHandle" ∧ yX2_bitsFor.cls ≠ "java/lang/invoke/VarHandle" ∧ (parseMethodDescriptor yX2_bitsFor.desc).map (fun d => d.parameters.length) = some 1 := by decide +kernel
set_option maxHeartbeats 8000000 in
set_option maxRecDepth 100000 in
theorem mX2_bitsFor (l : Launch) (dC : Nat → ClassId) (dI : Nat → Nat → Nat) (o : Nat) (a1 : Nat) (o_lengths : Nat) (o_codes : Nat) (o_byCode : Nat) (o_ofLength : Nat) (o_firstCode : Nat) (o_firstPlace : Nat) (o_given : Nat) (o_lengths_c : ClassId) (a1_c : ClassId) (o_lengths_n : Nat) (a1_n : Nat) (o_longest : Int32) (o_lengths_v : Nat → Int32) (a1_v : Nat → Int32)  (sz : Nat) (u : Int32) (h : pX2_bitsFor o_lengths_n a1_n o_lengths_v a1_v = some u) : Met l yX2_bitsFor (Cond.code yX2_bitsFor cX2_bitsFor 4 (some .int) :: fb_tb) ({ frames := 0, cells := 0, slots := 0, locals := 0 }) (fb_Pc (dC, dI) [.ref o, .ref a1] sz [(o_lengths_c, .int), (a1_c, .int)] [(o, .inr (2, [.ref o_lengths, .ref o_codes, .ref o_byCode, .ref o_ofLength, .ref o_firstCode, .ref o_firstPlace, .ref o_given, .int o_longest])), (o_lengths, .inl (o_lengths_c, o_lengths_n, .inl o_lengths_v)), (a1, .inl (a1_c, a1_n, .inl a1_v))]) (fb_Qi (dC, dI) u [(o, .inr (2, [.ref o_lengths, .ref o_codes, .ref o_byCode, .ref o_ofLength, .ref o_firstCode, .ref o_firstPlace, .ref o_given, .int o_longest])), (o_lengths, .inl (o_lengths_c, o_lengths_n, .inl o_lengths_v)), (a1, .inl (a1_c, a1_n, .inl a1_v))] (va_A [(o, .inr (2, [.ref o_lengths, .ref o_codes, .ref o_byCode, .ref o_ofLength, .ref o_firstCode, .ref o_firstPlace, .ref o_given, .int o_longest])), (o_lengths, .inl (o_lengths_c, o_lengths_n, .inl o_lengths_v)), (a1, .inl (a1_c, a1_n, .inl a1_v))] sz)) 0 0 (va_A [(o, .inr (2, [.ref o_lengths, .ref o_codes, .ref o_byCode, .ref o_ofLength, .ref o_firstCode, .ref o_firstPlace, .ref o_given, .int o_longest])), (o_lengths, .inl (o_lengths_c, o_lengths_n, .inl o_lengths_v)), (a1, .inl (a1_c, a1_n, .inl a1_v))] sz) := by
  refine fb_meti (ty := .int) (by decide) (Nat.le_of_ble_eq_true rfl) (fun p e s m args below meth c A Q ls H hx hb hml hown hts hP hK hN hZ hD hA hS hret hl => ?_)
  replace hl : lv_has ls 4 [(0, .ref o), (1, .ref a1)] := hl
  have wB4 : ∀ n : Nat, ∀ (x2 : Int32) (x3 : Int32) (H : Heap) (locs : List Loc) (ls : Array Slot), va_P (dC, dI) fb_cl [(o, .inr (2, [.ref o_lengths, .ref o_codes, .ref o_byCode, .ref o_ofLength, .ref o_firstCode, .ref o_firstPlace, .ref o_given, .int o_longest])), (o_lengths, .inl (o_lengths_c, o_lengths_n, .inl o_lengths_v)), (a1, .inl (a1_c, a1_n, .inl a1_v))] H → va_D A [(o, .inr (2, [.ref o_lengths, .ref o_codes, .ref o_byCode, .ref o_ofLength, .ref o_firstCode, .ref o_firstPlace, .ref o_given, .int o_longest])), (o_lengths, .inl (o_lengths_c, o_lengths_n, .inl o_lengths_v)), (a1, .inl (a1_c, a1_n, .inl a1_v))] → va_S A s.heap H locs → lv_has ls 4 [(0, .ref o), (1, .ref a1), (2, .int x2), (3, .int x3)] → pX2_bitsFor_b4 o_lengths_n a1_n o_lengths_v a1_v n x2 x3 = some u → W p l e ({ frames := 0, cells := 0, slots := 0, locals := 0 }) s m args below meth c H locs 0 0 Q (F0 m 4 ls []) := by
    intro n
    induction n with
    | zero => intro x2 x3 H locs ls hP hD hS hl h; cases h
    | succ n ih =>
      intro x2 x3 H locs ls hP hD hS hl h
      rw [pX2_bitsFor_b4] at h
      refine lv_iload_n hx hb dX2_bitsFor_4 rfl (lv_at hl 3 rfl) ?_
      refine lv_aload_n hx hb dX2_bitsFor_5 rfl (lv_at hl 1 rfl) ?_
      refine va_alen (v := (Int32.ofNat a1_n)) hx hb hK hP 2 1 rfl rfl rfl dX2_bitsFor_6 ?_
      refine lv_icmp_ge (tgt := 29) hx hb dX2_bitsFor_7 (by decide) (fun c1 => ?_) (fun c1 => ?_)
      · replace h := fb_t c1 h
        refine lv_iload_n hx hb dX2_bitsFor_29 rfl (lv_at hl 2 rfl) ?_
        have hu := Option.some.inj h
        exact hret _ _ _ _ _ dX2_bitsFor_30 rfl (by rw [← hu]) hP hD hS
      · replace h := fb_f c1 h
        refine lv_iload_n hx hb dX2_bitsFor_10 rfl (lv_at hl 2 rfl) ?_
        refine lv_aload_n hx hb dX2_bitsFor_11 rfl (lv_at hl 1 rfl) ?_
        refine lv_iload_n hx hb dX2_bitsFor_12 rfl (lv_at hl 3 rfl) ?_
        obtain ⟨g2, h⟩ := fb_g h
        refine va_iald hx hb hK hP 2 1 rfl rfl g2 dX2_bitsFor_13 ?_
        refine lv_aload_n hx hb dX2_bitsFor_14 rfl (lv_at hl 0 rfl) ?_
        refine va_get (D := (dC, dI)) (ci := 2) (v := .ref o_lengths) (C := RX2) (T := TX2) (N := 8) hx hb hts i_X2 hown hK hP 0 rfl rfl 0 (by decide) (hts _ k_156) (fun _ h9 => h9) rfl dX2_bitsFor_15 ?_
        refine lv_iload_n hx hb dX2_bitsFor_18 rfl (lv_at hl 3 rfl) ?_
        obtain ⟨g3, h⟩ := fb_g h
        refine va_iald hx hb hK hP 1 0 rfl rfl g3 dX2_bitsFor_19 ?_
        refine lv_imul hx hb dX2_bitsFor_20 ?_
        refine lv_iadd hx hb dX2_bitsFor_21 ?_
        refine lv_istore_n (lv' := [(2, .int (x2 + ((a1_v (x3).toNatClampNeg) * (o_lengths_v (x3).toNatClampNeg)))), (0, .ref o), (1, .ref a1), (3, .int x3)]) hx hb dX2_bitsFor_22 rfl hl (by decide) rfl (fun ls hl => ?_)
        refine lv_iinc (v := (x3 + (1 : Int32))) (lv' := [(3, .int (x3 + (1 : Int32))), (2, .int (x2 + ((a1_v (x3).toNatClampNeg) * (o_lengths_v (x3).toNatClampNeg)))), (0, .ref o), (1, .ref a1)]) hx hb dX2_bitsFor_23 hl (k := 3) rfl rfl (by decide) rfl (fun ls hl => ?_)
        refine lv_goto (tgt := 4) hx hb dX2_bitsFor_26 (by decide) ?_
        exact ih (x2 + ((a1_v (x3).toNatClampNeg) * (o_lengths_v (x3).toNatClampNeg))) (x3 + (1 : Int32)) _ _ _ hP hD hS (lv_sub hl [2, 3, 1, 0] rfl) h
  unfold pX2_bitsFor at h
  refine lv_iconst (v := (0 : Int32)) hx hb dX2_bitsFor_0 (by decide) ?_
  refine lv_istore_n (lv' := [(2, .int (0 : Int32)), (0, .ref o), (1, .ref a1)]) hx hb dX2_bitsFor_1 rfl hl (by decide) rfl (fun ls hl => ?_)
  refine lv_iconst (v := (0 : Int32)) hx hb dX2_bitsFor_2 (by decide) ?_
  refine lv_istore_n (lv' := [(3, .int (0 : Int32)), (2, .int (0 : Int32)), (0, .ref o), (1, .ref a1)]) hx hb dX2_bitsFor_3 rfl hl (by decide) rfl (fun ls hl => ?_)
  exact wB4 fb_F (0 : Int32) (0 : Int32) _ _ _ hP hD hS (lv_sub hl [2, 3, 1, 0] rfl) h
theorem dX3_insert_0 : decode cX3_insert 0 = .ok (.aload_n 0, 1) := by decide +kernel
theorem dX3_insert_1 : decode cX3_insert 1 = .ok (.getfield 43, 3) := by decide +kernel
theorem dX3_insert_4 : decode cX3_insert 4 = .ok (.istore_n 2, 1) := by decide +kernel
theorem dX3_insert_5 : decode cX3_insert 5 = .ok (.iload_n 2, 1) := by decide +kernel
theorem dX3_insert_6 : decode cX3_insert 6 = .ok (.ifCond .le 45, 3) := by decide +kernel
theorem dX3_insert_9 : decode cX3_insert 9 = .ok (.aload_n 0, 1) := by decide +kernel
theorem dX3_insert_10 : decode cX3_insert 10 = .ok (.getfield 9, 3) := by decide +kernel
theorem dX3_insert_13 : decode cX3_insert 13 = .ok (.aload_n 0, 1) := by decide +kernel
theorem dX3_insert_14 : decode cX3_insert 14 = .ok (.getfield 15, 3) := by decide +kernel
theorem dX3_insert_17 : decode cX3_insert 17 = .ok (.iload_n 2, 1) := by decide +kernel
theorem dX3_insert_18 : decode cX3_insert 18 = .ok (.iconst 1, 1) := by decide +kernel
theorem dX3_insert_19 : decode cX3_insert 19 = .ok (.isub, 1) := by decide +kernel
theorem dX3_insert_20 : decode cX3_insert 20 = .ok (.iaload, 1) := by decide +kernel
theorem dX3_insert_21 : decode cX3_insert 21 = .ok (.iaload, 1) := by decide +kernel
theorem dX3_insert_22 : decode cX3_insert 22 = .ok (.aload_n 0, 1) := by decide +kernel
theorem dX3_insert_23 : decode cX3_insert 23 = .ok (.getfield 9, 3) := by decide +kernel
theorem dX3_insert_26 : decode cX3_insert 26 = .ok (.iload_n 1, 1) := by decide +kernel
theorem dX3_insert_27 : decode cX3_insert 27 = .ok (.iaload, 1) := by decide +kernel
theorem dX3_insert_28 : decode cX3_insert 28 = .ok (.if_icmp .le 23, 3) := by decide +kernel
theorem dX3_insert_31 : decode cX3_insert 31 = .ok (.aload_n 0, 1) := by decide +kernel
theorem dX3_insert_32 : decode cX3_insert 32 = .ok (.getfield 15, 3) := by decide +kernel
theorem dX3_insert_35 : decode cX3_insert 35 = .ok (.iload_n 2, 1) := by decide +kernel
theorem dX3_insert_36 : decode cX3_insert 36 = .ok (.aload_n 0, 1) := by decide +kernel
theorem dX3_insert_37 : decode cX3_insert 37 = .ok (.getfield 15, 3) := by decide +kernel
theorem dX3_insert_40 : decode cX3_insert 40 = .ok (.iload_n 2, 1) := by decide +kernel
theorem dX3_insert_41 : decode cX3_insert 41 = .ok (.iconst 1, 1) := by decide +kernel
theorem dX3_insert_42 : decode cX3_insert 42 = .ok (.isub, 1) := by decide +kernel
theorem dX3_insert_43 : decode cX3_insert 43 = .ok (.iaload, 1) := by decide +kernel
theorem dX3_insert_44 : decode cX3_insert 44 = .ok (.iastore, 1) := by decide +kernel
theorem dX3_insert_45 : decode cX3_insert 45 = .ok (.iinc 2 (-1), 3) := by decide +kernel
theorem dX3_insert_48 : decode cX3_insert 48 = .ok (.goto (-43), 3) := by decide +kernel
theorem dX3_insert_51 : decode cX3_insert 51 = .ok (.aload_n 0, 1) := by decide +kernel
theorem dX3_insert_52 : decode cX3_insert 52 = .ok (.getfield 15, 3) := by decide +kernel
theorem dX3_insert_55 : decode cX3_insert 55 = .ok (.iload_n 2, 1) := by decide +kernel
theorem dX3_insert_56 : decode cX3_insert 56 = .ok (.iload_n 1, 1) := by decide +kernel
theorem dX3_insert_57 : decode cX3_insert 57 = .ok (.iastore, 1) := by decide +kernel
theorem dX3_insert_58 : decode cX3_insert 58 = .ok (.aload_n 0, 1) := by decide +kernel
theorem dX3_insert_59 : decode cX3_insert 59 = .ok (.dup, 1) := by decide +kernel
theorem dX3_insert_60 : decode cX3_insert 60 = .ok (.getfield 43, 3) := by decide +kernel
theorem dX3_insert_63 : decode cX3_insert 63 = .ok (.iconst 1, 1) := by decide +kernel
theorem dX3_insert_64 : decode cX3_insert 64 = .ok (.iadd, 1) := by decide +kernel
theorem dX3_insert_65 : decode cX3_insert 65 = .ok (.putfield 43, 3) := by decide +kernel
theorem dX3_insert_68 : decode cX3_insert 68 = .ok (.return_, 1) := by decide +kernel
def pX3_insert_b51 (o_sorted_n : Nat) (x1 : Int32)  (o_single : Int32) (o_sorted_v : Nat → Int32) (x2 : Int32) : Option (Int32 × (Nat → Int32)) :=
  if x2 < 0 ∨ o_sorted_n ≤ (x2).toNatClampNeg then none else
  some ((o_single + (1 : Int32)), (upd o_sorted_v (x2).toNatClampNeg x1))
def pX3_insert_b5 (o_sorted_n : Nat) (o_counts_n : Nat) (o_counts_v : Nat → Int32) (x1 : Int32)  : Nat → Int32 → (Nat → Int32) → Int32 → Option (Int32 × (Nat → Int32))
  | 0 => fun _ _ _ => none
  | n + 1 => fun o_single o_sorted_v x2 =>
  if x2 ≤ 0 then
  (pX3_insert_b51 o_sorted_n x1 o_single o_sorted_v x2)
  else
  (if (x2 - (1 : Int32)) < 0 ∨ o_sorted_n ≤ ((x2 - (1 : Int32))).toNatClampNeg then none else
  if (o_sorted_v ((x2 - (1 : Int32))).toNatClampNeg) < 0 ∨ o_counts_n ≤ ((o_sorted_v ((x2 - (1 : Int32))).toNatClampNeg)).toNatClampNeg then none else
  if x1 < 0 ∨ o_counts_n ≤ (x1).toNatClampNeg then none else
  if (o_counts_v ((o_sorted_v ((x2 - (1 : Int32))).toNatClampNeg)).toNatClampNeg) ≤ (o_counts_v (x1).toNatClampNeg) then
  (pX3_insert_b51 o_sorted_n x1 o_single o_sorted_v x2)
  else
  (if (x2 - (1 : Int32)) < 0 ∨ o_sorted_n ≤ ((x2 - (1 : Int32))).toNatClampNeg then none else
  if x2 < 0 ∨ o_sorted_n ≤ (x2).toNatClampNeg then none else
  (pX3_insert_b5 o_sorted_n o_counts_n o_counts_v x1 n) o_single (upd o_sorted_v (x2).toNatClampNeg (o_sorted_v ((x2 - (1 : Int32))).toNatClampNeg)) (x2 + (-1 : Int32))))
def pX3_insert (o_sorted_n : Nat) (o_counts_n : Nat) (o_counts_v : Nat → Int32) (x1 : Int32)  (o_single : Int32) (o_sorted_v : Nat → Int32) : Option (Int32 × (Nat → Int32)) :=
  pX3_insert_b5 o_sorted_n o_counts_n o_counts_v x1 fb_F o_single o_sorted_v o_single
theorem hdX3_insert : yX3_insert.cls = RX3 ∧ yX3_insert.cls ≠ "java/lang/invoke/MethodHandle" ∧ yX3_insert.cls ≠ "java/lang/invoke/VarHandle" ∧ (parseMethodDescriptor yX3_insert.desc).map (fun d => d.parameters.length) = some 1 := by decide +kernel
set_option maxHeartbeats 8000000 in
set_option maxRecDepth 100000 in
theorem mX3_insert (l : Launch) (dC : Nat → ClassId) (dI : Nat → Nat → Nat) (o : Nat) (o_sorted : Nat) (o_counts : Nat) (o_weight : Nat) (o_above : Nat) (o_depth : Nat) (o_sorted_c : ClassId) (o_counts_c : ClassId) (o_sorted_n : Nat) (o_counts_n : Nat) (o_single : Int32) (o_sorted_v : Nat → Int32) (o_counts_v : Nat → Int32) (x1 : Int32) (sz : Nat) (u : Int32 × (Nat → Int32)) (h : pX3_insert o_sorted_n o_counts_n o_counts_v x1 o_single o_sorted_v = some u) : Met l yX3_insert (Cond.code yX3_insert cX3_insert 3 none :: fb_tb) ({ frames := 0, cells := 0, slots := 0, locals := 0 }) (fb_Pc (dC, dI) [.ref o, .int x1] sz [(o_sorted_c, .int), (o_counts_c, .int)] [(o, .inr (3, [.ref o_counts, .ref o_sorted, .ref o_weight, .ref o_above, .ref o_depth, .int o_single])), (o_sorted, .inl (o_sorted_c, o_sorted_n, .inl o_sorted_v)), (o_counts, .inl (o_counts_c, o_counts_n, .inl o_counts_v))]) (fb_Qv (dC, dI) [(o, .inr (3, [.ref o_counts, .ref o_sorted, .ref o_weight, .ref o_above, .ref o_depth, .int u.1])), (o_sorted, .inl (o_sorted_c, o_sorted_n, .inl u.2)), (o_counts, .inl (o_counts_c, o_counts_n, .inl o_counts_v))] (va_A [(o, .inr (3, [.ref o_counts, .ref o_sorted, .ref o_weight, .ref o_above, .ref o_depth, .int o_single])), (o_sorted, .inl (o_sorted_c, o_sorted_n, .inl o_sorted_v)), (o_counts, .inl (o_counts_c, o_counts_n, .inl o_counts_v))] sz)) 0 0 (va_A [(o, .inr (3, [.ref o_counts, .ref o_sorted, .ref o_weight, .ref o_above, .ref o_depth, .int o_single])), (o_sorted, .inl (o_sorted_c, o_sorted_n, .inl o_sorted_v)), (o_counts, .inl (o_counts_c, o_counts_n, .inl o_counts_v))] sz) := by
  refine fb_metv (by decide) (Nat.le_of_ble_eq_true rfl) (fun p e s m args below meth c A Q ls H hx hb hml hown hts hP hK hN hZ hD hA hS hret hl => ?_)
  replace hl : lv_has ls 3 [(0, .ref o), (1, .int x1)] := hl
  have wB51 : ∀ (o_single : Int32) (o_sorted_v : Nat → Int32) (x2 : Int32) (H : Heap) (locs : List Loc) (ls : Array Slot), va_P (dC, dI) fb_cl [(o, .inr (3, [.ref o_counts, .ref o_sorted, .ref o_weight, .ref o_above, .ref o_depth, .int o_single])), (o_sorted, .inl (o_sorted_c, o_sorted_n, .inl o_sorted_v)), (o_counts, .inl (o_counts_c, o_counts_n, .inl o_counts_v))] H → va_D A [(o, .inr (3, [.ref o_counts, .ref o_sorted, .ref o_weight, .ref o_above, .ref o_depth, .int o_single])), (o_sorted, .inl (o_sorted_c, o_sorted_n, .inl o_sorted_v)), (o_counts, .inl (o_counts_c, o_counts_n, .inl o_counts_v))] → va_S A s.heap H locs → lv_has ls 3 [(0, .ref o), (1, .int x1), (2, .int x2)] → pX3_insert_b51 o_sorted_n x1 o_single o_sorted_v x2 = some u → W p l e ({ frames := 0, cells := 0, slots := 0, locals := 0 }) s m args below meth c H locs 0 0 Q (F0 m 51 ls []) := by
    intro  o_single o_sorted_v x2 H locs ls hP hD hS hl h
    unfold pX3_insert_b51 at h
    refine lv_aload_n hx hb dX3_insert_51 rfl (lv_at hl 0 rfl) ?_
    refine va_get (D := (dC, dI)) (ci := 3) (v := .ref o_sorted) (C := RX3) (T := TX3) (N := 6) hx hb hts i_X3 hown hK hP 0 rfl rfl 1 (by decide) (hts _ k_131) (fun _ h9 => h9) rfl dX3_insert_52 ?_
    refine lv_iload_n hx hb dX3_insert_55 rfl (lv_at hl 2 rfl) ?_
    refine lv_iload_n hx hb dX3_insert_56 rfl (lv_at hl 1 rfl) ?_
    obtain ⟨g1, h⟩ := fb_g h
    refine va_iast hx hb hK hP hD hS 1 0 rfl rfl g1 dX3_insert_57 (fun H locs hP hD hS => ?_)
    replace hP : va_P (dC, dI) fb_cl [(o, .inr (3, [.ref o_counts, .ref o_sorted, .ref o_weight, .ref o_above, .ref o_depth, .int o_single])), (o_sorted, .inl (o_sorted_c, o_sorted_n, .inl (upd o_sorted_v (x2).toNatClampNeg x1))), (o_counts, .inl (o_counts_c, o_counts_n, .inl o_counts_v))] H := hP
    replace hD : va_D A [(o, .inr (3, [.ref o_counts, .ref o_sorted, .ref o_weight, .ref o_above, .ref o_depth, .int o_single])), (o_sorted, .inl (o_sorted_c, o_sorted_n, .inl (upd o_sorted_v (x2).toNatClampNeg x1))), (o_counts, .inl (o_counts_c, o_counts_n, .inl o_counts_v))] := hD
    refine lv_aload_n hx hb dX3_insert_58 rfl (lv_at hl 0 rfl) ?_
    refine lv_dup hx hb dX3_insert_59 rfl ?_
    refine va_get (D := (dC, dI)) (ci := 3) (v := .int o_single) (C := RX3) (T := TX3) (N := 6) hx hb hts i_X3 hown hK hP 0 rfl rfl 5 (by decide) (hts _ k_135) (fun _ h9 => h9) rfl dX3_insert_60 ?_
    refine lv_iconst (v := (1 : Int32)) hx hb dX3_insert_63 (by decide) ?_
    refine lv_iadd hx hb dX3_insert_64 ?_
    refine va_put (D := (dC, dI)) (ci := 3) (v := .int (o_single + (1 : Int32))) (ty := .int) (C := RX3) (T := TX3) (N := 6) hx hb hts i_X3 tyX3 tyX3_ok nmX3 hown hK hP hD hS 0 rfl rfl 5 (by decide) (hts _ k_135) (fun _ h9 => h9) rfl (by decide +kernel) rfl rfl (Nat.le_of_ble_eq_true rfl) dX3_insert_65 (fun H locs hP hD hS => ?_)
    replace hP : va_P (dC, dI) fb_cl [(o, .inr (3, [.ref o_counts, .ref o_sorted, .ref o_weight, .ref o_above, .ref o_depth, .int (o_single + (1 : Int32))])), (o_sorted, .inl (o_sorted_c, o_sorted_n, .inl (upd o_sorted_v (x2).toNatClampNeg x1))), (o_counts, .inl (o_counts_c, o_counts_n, .inl o_counts_v))] H := hP
    replace hD : va_D A [(o, .inr (3, [.ref o_counts, .ref o_sorted, .ref o_weight, .ref o_above, .ref o_depth, .int (o_single + (1 : Int32))])), (o_sorted, .inl (o_sorted_c, o_sorted_n, .inl (upd o_sorted_v (x2).toNatClampNeg x1))), (o_counts, .inl (o_counts_c, o_counts_n, .inl o_counts_v))] := hD
    have hu := Option.some.inj h
    exact hret _ _ _ _ dX3_insert_68 (by rw [← hu]; exact hP) (by rw [← hu]; exact hD) hS
  have wB5 : ∀ n : Nat, ∀ (o_single : Int32) (o_sorted_v : Nat → Int32) (x2 : Int32) (H : Heap) (locs : List Loc) (ls : Array Slot), va_P (dC, dI) fb_cl [(o, .inr (3, [.ref o_counts, .ref o_sorted, .ref o_weight, .ref o_above, .ref o_depth, .int o_single])), (o_sorted, .inl (o_sorted_c, o_sorted_n, .inl o_sorted_v)), (o_counts, .inl (o_counts_c, o_counts_n, .inl o_counts_v))] H → va_D A [(o, .inr (3, [.ref o_counts, .ref o_sorted, .ref o_weight, .ref o_above, .ref o_depth, .int o_single])), (o_sorted, .inl (o_sorted_c, o_sorted_n, .inl o_sorted_v)), (o_counts, .inl (o_counts_c, o_counts_n, .inl o_counts_v))] → va_S A s.heap H locs → lv_has ls 3 [(0, .ref o), (1, .int x1), (2, .int x2)] → pX3_insert_b5 o_sorted_n o_counts_n o_counts_v x1 n o_single o_sorted_v x2 = some u → W p l e ({ frames := 0, cells := 0, slots := 0, locals := 0 }) s m args below meth c H locs 0 0 Q (F0 m 5 ls []) := by
    intro n
    induction n with
    | zero => intro o_single o_sorted_v x2 H locs ls hP hD hS hl h; cases h
    | succ n ih =>
      intro o_single o_sorted_v x2 H locs ls hP hD hS hl h
      rw [pX3_insert_b5] at h
      refine lv_iload_n hx hb dX3_insert_5 rfl (lv_at hl 2 rfl) ?_
      refine lv_if_le (tgt := 51) hx hb dX3_insert_6 (by decide) (fun c2 => ?_) (fun c2 => ?_)
      · replace h := fb_t c2 h
        exact wB51 o_single o_sorted_v x2 _ _ _ hP hD hS (lv_sub hl [0, 1, 2] rfl) h
      · replace h := fb_f c2 h
        refine lv_aload_n hx hb dX3_insert_9 rfl (lv_at hl 0 rfl) ?_
        refine va_get (D := (dC, dI)) (ci := 3) (v := .ref o_counts) (C := RX3) (T := TX3) (N := 6) hx hb hts i_X3 hown hK hP 0 rfl rfl 0 (by decide) (hts _ k_130) (fun _ h9 => h9) rfl dX3_insert_10 ?_
        refine lv_aload_n hx hb dX3_insert_13 rfl (lv_at hl 0 rfl) ?_
        refine va_get (D := (dC, dI)) (ci := 3) (v := .ref o_sorted) (C := RX3) (T := TX3) (N := 6) hx hb hts i_X3 hown hK hP 0 rfl rfl 1 (by decide) (hts _ k_131) (fun _ h9 => h9) rfl dX3_insert_14 ?_
        refine lv_iload_n hx hb dX3_insert_17 rfl (lv_at hl 2 rfl) ?_
        refine lv_iconst (v := (1 : Int32)) hx hb dX3_insert_18 (by decide) ?_
        refine lv_isub hx hb dX3_insert_19 ?_
        obtain ⟨g3, h⟩ := fb_g h
        refine va_iald hx hb hK hP 1 0 rfl rfl g3 dX3_insert_20 ?_
        obtain ⟨g4, h⟩ := fb_g h
        refine va_iald hx hb hK hP 2 1 rfl rfl g4 dX3_insert_21 ?_
        refine lv_aload_n hx hb dX3_insert_22 rfl (lv_at hl 0 rfl) ?_
        refine va_get (D := (dC, dI)) (ci := 3) (v := .ref o_counts) (C := RX3) (T := TX3) (N := 6) hx hb hts i_X3 hown hK hP 0 rfl rfl 0 (by decide) (hts _ k_130) (fun _ h9 => h9) rfl dX3_insert_23 ?_
        refine lv_iload_n hx hb dX3_insert_26 rfl (lv_at hl 1 rfl) ?_
        obtain ⟨g5, h⟩ := fb_g h
        refine va_iald hx hb hK hP 2 1 rfl rfl g5 dX3_insert_27 ?_
        refine lv_icmp_le (tgt := 51) hx hb dX3_insert_28 (by decide) (fun c6 => ?_) (fun c6 => ?_)
        · replace h := fb_t c6 h
          exact wB51 o_single o_sorted_v x2 _ _ _ hP hD hS (lv_sub hl [0, 1, 2] rfl) h
        · replace h := fb_f c6 h
          refine lv_aload_n hx hb dX3_insert_31 rfl (lv_at hl 0 rfl) ?_
          refine va_get (D := (dC, dI)) (ci := 3) (v := .ref o_sorted) (C := RX3) (T := TX3) (N := 6) hx hb hts i_X3 hown hK hP 0 rfl rfl 1 (by decide) (hts _ k_131) (fun _ h9 => h9) rfl dX3_insert_32 ?_
          refine lv_iload_n hx hb dX3_insert_35 rfl (lv_at hl 2 rfl) ?_
          refine lv_aload_n hx hb dX3_insert_36 rfl (lv_at hl 0 rfl) ?_
          refine va_get (D := (dC, dI)) (ci := 3) (v := .ref o_sorted) (C := RX3) (T := TX3) (N := 6) hx hb hts i_X3 hown hK hP 0 rfl rfl 1 (by decide) (hts _ k_131) (fun _ h9 => h9) rfl dX3_insert_37 ?_
          refine lv_iload_n hx hb dX3_insert_40 rfl (lv_at hl 2 rfl) ?_
          refine lv_iconst (v := (1 : Int32)) hx hb dX3_insert_41 (by decide) ?_
          refine lv_isub hx hb dX3_insert_42 ?_
          obtain ⟨g7, h⟩ := fb_g h
          refine va_iald hx hb hK hP 1 0 rfl rfl g7 dX3_insert_43 ?_
          obtain ⟨g8, h⟩ := fb_g h
          refine va_iast hx hb hK hP hD hS 1 0 rfl rfl g8 dX3_insert_44 (fun H locs hP hD hS => ?_)
          replace hP : va_P (dC, dI) fb_cl [(o, .inr (3, [.ref o_counts, .ref o_sorted, .ref o_weight, .ref o_above, .ref o_depth, .int o_single])), (o_sorted, .inl (o_sorted_c, o_sorted_n, .inl (upd o_sorted_v (x2).toNatClampNeg (o_sorted_v ((x2 - (1 : Int32))).toNatClampNeg)))), (o_counts, .inl (o_counts_c, o_counts_n, .inl o_counts_v))] H := hP
          replace hD : va_D A [(o, .inr (3, [.ref o_counts, .ref o_sorted, .ref o_weight, .ref o_above, .ref o_depth, .int o_single])), (o_sorted, .inl (o_sorted_c, o_sorted_n, .inl (upd o_sorted_v (x2).toNatClampNeg (o_sorted_v ((x2 - (1 : Int32))).toNatClampNeg)))), (o_counts, .inl (o_counts_c, o_counts_n, .inl o_counts_v))] := hD
          refine lv_iinc (v := (x2 + (-1 : Int32))) (lv' := [(2, .int (x2 + (-1 : Int32))), (0, .ref o), (1, .int x1)]) hx hb dX3_insert_45 hl (k := 2) rfl rfl (by decide) rfl (fun ls hl => ?_)
          refine lv_goto (tgt := 5) hx hb dX3_insert_48 (by decide) ?_
          exact ih o_single (upd o_sorted_v (x2).toNatClampNeg (o_sorted_v ((x2 - (1 : Int32))).toNatClampNeg)) (x2 + (-1 : Int32)) _ _ _ hP hD hS (lv_sub hl [1, 2, 0] rfl) h
  unfold pX3_insert at h
  refine lv_aload_n hx hb dX3_insert_0 rfl (lv_at hl 0 rfl) ?_
  refine va_get (D := (dC, dI)) (ci := 3) (v := .int o_single) (C := RX3) (T := TX3) (N := 6) hx hb hts i_X3 hown hK hP 0 rfl rfl 5 (by decide) (hts _ k_135) (fun _ h9 => h9) rfl dX3_insert_1 ?_
  refine lv_istore_n (lv' := [(2, .int o_single), (0, .ref o), (1, .int x1)]) hx hb dX3_insert_4 rfl hl (by decide) rfl (fun ls hl => ?_)
  exact wB5 fb_F o_single o_sorted_v o_single _ _ _ hP hD hS (lv_sub hl [1, 2, 0] rfl) h
theorem dX3_sort_0 : decode cX3_sort 0 = .ok (.aload_n 0, 1) := by decide +kernel
theorem dX3_sort_1 : decode cX3_sort 1 = .ok (.iconst 0, 1) := by decide +kernel
theorem dX3_sort_2 : decode cX3_sort 2 = .ok (.putfield 43, 3) := by decide +kernel
theorem dX3_sort_5 : decode cX3_sort 5 = .ok (.iconst 0, 1) := by decide +kernel
theorem dX3_sort_6 : decode cX3_sort 6 = .ok (.istore_n 2, 1) := by decide +kernel
theorem dX3_sort_7 : decode cX3_sort 7 = .ok (.iload_n 2, 1) := by decide +kernel
theorem dX3_sort_8 : decode cX3_sort 8 = .ok (.iload_n 1, 1) := by decide +kernel
theorem dX3_sort_9 : decode cX3_sort 9 = .ok (.if_icmp .ge 23, 3) := by decide +kernel
theorem dX3_sort_12 : decode cX3_sort 12 = .ok (.aload_n 0, 1) := by decide +kernel
theorem dX3_sort_13 : decode cX3_sort 13 = .ok (.getfield 9, 3) := by decide +kernel
theorem dX3_sort_16 : decode cX3_sort 16 = .ok (.iload_n 2, 1) := by decide +kernel
theorem dX3_sort_17 : decode cX3_sort 17 = .ok (.iaload, 1) := by decide +kernel
theorem dX3_sort_18 : decode cX3_sort 18 = .ok (.ifCond .le 8, 3) := by decide +kernel
theorem dX3_sort_21 : decode cX3_sort 21 = .ok (.aload_n 0, 1) := by decide +kernel
theorem dX3_sort_22 : decode cX3_sort 22 = .ok (.iload_n 2, 1) := by decide +kernel
theorem dX3_sort_23 : decode cX3_sort 23 = .ok (.invokevirtual 54, 3) := by decide +kernel
theorem dX3_sort_26 : decode cX3_sort 26 = .ok (.iinc 2 1, 3) := by decide +kernel
theorem dX3_sort_29 : decode cX3_sort 29 = .ok (.goto (-22), 3) := by decide +kernel
theorem dX3_sort_32 : decode cX3_sort 32 = .ok (.return_, 1) := by decide +kernel
def pX3_sort_b7 (o_counts_n : Nat) (o_sorted_n : Nat) (o_counts_v : Nat → Int32) (x1 : Int32)  : Nat → Int32 → (Nat → Int32) → Int32 → Option (Int32 × (Nat → Int32))
  | 0 => fun _ _ _ => none
  | n + 1 => fun o_single o_sorted_v x2 =>
  if x1 ≤ x2 then
  (some (o_single, o_sorted_v))
  else
  (if x2 < 0 ∨ o_counts_n ≤ (x2).toNatClampNeg then none else
  if (o_counts_v (x2).toNatClampNeg) ≤ 0 then
  ((pX3_sort_b7 o_counts_n o_sorted_n o_counts_v x1 n) o_single o_sorted_v (x2 + (1 : Int32)))
  else
  ((pX3_insert o_sorted_n o_counts_n o_counts_v x2 o_single o_sorted_v).bind (fun u4 =>
  (pX3_sort_b7 o_counts_n o_sorted_n o_counts_v x1 n) u4.1 u4.2 (x2 + (1 : Int32)))))
def pX3_sort (o_counts_n : Nat) (o_sorted_n : Nat) (o_counts_v : Nat → Int32) (x1 : Int32)  (o_sorted_v : Nat → Int32) : Option (Int32 × (Nat → Int32)) :=
  pX3_sort_b7 o_counts_n o_sorted_n o_counts_v x1 fb_F (0 : Int32) o_sorted_v (0 : Int32)
theorem hdX3_sort : yX3_sort.cls = RX3 ∧ yX3_sort.cls ≠ "java/lang/invoke/MethodHandle" ∧ yX3_sort.cls ≠ "java/lang/invoke/VarHandle" ∧ (parseMethodDescriptor yX3_sort.desc).map (fun d => d.parameters.length) = some 1 := by decide +kernel
set_option maxHeartbeats 8000000 in
set_option maxRecDepth 100000 in
theorem mX3_sort (l : Launch) (dC : Nat → ClassId) (dI : Nat → Nat → Nat) (o : Nat) (o_counts : Nat) (o_sorted : Nat) (o_weight : Nat) (o_above : Nat) (o_depth : Nat) (o_counts_c : ClassId) (o_sorted_c : ClassId) (o_counts_n : Nat) (o_sorted_n : Nat) (o_single : Int32) (o_counts_v : Nat → Int32) (o_sorted_v : Nat → Int32) (x1 : Int32) (sz : Nat) (u : Int32 × (Nat → Int32)) (h : pX3_sort o_counts_n o_sorted_n o_counts_v x1 o_sorted_v = some u) : Met l yX3_sort (Cond.code yX3_sort cX3_sort 3 none :: fb_tb) ({ frames := 1, cells := 0, slots := 0, locals := 22 }) (fb_Pc (dC, dI) [.ref o, .int x1] sz [(o_counts_c, .int), (o_sorted_c, .int)] [(o, .inr (3, [.ref o_counts, .ref o_sorted, .ref o_weight, .ref o_above, .ref o_depth, .int o_single])), (o_counts, .inl (o_counts_c, o_counts_n, .inl o_counts_v)), (o_sorted, .inl (o_sorted_c, o_sorted_n, .inl o_sorted_v))]) (fb_Qv (dC, dI) [(o, .inr (3, [.ref o_counts, .ref o_sorted, .ref o_weight, .ref o_above, .ref o_depth, .int u.1])), (o_counts, .inl (o_counts_c, o_counts_n, .inl o_counts_v)), (o_sorted, .inl (o_sorted_c, o_sorted_n, .inl u.2))] (va_A [(o, .inr (3, [.ref o_counts, .ref o_sorted, .ref o_weight, .ref o_above, .ref o_depth, .int o_single])), (o_counts, .inl (o_counts_c, o_counts_n, .inl o_counts_v)), (o_sorted, .inl (o_sorted_c, o_sorted_n, .inl o_sorted_v))] sz)) 0 0 (va_A [(o, .inr (3, [.ref o_counts, .ref o_sorted, .ref o_weight, .ref o_above, .ref o_depth, .int o_single])), (o_counts, .inl (o_counts_c, o_counts_n, .inl o_counts_v)), (o_sorted, .inl (o_sorted_c, o_sorted_n, .inl o_sorted_v))] sz) := by
  refine fb_metv (by decide) (Nat.le_of_ble_eq_true rfl) (fun p e s m args below meth c A Q ls H hx hb hml hown hts hP hK hN hZ hD hA hS hret hl => ?_)
  replace hl : lv_has ls 3 [(0, .ref o), (1, .int x1)] := hl
  have wB7 : ∀ n : Nat, ∀ (o_single : Int32) (o_sorted_v : Nat → Int32) (x2 : Int32) (H : Heap) (locs : List Loc) (ls : Array Slot), va_P (dC, dI) fb_cl [(o, .inr (3, [.ref o_counts, .ref o_sorted, .ref o_weight, .ref o_above, .ref o_depth, .int o_single])), (o_counts, .inl (o_counts_c, o_counts_n, .inl o_counts_v)), (o_sorted, .inl (o_sorted_c, o_sorted_n, .inl o_sorted_v))] H → va_D A [(o, .inr (3, [.ref o_counts, .ref o_sorted, .ref o_weight, .ref o_above, .ref o_depth, .int o_single])), (o_counts, .inl (o_counts_c, o_counts_n, .inl o_counts_v)), (o_sorted, .inl (o_sorted_c, o_sorted_n, .inl o_sorted_v))] → va_S A s.heap H locs → lv_has ls 3 [(0, .ref o), (1, .int x1), (2, .int x2)] → pX3_sort_b7 o_counts_n o_sorted_n o_counts_v x1 n o_single o_sorted_v x2 = some u → W p l e ({ frames := 1, cells := 0, slots := 0, locals := 22 }) s m args below meth c H locs 0 0 Q (F0 m 7 ls []) := by
    intro n
    induction n with
    | zero => intro o_single o_sorted_v x2 H locs ls hP hD hS hl h; cases h
    | succ n ih =>
      intro o_single o_sorted_v x2 H locs ls hP hD hS hl h
      rw [pX3_sort_b7] at h
      refine lv_iload_n hx hb dX3_sort_7 rfl (lv_at hl 2 rfl) ?_
      refine lv_iload_n hx hb dX3_sort_8 rfl (lv_at hl 1 rfl) ?_
      refine lv_icmp_ge (tgt := 32) hx hb dX3_sort_9 (by decide) (fun c1 => ?_) (fun c1 => ?_)
      · replace h := fb_t c1 h
        have hu := Option.some.inj h
        exact hret _ _ _ _ dX3_sort_32 (by rw [← hu]; exact hP) (by rw [← hu]; exact hD) hS
      · replace h := fb_f c1 h
        refine lv_aload_n hx hb dX3_sort_12 rfl (lv_at hl 0 rfl) ?_
        refine va_get (D := (dC, dI)) (ci := 3) (v := .ref o_counts) (C := RX3) (T := TX3) (N := 6) hx hb hts i_X3 hown hK hP 0 rfl rfl 0 (by decide) (hts _ k_130) (fun _ h9 => h9) rfl dX3_sort_13 ?_
        refine lv_iload_n hx hb dX3_sort_16 rfl (lv_at hl 2 rfl) ?_
        obtain ⟨g2, h⟩ := fb_g h
        refine va_iald hx hb hK hP 1 0 rfl rfl g2 dX3_sort_17 ?_
        refine lv_if_le (tgt := 26) hx hb dX3_sort_18 (by decide) (fun c3 => ?_) (fun c3 => ?_)
        · replace h := fb_t c3 h
          refine lv_iinc (v := (x2 + (1 : Int32))) (lv' := [(2, .int (x2 + (1 : Int32))), (0, .ref o), (1, .int x1)]) hx hb dX3_sort_26 hl (k := 2) rfl rfl (by decide) rfl (fun ls hl => ?_)
          refine lv_goto (tgt := 7) hx hb dX3_sort_29 (by decide) ?_
          exact ih o_single o_sorted_v (x2 + (1 : Int32)) _ _ _ hP hD hS (lv_sub hl [1, 2, 0] rfl) h
        · replace h := fb_f c3 h
          refine lv_aload_n hx hb dX3_sort_21 rfl (lv_at hl 0 rfl) ?_
          refine lv_iload_n hx hb dX3_sort_22 rfl (lv_at hl 2 rfl) ?_
          obtain ⟨u4, e4, h⟩ := fb_b h
          refine fb_cv (wc := [(o, .inr (3, [.ref o_counts, .ref o_sorted, .ref o_weight, .ref o_above, .ref o_depth, .int o_single])), (o_sorted, .inl (o_sorted_c, o_sorted_n, .inl o_sorted_v)), (o_counts, .inl (o_counts_c, o_counts_n, .inl o_counts_v))]) (wr := []) (w1 := [(o, .inr (3, [.ref o_counts, .ref o_sorted, .ref o_weight, .ref o_above, .ref o_depth, .int u4.1])), (o_sorted, .inl (o_sorted_c, o_sorted_n, .inl u4.2)), (o_counts, .inl (o_counts_c, o_counts_n, .inl o_counts_v))]) (ws' := [(o, .inr (3, [.ref o_counts, .ref o_sorted, .ref o_weight, .ref o_above, .ref o_depth, .int u4.1])), (o_counts, .inl (o_counts_c, o_counts_n, .inl o_counts_v)), (o_sorted, .inl (o_sorted_c, o_sorted_n, .inl u4.2))]) (va_runV (As := [.int x2]) (rest := []) ⟨hx, hb, hml, hown, hts⟩ (mX3_insert l dC dI o o_sorted o_counts o_weight o_above o_depth o_sorted_c o_counts_c o_sorted_n o_counts_n o_single o_sorted_v o_counts_v x2 H.size u4 e4) (cwV 1 hts (fb_GV k_499 k_501 k_6 k_66 k_502) rfl rfl rfl hdX3_insert ⟨Nat.le_of_ble_eq_true rfl, Nat.le_of_ble_eq_true rfl⟩) (fb_pV hP hD hS hA hK hN hZ [0, 2, 1] rfl rfl [1, 0] rfl (q0 := 0) (ci := 3) rfl rfl) rfl rfl hl.1 rfl (lv_room (Nat.le_of_ble_eq_true rfl)) dX3_sort_23 ⟨Nat.le_of_ble_eq_true rfl, Nat.le_of_ble_eq_true rfl⟩) hP hD hS hA [0, 2, 1] [] rfl rfl rfl (by decide) [0, 2, 1] rfl rfl (fun H locs hP hD hS => ?_)
          refine lv_iinc (v := (x2 + (1 : Int32))) (lv' := [(2, .int (x2 + (1 : Int32))), (0, .ref o), (1, .int x1)]) hx hb dX3_sort_26 hl (k := 2) rfl rfl (by decide) rfl (fun ls hl => ?_)
          refine lv_goto (tgt := 7) hx hb dX3_sort_29 (by decide) ?_
          exact ih u4.1 u4.2 (x2 + (1 : Int32)) _ _ _ hP hD hS (lv_sub hl [1, 2, 0] rfl) h
  unfold pX3_sort at h
  refine lv_aload_n hx hb dX3_sort_0 rfl (lv_at hl 0 rfl) ?_
  refine lv_iconst (v := (0 : Int32)) hx hb dX3_sort_1 (by decide) ?_
  refine va_put (D := (dC, dI)) (ci := 3) (v := .int (0 : Int32)) (ty := .int) (C := RX3) (T := TX3) (N := 6) hx hb hts i_X3 tyX3 tyX3_ok nmX3 hown hK hP hD hS 0 rfl rfl 5 (by decide) (hts _ k_135) (fun _ h9 => h9) rfl (by decide +kernel) rfl rfl (Nat.le_of_ble_eq_true rfl) dX3_sort_2 (fun H locs hP hD hS => ?_)
  replace hP : va_P (dC, dI) fb_cl [(o, .inr (3, [.ref o_counts, .ref o_sorted, .ref o_weight, .ref o_above, .ref o_depth, .int (0 : Int32)])), (o_counts, .inl (o_counts_c, o_counts_n, .inl o_counts_v)), (o_sorted, .inl (o_sorted_c, o_sorted_n, .inl o_sorted_v))] H := hP
  replace hD : va_D A [(o, .inr (3, [.ref o_counts, .ref o_sorted, .ref o_weight, .ref o_above, .ref o_depth, .int (0 : Int32)])), (o_counts, .inl (o_counts_c, o_counts_n, .inl o_counts_v)), (o_sorted, .inl (o_sorted_c, o_sorted_n, .inl o_sorted_v))] := hD
  refine lv_iconst (v := (0 : Int32)) hx hb dX3_sort_5 (by decide) ?_
  refine lv_istore_n (lv' := [(2, .int (0 : Int32)), (0, .ref o), (1, .int x1)]) hx hb dX3_sort_6 rfl hl (by decide) rfl (fun ls hl => ?_)
  exact wB7 fb_F (0 : Int32) o_sorted_v (0 : Int32) _ _ _ hP hD hS (lv_sub hl [1, 2, 0] rfl) h
