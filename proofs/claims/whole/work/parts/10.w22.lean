theorem dX11_tree_0 : decode cX11_tree 0 = .ok (.iload_n 1, 1) := by decide +kernel
theorem dX11_tree_1 : decode cX11_tree 1 = .ok (.istore_n 3, 1) := by decide +kernel
theorem dX11_tree_2 : decode cX11_tree 2 = .ok (.iconst 0, 1) := by decide +kernel
theorem dX11_tree_3 : decode cX11_tree 3 = .ok (.istore 4, 2) := by decide +kernel
theorem dX11_tree_5 : decode cX11_tree 5 = .ok (.iconst 0, 1) := by decide +kernel
theorem dX11_tree_6 : decode cX11_tree 6 = .ok (.istore 5, 2) := by decide +kernel
theorem dX11_tree_8 : decode cX11_tree 8 = .ok (.iload 5, 2) := by decide +kernel
theorem dX11_tree_10 : decode cX11_tree 10 = .ok (.iload_n 1, 1) := by decide +kernel
theorem dX11_tree_11 : decode cX11_tree 11 = .ok (.if_icmp .ge 59, 3) := by decide +kernel
theorem dX11_tree_14 : decode cX11_tree 14 = .ok (.aload_n 0, 1) := by decide +kernel
theorem dX11_tree_15 : decode cX11_tree 15 = .ok (.getfield 63, 3) := by decide +kernel
theorem dX11_tree_18 : decode cX11_tree 18 = .ok (.iload 5, 2) := by decide +kernel
theorem dX11_tree_20 : decode cX11_tree 20 = .ok (.aload_n 0, 1) := by decide +kernel
theorem dX11_tree_21 : decode cX11_tree 21 = .ok (.getfield 57, 3) := by decide +kernel
theorem dX11_tree_24 : decode cX11_tree 24 = .ok (.iload 5, 2) := by decide +kernel
theorem dX11_tree_26 : decode cX11_tree 26 = .ok (.iaload, 1) := by decide +kernel
theorem dX11_tree_27 : decode cX11_tree 27 = .ok (.ifCond .le 7, 3) := by decide +kernel
theorem dX11_tree_30 : decode cX11_tree 30 = .ok (.iconst 1, 1) := by decide +kernel
theorem dX11_tree_31 : decode cX11_tree 31 = .ok (.goto 4, 3) := by decide +kernel
theorem dX11_tree_34 : decode cX11_tree 34 = .ok (.iconst 0, 1) := by decide +kernel
theorem dX11_tree_35 : decode cX11_tree 35 = .ok (.bastore, 1) := by decide +kernel
theorem dX11_tree_36 : decode cX11_tree 36 = .ok (.aload_n 0, 1) := by decide +kernel
theorem dX11_tree_37 : decode cX11_tree 37 = .ok (.getfield 60, 3) := by decide +kernel
theorem dX11_tree_40 : decode cX11_tree 40 = .ok (.iload 5, 2) := by decide +kernel
theorem dX11_tree_42 : decode cX11_tree 42 = .ok (.iconst (-1), 1) := by decide +kernel
theorem dX11_tree_43 : decode cX11_tree 43 = .ok (.iastore, 1) := by decide +kernel
theorem dX11_tree_44 : decode cX11_tree 44 = .ok (.iload 4, 2) := by decide +kernel
theorem dX11_tree_46 : decode cX11_tree 46 = .ok (.aload_n 0, 1) := by decide +kernel
theorem dX11_tree_47 : decode cX11_tree 47 = .ok (.getfield 63, 3) := by decide +kernel
theorem dX11_tree_50 : decode cX11_tree 50 = .ok (.iload 5, 2) := by decide +kernel
theorem dX11_tree_52 : decode cX11_tree 52 = .ok (.baload, 1) := by decide +kernel
theorem dX11_tree_53 : decode cX11_tree 53 = .ok (.ifCond .eq 7, 3) := by decide +kernel
theorem dX11_tree_56 : decode cX11_tree 56 = .ok (.iconst 1, 1) := by decide +kernel
theorem dX11_tree_57 : decode cX11_tree 57 = .ok (.goto 4, 3) := by decide +kernel
theorem dX11_tree_60 : decode cX11_tree 60 = .ok (.iconst 0, 1) := by decide +kernel
theorem dX11_tree_61 : decode cX11_tree 61 = .ok (.iadd, 1) := by decide +kernel
theorem dX11_tree_62 : decode cX11_tree 62 = .ok (.istore 4, 2) := by decide +kernel
theorem dX11_tree_64 : decode cX11_tree 64 = .ok (.iinc 5 1, 3) := by decide +kernel
theorem dX11_tree_67 : decode cX11_tree 67 = .ok (.goto (-59), 3) := by decide +kernel
theorem dX11_tree_70 : decode cX11_tree 70 = .ok (.iload 4, 2) := by decide +kernel
theorem dX11_tree_72 : decode cX11_tree 72 = .ok (.istore 5, 2) := by decide +kernel
theorem dX11_tree_74 : decode cX11_tree 74 = .ok (.iload 5, 2) := by decide +kernel
theorem dX11_tree_76 : decode cX11_tree 76 = .ok (.iconst 1, 1) := by decide +kernel
theorem dX11_tree_77 : decode cX11_tree 77 = .ok (.if_icmp .le 93, 3) := by decide +kernel
theorem dX11_tree_80 : decode cX11_tree 80 = .ok (.aload_n 0, 1) := by decide +kernel
theorem dX11_tree_81 : decode cX11_tree 81 = .ok (.iload_n 3, 1) := by decide +kernel
theorem dX11_tree_82 : decode cX11_tree 82 = .ok (.invokevirtual 143, 3) := by decide +kernel
theorem dX11_tree_85 : decode cX11_tree 85 = .ok (.istore 6, 2) := by decide +kernel
theorem dX11_tree_87 : decode cX11_tree 87 = .ok (.aload_n 0, 1) := by decide +kernel
theorem dX11_tree_88 : decode cX11_tree 88 = .ok (.getfield 63, 3) := by decide +kernel
theorem dX11_tree_91 : decode cX11_tree 91 = .ok (.iload 6, 2) := by decide +kernel
theorem dX11_tree_93 : decode cX11_tree 93 = .ok (.iconst 0, 1) := by decide +kernel
theorem dX11_tree_94 : decode cX11_tree 94 = .ok (.bastore, 1) := by decide +kernel
theorem dX11_tree_95 : decode cX11_tree 95 = .ok (.aload_n 0, 1) := by decide +kernel
theorem dX11_tree_96 : decode cX11_tree 96 = .ok (.iload_n 3, 1) := by decide +kernel
theorem dX11_tree_97 : decode cX11_tree 97 = .ok (.invokevirtual 143, 3) := by decide +kernel
theorem dX11_tree_100 : decode cX11_tree 100 = .ok (.istore 7, 2) := by decide +kernel
theorem dX11_tree_102 : decode cX11_tree 102 = .ok (.aload_n 0, 1) := by decide +kernel
theorem dX11_tree_103 : decode cX11_tree 103 = .ok (.getfield 63, 3) := by decide +kernel
theorem dX11_tree_106 : decode cX11_tree 106 = .ok (.iload 7, 2) := by decide +kernel
theorem dX11_tree_108 : decode cX11_tree 108 = .ok (.iconst 0, 1) := by decide +kernel
theorem dX11_tree_109 : decode cX11_tree 109 = .ok (.bastore, 1) := by decide +kernel
theorem dX11_tree_110 : decode cX11_tree 110 = .ok (.aload_n 0, 1) := by decide +kernel
theorem dX11_tree_111 : decode cX11_tree 111 = .ok (.getfield 60, 3) := by decide +kernel
theorem dX11_tree_114 : decode cX11_tree 114 = .ok (.iload 6, 2) := by decide +kernel
theorem dX11_tree_116 : decode cX11_tree 116 = .ok (.iload_n 3, 1) := by decide +kernel
theorem dX11_tree_117 : decode cX11_tree 117 = .ok (.iastore, 1) := by decide +kernel
theorem dX11_tree_118 : decode cX11_tree 118 = .ok (.aload_n 0, 1) := by decide +kernel
theorem dX11_tree_119 : decode cX11_tree 119 = .ok (.getfield 60, 3) := by decide +kernel
theorem dX11_tree_122 : decode cX11_tree 122 = .ok (.iload 7, 2) := by decide +kernel
theorem dX11_tree_124 : decode cX11_tree 124 = .ok (.iload_n 3, 1) := by decide +kernel
theorem dX11_tree_125 : decode cX11_tree 125 = .ok (.iastore, 1) := by decide +kernel
theorem dX11_tree_126 : decode cX11_tree 126 = .ok (.aload_n 0, 1) := by decide +kernel
theorem dX11_tree_127 : decode cX11_tree 127 = .ok (.getfield 60, 3) := by decide +kernel
theorem dX11_tree_130 : decode cX11_tree 130 = .ok (.iload_n 3, 1) := by decide +kernel
theorem dX11_tree_131 : decode cX11_tree 131 = .ok (.iconst (-1), 1) := by decide +kernel
theorem dX11_tree_132 : decode cX11_tree 132 = .ok (.iastore, 1) := by decide +kernel
theorem dX11_tree_133 : decode cX11_tree 133 = .ok (.aload_n 0, 1) := by decide +kernel
theorem dX11_tree_134 : decode cX11_tree 134 = .ok (.getfield 57, 3) := by decide +kernel
theorem dX11_tree_137 : decode cX11_tree 137 = .ok (.iload_n 3, 1) := by decide +kernel
theorem dX11_tree_138 : decode cX11_tree 138 = .ok (.aload_n 0, 1) := by decide +kernel
theorem dX11_tree_139 : decode cX11_tree 139 = .ok (.getfield 57, 3) := by decide +kernel
theorem dX11_tree_142 : decode cX11_tree 142 = .ok (.iload 6, 2) := by decide +kernel
theorem dX11_tree_144 : decode cX11_tree 144 = .ok (.iaload, 1) := by decide +kernel
theorem dX11_tree_145 : decode cX11_tree 145 = .ok (.aload_n 0, 1) := by decide +kernel
theorem dX11_tree_146 : decode cX11_tree 146 = .ok (.getfield 57, 3) := by decide +kernel
theorem dX11_tree_149 : decode cX11_tree 149 = .ok (.iload 7, 2) := by decide +kernel
theorem dX11_tree_151 : decode cX11_tree 151 = .ok (.iaload, 1) := by decide +kernel
theorem dX11_tree_152 : decode cX11_tree 152 = .ok (.iadd, 1) := by decide +kernel
theorem dX11_tree_153 : decode cX11_tree 153 = .ok (.iastore, 1) := by decide +kernel
theorem dX11_tree_154 : decode cX11_tree 154 = .ok (.aload_n 0, 1) := by decide +kernel
theorem dX11_tree_155 : decode cX11_tree 155 = .ok (.getfield 63, 3) := by decide +kernel
theorem dX11_tree_158 : decode cX11_tree 158 = .ok (.iload_n 3, 1) := by decide +kernel
theorem dX11_tree_159 : decode cX11_tree 159 = .ok (.iconst 1, 1) := by decide +kernel
theorem dX11_tree_160 : decode cX11_tree 160 = .ok (.bastore, 1) := by decide +kernel
theorem dX11_tree_161 : decode cX11_tree 161 = .ok (.iinc 3 1, 3) := by decide +kernel
theorem dX11_tree_164 : decode cX11_tree 164 = .ok (.iinc 5 (-1), 3) := by decide +kernel
theorem dX11_tree_167 : decode cX11_tree 167 = .ok (.goto (-93), 3) := by decide +kernel
theorem dX11_tree_170 : decode cX11_tree 170 = .ok (.iconst 0, 1) := by decide +kernel
theorem dX11_tree_171 : decode cX11_tree 171 = .ok (.istore 5, 2) := by decide +kernel
theorem dX11_tree_173 : decode cX11_tree 173 = .ok (.iconst 0, 1) := by decide +kernel
theorem dX11_tree_174 : decode cX11_tree 174 = .ok (.istore 6, 2) := by decide +kernel
theorem dX11_tree_176 : decode cX11_tree 176 = .ok (.iload 6, 2) := by decide +kernel
theorem dX11_tree_178 : decode cX11_tree 178 = .ok (.iload_n 1, 1) := by decide +kernel
theorem dX11_tree_179 : decode cX11_tree 179 = .ok (.if_icmp .ge 87, 3) := by decide +kernel
theorem dX11_tree_182 : decode cX11_tree 182 = .ok (.iconst 0, 1) := by decide +kernel
theorem dX11_tree_183 : decode cX11_tree 183 = .ok (.istore 7, 2) := by decide +kernel
theorem dX11_tree_185 : decode cX11_tree 185 = .ok (.aload_n 0, 1) := by decide +kernel
theorem dX11_tree_186 : decode cX11_tree 186 = .ok (.getfield 60, 3) := by decide +kernel
theorem dX11_tree_189 : decode cX11_tree 189 = .ok (.iload 6, 2) := by decide +kernel
theorem dX11_tree_191 : decode cX11_tree 191 = .ok (.iaload, 1) := by decide +kernel
theorem dX11_tree_192 : decode cX11_tree 192 = .ok (.istore 8, 2) := by decide +kernel
theorem dX11_tree_194 : decode cX11_tree 194 = .ok (.iload 8, 2) := by decide +kernel
theorem dX11_tree_196 : decode cX11_tree 196 = .ok (.ifCond .lt 18, 3) := by decide +kernel
theorem dX11_tree_199 : decode cX11_tree 199 = .ok (.iinc 7 1, 3) := by decide +kernel
theorem dX11_tree_202 : decode cX11_tree 202 = .ok (.aload_n 0, 1) := by decide +kernel
theorem dX11_tree_203 : decode cX11_tree 203 = .ok (.getfield 60, 3) := by decide +kernel
theorem dX11_tree_206 : decode cX11_tree 206 = .ok (.iload 8, 2) := by decide +kernel
theorem dX11_tree_208 : decode cX11_tree 208 = .ok (.iaload, 1) := by decide +kernel
theorem dX11_tree_209 : decode cX11_tree 209 = .ok (.istore 8, 2) := by decide +kernel
theorem dX11_tree_211 : decode cX11_tree 211 = .ok (.goto (-17), 3) := by decide +kernel
theorem dX11_tree_214 : decode cX11_tree 214 = .ok (.aload_n 2, 1) := by decide +kernel
theorem dX11_tree_215 : decode cX11_tree 215 = .ok (.iload 6, 2) := by decide +kernel
theorem dX11_tree_217 : decode cX11_tree 217 = .ok (.iload 4, 2) := by decide +kernel
theorem dX11_tree_219 : decode cX11_tree 219 = .ok (.iconst 1, 1) := by decide +kernel
theorem dX11_tree_220 : decode cX11_tree 220 = .ok (.if_icmp .ne 17, 3) := by decide +kernel
theorem dX11_tree_223 : decode cX11_tree 223 = .ok (.aload_n 0, 1) := by decide +kernel
theorem dX11_tree_224 : decode cX11_tree 224 = .ok (.getfield 57, 3) := by decide +kernel
theorem dX11_tree_227 : decode cX11_tree 227 = .ok (.iload 6, 2) := by decide +kernel
theorem dX11_tree_229 : decode cX11_tree 229 = .ok (.iaload, 1) := by decide +kernel
theorem dX11_tree_230 : decode cX11_tree 230 = .ok (.ifCond .le 7, 3) := by decide +kernel
theorem dX11_tree_233 : decode cX11_tree 233 = .ok (.iconst 1, 1) := by decide +kernel
theorem dX11_tree_234 : decode cX11_tree 234 = .ok (.goto 5, 3) := by decide +kernel
theorem dX11_tree_237 : decode cX11_tree 237 = .ok (.iload 7, 2) := by decide +kernel
theorem dX11_tree_239 : decode cX11_tree 239 = .ok (.iastore, 1) := by decide +kernel
theorem dX11_tree_240 : decode cX11_tree 240 = .ok (.aload_n 2, 1) := by decide +kernel
theorem dX11_tree_241 : decode cX11_tree 241 = .ok (.iload 6, 2) := by decide +kernel
theorem dX11_tree_243 : decode cX11_tree 243 = .ok (.iaload, 1) := by decide +kernel
theorem dX11_tree_244 : decode cX11_tree 244 = .ok (.iload 5, 2) := by decide +kernel
theorem dX11_tree_246 : decode cX11_tree 246 = .ok (.if_icmp .le 10, 3) := by decide +kernel
theorem dX11_tree_249 : decode cX11_tree 249 = .ok (.aload_n 2, 1) := by decide +kernel
theorem dX11_tree_250 : decode cX11_tree 250 = .ok (.iload 6, 2) := by decide +kernel
theorem dX11_tree_252 : decode cX11_tree 252 = .ok (.iaload, 1) := by decide +kernel
theorem dX11_tree_253 : decode cX11_tree 253 = .ok (.goto 5, 3) := by decide +kernel
theorem dX11_tree_256 : decode cX11_tree 256 = .ok (.iload 5, 2) := by decide +kernel
theorem dX11_tree_258 : decode cX11_tree 258 = .ok (.istore 5, 2) := by decide +kernel
theorem dX11_tree_260 : decode cX11_tree 260 = .ok (.iinc 6 1, 3) := by decide +kernel
theorem dX11_tree_263 : decode cX11_tree 263 = .ok (.goto (-87), 3) := by decide +kernel
theorem dX11_tree_266 : decode cX11_tree 266 = .ok (.iload 5, 2) := by decide +kernel
theorem dX11_tree_268 : decode cX11_tree 268 = .ok (.ireturn, 1) := by decide +kernel
def pX11_tree_b239 (a2_n : Nat) (K176 : (Nat → Int32) → (Nat → Int32) → (Nat → Int32) → (Nat → Int32) → Int32 → Int32 → Int32 → Option (Int32 × (Nat → Int32) × (Nat → Int32) × (Nat → Int32) × (Nat → Int32))) (o_counts_v : Nat → Int32) (o_alone_v : Nat → Int32) (o_parents_v : Nat → Int32) (a2_v : Nat → Int32) (x4 : Int32) (x5 : Int32) (x6 : Int32) (t0 : Int32) (t1 : Int32) : Option (Int32 × (Nat → Int32) × (Nat → Int32) × (Nat → Int32) × (Nat → Int32)) :=
  if t1 < 0 ∨ a2_n ≤ (t1).toNatClampNeg then none else
  if x6 < 0 ∨ a2_n ≤ (x6).toNatClampNeg then none else
  if ((upd a2_v (t1).toNatClampNeg t0) (x6).toNatClampNeg) ≤ x5 then
  (K176 o_counts_v o_alone_v o_parents_v (upd a2_v (t1).toNatClampNeg t0) x4 x5 (x6 + (1 : Int32)))
  else
  (if x6 < 0 ∨ a2_n ≤ (x6).toNatClampNeg then none else
  K176 o_counts_v o_alone_v o_parents_v (upd a2_v (t1).toNatClampNeg t0) x4 ((upd a2_v (t1).toNatClampNeg t0) (x6).toNatClampNeg) (x6 + (1 : Int32)))
def pX11_tree_b194 (o_counts_n : Nat) (o_parents_n : Nat) (a2_n : Nat) (K176 : (Nat → Int32) → (Nat → Int32) → (Nat → Int32) → (Nat → Int32) → Int32 → Int32 → Int32 → Option (Int32 × (Nat → Int32) × (Nat → Int32) × (Nat → Int32) × (Nat → Int32))) : Nat → (Nat → Int32) → (Nat → Int32) → (Nat → Int32) → (Nat → Int32) → Int32 → Int32 → Int32 → Int32 → Int32 → Option (Int32 × (Nat → Int32) × (Nat → Int32) × (Nat → Int32) × (Nat → Int32))
  | 0 => fun _ _ _ _ _ _ _ _ _ => none
  | n + 1 => fun o_counts_v o_alone_v o_parents_v a2_v x4 x5 x6 x7 x8 =>
  if x8 < 0 then
  (if x4 = (1 : Int32) then
  (if x6 < 0 ∨ o_counts_n ≤ (x6).toNatClampNeg then none else
  if (o_counts_v (x6).toNatClampNeg) ≤ 0 then
  (pX11_tree_b239 a2_n K176 o_counts_v o_alone_v o_parents_v a2_v x4 x5 x6 x7 x6)
  else
  (pX11_tree_b239 a2_n K176 o_counts_v o_alone_v o_parents_v a2_v x4 x5 x6 (1 : Int32) x6))
  else
  (pX11_tree_b239 a2_n K176 o_counts_v o_alone_v o_parents_v a2_v x4 x5 x6 x7 x6))
  else
  (if x8 < 0 ∨ o_parents_n ≤ (x8).toNatClampNeg then none else
  (pX11_tree_b194 o_counts_n o_parents_n a2_n K176 n) o_counts_v o_alone_v o_parents_v a2_v x4 x5 x6 (x7 + (1 : Int32)) (o_parents_v (x8).toNatClampNeg))
def pX11_tree_b176 (o_counts_n : Nat) (o_parents_n : Nat) (a2_n : Nat) (x1 : Int32)  : Nat → (Nat → Int32) → (Nat → Int32) → (Nat → Int32) → (Nat → Int32) → Int32 → Int32 → Int32 → Option (Int32 × (Nat → Int32) × (Nat → Int32) × (Nat → Int32) × (Nat → Int32))
  | 0 => fun _ _ _ _ _ _ _ => none
  | n + 1 => fun o_counts_v o_alone_v o_parents_v a2_v x4 x5 x6 =>
  if x1 ≤ x6 then
  (some (x5, o_counts_v, o_alone_v, o_parents_v, a2_v))
  else
  (if x6 < 0 ∨ o_parents_n ≤ (x6).toNatClampNeg then none else
  pX11_tree_b194 o_counts_n o_parents_n a2_n (pX11_tree_b176 o_counts_n o_parents_n a2_n x1 n) fb_F o_counts_v o_alone_v o_parents_v a2_v x4 x5 x6 (0 : Int32) (o_parents_v (x6).toNatClampNeg))
def pX11_tree_b74 (o_counts_n : Nat) (o_alone_n : Nat) (o_parents_n : Nat) (a2_n : Nat) (x1 : Int32)  : Nat → (Nat → Int32) → (Nat → Int32) → (Nat → Int32) → (Nat → Int32) → Int32 → Int32 → Int32 → Option (Int32 × (Nat → Int32) × (Nat → Int32) × (Nat → Int32) × (Nat → Int32))
  | 0 => fun _ _ _ _ _ _ _ => none
  | n + 1 => fun o_counts_v o_alone_v o_parents_v a2_v x3 x4 x5 =>
  if x5 ≤ (1 : Int32) then
  (pX11_tree_b176 o_counts_n o_parents_n a2_n x1 fb_F o_counts_v o_alone_v o_parents_v a2_v x4 (0 : Int32) (0 : Int32))
  else
  ((pX11_rarest o_alone_n o_counts_n o_alone_v o_counts_v x3).bind (fun u13 =>
  if u13 < 0 ∨ o_alone_n ≤ (u13).toNatClampNeg then none else
  (pX11_rarest o_alone_n o_counts_n (upd o_alone_v (u13).toNatClampNeg (vp_nar .boolean (0 : Int32))) o_counts_v x3).bind (fun u15 =>
  if u15 < 0 ∨ o_alone_n ≤ (u15).toNatClampNeg then none else
  if u13 < 0 ∨ o_parents_n ≤ (u13).toNatClampNeg then none else
  if u15 < 0 ∨ o_parents_n ≤ (u15).toNatClampNeg then none else
  if x3 < 0 ∨ o_parents_n ≤ (x3).toNatClampNeg then none else
  if u13 < 0 ∨ o_counts_n ≤ (u13).toNatClampNeg then none else
  if u15 < 0 ∨ o_counts_n ≤ (u15).toNatClampNeg then none else
  if x3 < 0 ∨ o_counts_n ≤ (x3).toNatClampNeg then none else
  if x3 < 0 ∨ o_alone_n ≤ (x3).toNatClampNeg then none else
  (pX11_tree_b74 o_counts_n o_alone_n o_parents_n a2_n x1 n) (upd o_counts_v (x3).toNatClampNeg ((o_counts_v (u13).toNatClampNeg) + (o_counts_v (u15).toNatClampNeg))) (upd (upd (upd o_alone_v (u13).toNatClampNeg (vp_nar .boolean (0 : Int32))) (u15).toNatClampNeg (vp_nar .boolean (0 : Int32))) (x3).toNatClampNeg (vp_nar .boolean (1 : Int32))) (upd (upd (upd o_parents_v (u13).toNatClampNeg x3) (u15).toNatClampNeg x3) (x3).toNatClampNeg (-1 : Int32)) a2_v (x3 + (1 : Int32)) x4 (x5 + (-1 : Int32)))))
def pX11_tree_b35 (o_alone_n : Nat) (o_parents_n : Nat) (K8 : (Nat → Int32) → (Nat → Int32) → (Nat → Int32) → (Nat → Int32) → Int32 → Int32 → Int32 → Option (Int32 × (Nat → Int32) × (Nat → Int32) × (Nat → Int32) × (Nat → Int32))) (o_counts_v : Nat → Int32) (o_alone_v : Nat → Int32) (o_parents_v : Nat → Int32) (a2_v : Nat → Int32) (x3 : Int32) (x4 : Int32) (x5 : Int32) (t0 : Int32) (t1 : Int32) : Option (Int32 × (Nat → Int32) × (Nat → Int32) × (Nat → Int32) × (Nat → Int32)) :=
  if t1 < 0 ∨ o_alone_n ≤ (t1).toNatClampNeg then none else
  if x5 < 0 ∨ o_parents_n ≤ (x5).toNatClampNeg then none else
  if x5 < 0 ∨ o_alone_n ≤ (x5).toNatClampNeg then none else
  if ((upd o_alone_v (t1).toNatClampNeg (vp_nar .boolean t0)) (x5).toNatClampNeg) = 0 then
  (K8 o_counts_v (upd o_alone_v (t1).toNatClampNeg (vp_nar .boolean t0)) (upd o_parents_v (x5).toNatClampNeg (-1 : Int32)) a2_v x3 (x4 + (0 : Int32)) (x5 + (1 : Int32)))
  else
  (K8 o_counts_v (upd o_alone_v (t1).toNatClampNeg (vp_nar .boolean t0)) (upd o_parents_v (x5).toNatClampNeg (-1 : Int32)) a2_v x3 (x4 + (1 : Int32)) (x5 + (1 : Int32)))
def pX11_tree_b8 (o_counts_n : Nat) (o_alone_n : Nat) (o_parents_n : Nat) (a2_n : Nat) (x1 : Int32)  : Nat → (Nat → Int32) → (Nat → Int32) → (Nat → Int32) → (Nat → Int32) → Int32 → Int32 → Int32 → Option (Int32 × (Nat → Int32) × (Nat → Int32) × (Nat → Int32) × (Nat → Int32))
  | 0 => fun _ _ _ _ _ _ _ => none
  | n + 1 => fun o_counts_v o_alone_v o_parents_v a2_v x3 x4 x5 =>
  if x1 ≤ x5 then
  (pX11_tree_b74 o_counts_n o_alone_n o_parents_n a2_n x1 fb_F o_counts_v o_alone_v o_parents_v a2_v x3 x4 x4)
  else
  (if x5 < 0 ∨ o_counts_n ≤ (x5).toNatClampNeg then none else
  if (o_counts_v (x5).toNatClampNeg) ≤ 0 then
  (pX11_tree_b35 o_alone_n o_parents_n (pX11_tree_b8 o_counts_n o_alone_n o_parents_n a2_n x1 n) o_counts_v o_alone_v o_parents_v a2_v x3 x4 x5 (0 : Int32) x5)
  else
  (pX11_tree_b35 o_alone_n o_parents_n (pX11_tree_b8 o_counts_n o_alone_n o_parents_n a2_n x1 n) o_counts_v o_alone_v o_parents_v a2_v x3 x4 x5 (1 : Int32) x5))
def pX11_tree (o_counts_n : Nat) (o_alone_n : Nat) (o_parents_n : Nat) (a2_n : Nat) (x1 : Int32)  (o_counts_v : Nat → Int32) (o_alone_v : Nat → Int32) (o_parents_v : Nat → Int32) (a2_v : Nat → Int32) : Option (Int32 × (Nat → Int32) × (Nat → Int32) × (Nat → Int32) × (Nat → Int32)) :=
  pX11_tree_b8 o_counts_n o_alone_n o_parents_n a2_n x1 fb_F o_counts_v o_alone_v o_parents_v a2_v x1 (0 : Int32) (0 : Int32)
theorem hdX11_tree : yX11_tree.cls = RX11 ∧ yX11_tree.cls ≠ "java/lang/invoke/MethodHandle" ∧ yX11_tree.cls ≠ "java/lang/invoke/VarHandle" ∧ (parseMethodDescriptor yX11_tree.desc).map (fun d => d.parameters.length) = some 2 := by decide +kernel
set_option maxHeartbeats 8000000 in
set_option maxRecDepth 100000 in
theorem mX11_tree (l : Launch) (dC : Nat → ClassId) (dI : Nat → Nat → Nat) (o : Nat) (a2 : Nat) (o_counts : Nat) (o_alone : Nat) (o_parents : Nat) (o_text : Nat) (o_packed : Nat) (o_loaded : Nat) (o_out : Nat) (o_lengths : Nat) (o_distances : Nat) (o_heads : Nat) (o_earlier : Nat) (o_often : Nat) (o_symbolLengths : Nat) (o_distanceLengths : Nat) (o_lengthLengths : Nat) (o_symbolCodes : Nat) (o_distanceCodes : Nat) (o_lengthCodes : Nat) (o_row : Nat) (o_toldSymbols : Nat) (o_toldNumbers : Nat) (o_counts_c : ClassId) (o_alone_c : ClassId) (o_parents_c : ClassId) (a2_c : ClassId) (o_counts_n : Nat) (o_alone_n : Nat) (o_parents_n : Nat) (a2_n : Nat) (o_textRoom : Int32) (o_byteRoom : Int32) (o_chain : Int32) (o_textSize : Int32) (o_packedSize : Int32) (o_matches : Int32) (o_loadedSize : Int32) (o_outSize : Int32) (o_bits : Int32) (o_tokens : Int32) (o_told : Int32) (o_place : Int32) (o_fail : Int32) (o_found : Int32) (o_symbolCount : Int32) (o_distanceCount : Int32) (o_lengthCount : Int32) (o_counts_v : Nat → Int32) (o_alone_v : Nat → Int32) (o_parents_v : Nat → Int32) (a2_v : Nat → Int32) (x1 : Int32) (sz : Nat) (u : Int32 × (Nat → Int32) × (Nat → Int32) × (Nat → Int32) × (Nat → Int32)) (h : pX11_tree o_counts_n o_alone_n o_parents_n a2_n x1 o_counts_v o_alone_v o_parents_v a2_v = some u) : Met l yX11_tree (Cond.code yX11_tree cX11_tree 9 (some .int) :: fb_tb) ({ frames := 1, cells := 0, slots := 0, locals := 23 }) (fb_Pc (dC, dI) [.ref o, .int x1, .ref a2] sz [(o_counts_c, .int), (o_alone_c, .boolean), (o_parents_c, .int), (a2_c, .int)] [(o, .inr (11, [.int o_textRoom, .int o_byteRoom, .int o_chain, .ref o_text, .int o_textSize, .ref o_packed, .int o_packedSize, .int o_matches, .ref o_loaded, .int o_loadedSize, .ref o_out, .int o_outSize, .int o_bits, .int o_tokens, .ref o_lengths, .ref o_distances, .ref o_heads, .ref o_earlier, .ref o_often, .ref o_symbolLengths, .ref o_distanceLengths, .ref o_lengthLengths, .ref o_symbolCodes, .ref o_distanceCodes, .ref o_lengthCodes, .ref o_counts, .ref o_parents, .ref o_alone, .ref o_row, .int o_told, .ref o_toldSymbols, .ref o_toldNumbers, .int o_place, .int o_fail, .int o_found, .int o_symbolCount, .int o_distanceCount, .int o_lengthCount])), (o_counts, .inl (o_counts_c, o_counts_n, .inl o_counts_v)), (o_alone, .inl (o_alone_c, o_alone_n, .inl o_alone_v)), (o_parents, .inl (o_parents_c, o_parents_n, .inl o_parents_v)), (a2, .inl (a2_c, a2_n, .inl a2_v))]) (fb_Qi (dC, dI) u.1 [(o, .inr (11, [.int o_textRoom, .int o_byteRoom, .int o_chain, .ref o_text, .int o_textSize, .ref o_packed, .int o_packedSize, .int o_matches, .ref o_loaded, .int o_loadedSize, .ref o_out, .int o_outSize, .int o_bits, .int o_tokens, .ref o_lengths, .ref o_distances, .ref o_heads, .ref o_earlier, .ref o_often, .ref o_symbolLengths, .ref o_distanceLengths, .ref o_lengthLengths, .ref o_symbolCodes, .ref o_distanceCodes, .ref o_lengthCodes, .ref o_counts, .ref o_parents, .ref o_alone, .ref o_row, .int o_told, .ref o_toldSymbols, .ref o_toldNumbers, .int o_place, .int o_fail, .int o_found, .int o_symbolCount, .int o_distanceCount, .int o_lengthCount])), (o_counts, .inl (o_counts_c, o_counts_n, .inl u.2.1)), (o_alone, .inl (o_alone_c, o_alone_n, .inl u.2.2.1)), (o_parents, .inl (o_parents_c, o_parents_n, .inl u.2.2.2.1)), (a2, .inl (a2_c, a2_n, .inl u.2.2.2.2))] (va_A [(o, .inr (11, [.int o_textRoom, .int o_byteRoom, .int o_chain, .ref o_text, .int o_textSize, .ref o_packed, .int o_packedSize, .int o_matches, .ref o_loaded, .int o_loadedSize, .ref o_out, .int o_outSize, .int o_bits, .int o_tokens, .ref o_lengths, .ref o_distances, .ref o_heads, .ref o_earlier, .ref o_often, .ref o_symbolLengths, .ref o_distanceLengths, .ref o_lengthLengths, .ref o_symbolCodes, .ref o_distanceCodes, .ref o_lengthCodes, .ref o_counts, .ref o_parents, .ref o_alone, .ref o_row, .int o_told, .ref o_toldSymbols, .ref o_toldNumbers, .int o_place, .int o_fail, .int o_found, .int o_symbolCount, .int o_distanceCount, .int o_lengthCount])), (o_counts, .inl (o_counts_c, o_counts_n, .inl o_counts_v)), (o_alone, .inl (o_alone_c, o_alone_n, .inl o_alone_v)), (o_parents, .inl (o_parents_c, o_parents_n, .inl o_parents_v)), (a2, .inl (a2_c, a2_n, .inl a2_v))] sz)) 0 0 (va_A [(o, .inr (11, [.int o_textRoom, .int o_byteRoom, .int o_chain, .ref o_text, .int o_textSize, .ref o_packed, .int o_packedSize, .int o_matches, .ref o_loaded, .int o_loadedSize, .ref o_out, .int o_outSize, .int o_bits, .int o_tokens, .ref o_lengths, .ref o_distances, .ref o_heads, .ref o_earlier, .ref o_often, .ref o_symbolLengths, .ref o_distanceLengths, .ref o_lengthLengths, .ref o_symbolCodes, .ref o_distanceCodes, .ref o_lengthCodes, .ref o_counts, .ref o_parents, .ref o_alone, .ref o_row, .int o_told, .ref o_toldSymbols, .ref o_toldNumbers, .int o_place, .int o_fail, .int o_found, .int o_symbolCount, .int o_distanceCount, .int o_lengthCount])), (o_counts, .inl (o_counts_c, o_counts_n, .inl o_counts_v)), (o_alone, .inl (o_alone_c, o_alone_n, .inl o_alone_v)), (o_parents, .inl (o_parents_c, o_parents_n, .inl o_parents_v)), (a2, .inl (a2_c, a2_n, .inl a2_v))] sz) := by
  refine fb_meti (ty := .int) (by decide) (Nat.le_of_ble_eq_true rfl) (fun p e s m args below meth c A Q ls H hx hb hml hown hts hP hK hN hZ hD hA hS hret hl => ?_)
  replace hl : lv_has ls 9 [(0, .ref o), (1, .int x1), (2, .ref a2)] := hl
  have wB239 : ∀ (K176 : (Nat → Int32) → (Nat → Int32) → (Nat → Int32) → (Nat → Int32) → Int32 → Int32 → Int32 → Option (Int32 × (Nat → Int32) × (Nat → Int32) × (Nat → Int32) × (Nat → Int32))), (∀ (o_counts_v : Nat → Int32) (o_alone_v : Nat → Int32) (o_parents_v : Nat → Int32) (a2_v : Nat → Int32) (x4 : Int32) (x5 : Int32) (x6 : Int32) (H : Heap) (locs : List Loc) (ls : Array Slot), va_P (dC, dI) fb_cl [(o, .inr (11, [.int o_textRoom, .int o_byteRoom, .int o_chain, .ref o_text, .int o_textSize, .ref o_packed, .int o_packedSize, .int o_matches, .ref o_loaded, .int o_loadedSize, .ref o_out, .int o_outSize, .int o_bits, .int o_tokens, .ref o_lengths, .ref o_distances, .ref o_heads, .ref o_earlier, .ref o_often, .ref o_symbolLengths, .ref o_distanceLengths, .ref o_lengthLengths, .ref o_symbolCodes, .ref o_distanceCodes, .ref o_lengthCodes, .ref o_counts, .ref o_parents, .ref o_alone, .ref o_row, .int o_told, .ref o_toldSymbols, .ref o_toldNumbers, .int o_place, .int o_fail, .int o_found, .int o_symbolCount, .int o_distanceCount, .int o_lengthCount])), (o_counts, .inl (o_counts_c, o_counts_n, .inl o_counts_v)), (o_alone, .inl (o_alone_c, o_alone_n, .inl o_alone_v)), (o_parents, .inl (o_parents_c, o_parents_n, .inl o_parents_v)), (a2, .inl (a2_c, a2_n, .inl a2_v))] H → va_D A [(o, .inr (11, [.int o_textRoom, .int o_byteRoom, .int o_chain, .ref o_text, .int o_textSize, .ref o_packed, .int o_packedSize, .int o_matches, .ref o_loaded, .int o_loadedSize, .ref o_out, .int o_outSize, .int o_bits, .int o_tokens, .ref o_lengths, .ref o_distances, .ref o_heads, .ref o_earlier, .ref o_often, .ref o_symbolLengths, .ref o_distanceLengths, .ref o_lengthLengths, .ref o_symbolCodes, .ref o_distanceCodes, .ref o_lengthCodes, .ref o_counts, .ref o_parents, .ref o_alone, .ref o_row, .int o_told, .ref o_toldSymbols, .ref o_toldNumbers, .int o_place, .int o_fail, .int o_found, .int o_symbolCount, .int o_distanceCount, .int o_lengthCount])), (o_counts, .inl (o_counts_c, o_counts_n, .inl o_counts_v)), (o_alone, .inl (o_alone_c, o_alone_n, .inl o_alone_v)), (o_parents, .inl (o_parents_c, o_parents_n, .inl o_parents_v)), (a2, .inl (a2_c, a2_n, .inl a2_v))] → va_S A s.heap H locs → lv_has ls 9 [(0, .ref o), (1, .int x1), (2, .ref a2), (4, .int x4), (5, .int x5), (6, .int x6)] → K176 o_counts_v o_alone_v o_parents_v a2_v x4 x5 x6 = some u → W p l e ({ frames := 1, cells := 0, slots := 0, locals := 23 }) s m args below meth c H locs 0 0 Q (F0 m 176 ls [])) → ∀ (o_counts_v : Nat → Int32) (o_alone_v : Nat → Int32) (o_parents_v : Nat → Int32) (a2_v : Nat → Int32) (x4 : Int32) (x5 : Int32) (x6 : Int32) (t0 : Int32) (t1 : Int32) (H : Heap) (locs : List Loc) (ls : Array Slot), va_P (dC, dI) fb_cl [(o, .inr (11, [.int o_textRoom, .int o_byteRoom, .int o_chain, .ref o_text, .int o_textSize, .ref o_packed, .int o_packedSize, .int o_matches, .ref o_loaded, .int o_loadedSize, .ref o_out, .int o_outSize, .int o_bits, .int o_tokens, .ref o_lengths, .ref o_distances, .ref o_heads, .ref o_earlier, .ref o_often, .ref o_symbolLengths, .ref o_distanceLengths, .ref o_lengthLengths, .ref o_symbolCodes, .ref o_distanceCodes, .ref o_lengthCodes, .ref o_counts, .ref o_parents, .ref o_alone, .ref o_row, .int o_told, .ref o_toldSymbols, .ref o_toldNumbers, .int o_place, .int o_fail, .int o_found, .int o_symbolCount, .int o_distanceCount, .int o_lengthCount])), (o_counts, .inl (o_counts_c, o_counts_n, .inl o_counts_v)), (o_alone, .inl (o_alone_c, o_alone_n, .inl o_alone_v)), (o_parents, .inl (o_parents_c, o_parents_n, .inl o_parents_v)), (a2, .inl (a2_c, a2_n, .inl a2_v))] H → va_D A [(o, .inr (11, [.int o_textRoom, .int o_byteRoom, .int o_chain, .ref o_text, .int o_textSize, .ref o_packed, .int o_packedSize, .int o_matches, .ref o_loaded, .int o_loadedSize, .ref o_out, .int o_outSize, .int o_bits, .int o_tokens, .ref o_lengths, .ref o_distances, .ref o_heads, .ref o_earlier, .ref o_often, .ref o_symbolLengths, .ref o_distanceLengths, .ref o_lengthLengths, .ref o_symbolCodes, .ref o_distanceCodes, .ref o_lengthCodes, .ref o_counts, .ref o_parents, .ref o_alone, .ref o_row, .int o_told, .ref o_toldSymbols, .ref o_toldNumbers, .int o_place, .int o_fail, .int o_found, .int o_symbolCount, .int o_distanceCount, .int o_lengthCount])), (o_counts, .inl (o_counts_c, o_counts_n, .inl o_counts_v)), (o_alone, .inl (o_alone_c, o_alone_n, .inl o_alone_v)), (o_parents, .inl (o_parents_c, o_parents_n, .inl o_parents_v)), (a2, .inl (a2_c, a2_n, .inl a2_v))] → va_S A s.heap H locs → lv_has ls 9 [(0, .ref o), (1, .int x1), (2, .ref a2), (4, .int x4), (5, .int x5), (6, .int x6)] → pX11_tree_b239 a2_n K176 o_counts_v o_alone_v o_parents_v a2_v x4 x5 x6 t0 t1 = some u → W p l e ({ frames := 1, cells := 0, slots := 0, locals := 23 }) s m args below meth c H locs 0 0 Q (F0 m 239 ls [.int t0, .int t1, .ref a2]) := by
    intro K176 hK176 o_counts_v o_alone_v o_parents_v a2_v x4 x5 x6 t0 t1 H locs ls hP hD hS hl h
    unfold pX11_tree_b239 at h
    obtain ⟨g1, h⟩ := fb_g h
    refine va_iast hx hb hK hP hD hS 4 3 rfl rfl g1 dX11_tree_239 (fun H locs hP hD hS => ?_)
    replace hP : va_P (dC, dI) fb_cl [(o, .inr (11, [.int o_textRoom, .int o_byteRoom, .int o_chain, .ref o_text, .int o_textSize, .ref o_packed, .int o_packedSize, .int o_matches, .ref o_loaded, .int o_loadedSize, .ref o_out, .int o_outSize, .int o_bits, .int o_tokens, .ref o_lengths, .ref o_distances, .ref o_heads, .ref o_earlier, .ref o_often, .ref o_symbolLengths, .ref o_distanceLengths, .ref o_lengthLengths, .ref o_symbolCodes, .ref o_distanceCodes, .ref o_lengthCodes, .ref o_counts, .ref o_parents, .ref o_alone, .ref o_row, .int o_told, .ref o_toldSymbols, .ref o_toldNumbers, .int o_place, .int o_fail, .int o_found, .int o_symbolCount, .int o_distanceCount, .int o_lengthCount])), (o_counts, .inl (o_counts_c, o_counts_n, .inl o_counts_v)), (o_alone, .inl (o_alone_c, o_alone_n, .inl o_alone_v)), (o_parents, .inl (o_parents_c, o_parents_n, .inl o_parents_v)), (a2, .inl (a2_c, a2_n, .inl (upd a2_v (t1).toNatClampNeg t0)))] H := hP
    replace hD : va_D A [(o, .inr (11, [.int o_textRoom, .int o_byteRoom, .int o_chain, .ref o_text, .int o_textSize, .ref o_packed, .int o_packedSize, .int o_matches, .ref o_loaded, .int o_loadedSize, .ref o_out, .int o_outSize, .int o_bits, .int o_tokens, .ref o_lengths, .ref o_distances, .ref o_heads, .ref o_earlier, .ref o_often, .ref o_symbolLengths, .ref o_distanceLengths, .ref o_lengthLengths, .ref o_symbolCodes, .ref o_distanceCodes, .ref o_lengthCodes, .ref o_counts, .ref o_parents, .ref o_alone, .ref o_row, .int o_told, .ref o_toldSymbols, .ref o_toldNumbers, .int o_place, .int o_fail, .int o_found, .int o_symbolCount, .int o_distanceCount, .int o_lengthCount])), (o_counts, .inl (o_counts_c, o_counts_n, .inl o_counts_v)), (o_alone, .inl (o_alone_c, o_alone_n, .inl o_alone_v)), (o_parents, .inl (o_parents_c, o_parents_n, .inl o_parents_v)), (a2, .inl (a2_c, a2_n, .inl (upd a2_v (t1).toNatClampNeg t0)))] := hD
    refine lv_aload_n hx hb dX11_tree_240 rfl (lv_at hl 2 rfl) ?_
    refine lv_iload hx hb dX11_tree_241 (lv_at hl 5 rfl) ?_
    obtain ⟨g2, h⟩ := fb_g h
    refine va_iald hx hb hK hP 4 3 rfl rfl g2 dX11_tree_243 ?_
    refine lv_iload hx hb dX11_tree_244 (lv_at hl 4 rfl) ?_
    refine lv_icmp_le (tgt := 256) hx hb dX11_tree_246 (by decide) (fun c3 => ?_) (fun c3 => ?_)
    · replace h := fb_t c3 h
      refine lv_iload hx hb dX11_tree_256 (lv_at hl 4 rfl) ?_
      refine lv_istore (lv' := [(5, .int x5), (0, .ref o), (1, .int x1), (2, .ref a2), (4, .int x4), (6, .int x6)]) hx hb dX11_tree_258 hl (by decide) rfl (fun ls hl => ?_)
      refine lv_iinc (v := (x6 + (1 : Int32))) (lv' := [(6, .int (x6 + (1 : Int32))), (5, .int x5), (0, .ref o), (1, .int x1), (2, .ref a2), (4, .int x4)]) hx hb dX11_tree_260 hl (k := 5) rfl rfl (by decide) rfl (fun ls hl => ?_)
      refine lv_goto (tgt := 176) hx hb dX11_tree_263 (by decide) ?_
      exact hK176 o_counts_v o_alone_v o_parents_v (upd a2_v (t1).toNatClampNeg t0) x4 x5 (x6 + (1 : Int32)) _ _ _ hP hD hS (lv_sub hl [2, 3, 4, 5, 1, 0] rfl) h
    · replace h := fb_f c3 h
      refine lv_aload_n hx hb dX11_tree_249 rfl (lv_at hl 2 rfl) ?_
      refine lv_iload hx hb dX11_tree_250 (lv_at hl 5 rfl) ?_
      obtain ⟨g4, h⟩ := fb_g h
      refine va_iald hx hb hK hP 4 3 rfl rfl g4 dX11_tree_252 ?_
      refine lv_goto (tgt := 258) hx hb dX11_tree_253 (by decide) ?_
      refine lv_istore (lv' := [(5, .int ((upd a2_v (t1).toNatClampNeg t0) (x6).toNatClampNeg)), (0, .ref o), (1, .int x1), (2, .ref a2), (4, .int x4), (6, .int x6)]) hx hb dX11_tree_258 hl (by decide) rfl (fun ls hl => ?_)
      refine lv_iinc (v := (x6 + (1 : Int32))) (lv' := [(6, .int (x6 + (1 : Int32))), (5, .int ((upd a2_v (t1).toNatClampNeg t0) (x6).toNatClampNeg)), (0, .ref o), (1, .int x1), (2, .ref a2), (4, .int x4)]) hx hb dX11_tree_260 hl (k := 5) rfl rfl (by decide) rfl (fun ls hl => ?_)
      refine lv_goto (tgt := 176) hx hb dX11_tree_263 (by decide) ?_
      exact hK176 o_counts_v o_alone_v o_parents_v (upd a2_v (t1).toNatClampNeg t0) x4 ((upd a2_v (t1).toNatClampNeg t0) (x6).toNatClampNeg) (x6 + (1 : Int32)) _ _ _ hP hD hS (lv_sub hl [2, 3, 4, 5, 1, 0] rfl) h
  have wB194 : ∀ (K176 : (Nat → Int32) → (Nat → Int32) → (Nat → Int32) → (Nat → Int32) → Int32 → Int32 → Int32 → Option (Int32 × (Nat → Int32) × (Nat → Int32) × (Nat → Int32) × (Nat → Int32))), (∀ (o_counts_v : Nat → Int32) (o_alone_v : Nat → Int32) (o_parents_v : Nat → Int32) (a2_v : Nat → Int32) (x4 : Int32) (x5 : Int32) (x6 : Int32) (H : Heap) (locs : List Loc) (ls : Array Slot), va_P (dC, dI) fb_cl [(o, .inr (11, [.int o_textRoom, .int o_byteRoom, .int o_chain, .ref o_text, .int o_textSize, .ref o_packed, .int o_packedSize, .int o_matches, .ref o_loaded, .int o_loadedSize, .ref o_out, .int o_outSize, .int o_bits, .int o_tokens, .ref o_lengths, .ref o_distances, .ref o_heads, .ref o_earlier, .ref o_often, .ref o_symbolLengths, .ref o_distanceLengths, .ref o_lengthLengths, .ref o_symbolCodes, .ref o_distanceCodes, .ref o_lengthCodes, .ref o_counts, .ref o_parents, .ref o_alone, .ref o_row, .int o_told, .ref o_toldSymbols, .ref o_toldNumbers, .int o_place, .int o_fail, .int o_found, .int o_symbolCount, .int o_distanceCount, .int o_lengthCount])), (o_counts, .inl (o_counts_c, o_counts_n, .inl o_counts_v)), (o_alone, .inl (o_alone_c, o_alone_n, .inl o_alone_v)), (o_parents, .inl (o_parents_c, o_parents_n, .inl o_parents_v)), (a2, .inl (a2_c, a2_n, .inl a2_v))] H → va_D A [(o, .inr (11, [.int o_textRoom, .int o_byteRoom, .int o_chain, .ref o_text, .int o_textSize, .ref o_packed, .int o_packedSize, .int o_matches, .ref o_loaded, .int o_loadedSize, .ref o_out, .int o_outSize, .int o_bits, .int o_tokens, .ref o_lengths, .ref o_distances, .ref o_heads, .ref o_earlier, .ref o_often, .ref o_symbolLengths, .ref o_distanceLengths, .ref o_lengthLengths, .ref o_symbolCodes, .ref o_distanceCodes, .ref o_lengthCodes, .ref o_counts, .ref o_parents, .ref o_alone, .ref o_row, .int o_told, .ref o_toldSymbols, .ref o_toldNumbers, .int o_place, .int o_fail, .int o_found, .int o_symbolCount, .int o_distanceCount, .int o_lengthCount])), (o_counts, .inl (o_counts_c, o_counts_n, .inl o_counts_v)), (o_alone, .inl (o_alone_c, o_alone_n, .inl o_alone_v)), (o_parents, .inl (o_parents_c, o_parents_n, .inl o_parents_v)), (a2, .inl (a2_c, a2_n, .inl a2_v))] → va_S A s.heap H locs → lv_has ls 9 [(0, .ref o), (1, .int x1), (2, .ref a2), (4, .int x4), (5, .int x5), (6, .int x6)] → K176 o_counts_v o_alone_v o_parents_v a2_v x4 x5 x6 = some u → W p l e ({ frames := 1, cells := 0, slots := 0, locals := 23 }) s m args below meth c H locs 0 0 Q (F0 m 176 ls [])) → ∀ n : Nat, ∀ (o_counts_v : Nat → Int32) (o_alone_v : Nat → Int32) (o_parents_v : Nat → Int32) (a2_v : Nat → Int32) (x4 : Int32) (x5 : Int32) (x6 : Int32) (x7 : Int32) (x8 : Int32) (H : Heap) (locs : List Loc) (ls : Array Slot), va_P (dC, dI) fb_cl [(o, .inr (11, [.int o_textRoom, .int o_byteRoom, .int o_chain, .ref o_text, .int o_textSize, .ref o_packed, .int o_packedSize, .int o_matches, .ref o_loaded, .int o_loadedSize, .ref o_out, .int o_outSize, .int o_bits, .int o_tokens, .ref o_lengths, .ref o_distances, .ref o_heads, .ref o_earlier, .ref o_often, .ref o_symbolLengths, .ref o_distanceLengths, .ref o_lengthLengths, .ref o_symbolCodes, .ref o_distanceCodes, .ref o_lengthCodes, .ref o_counts, .ref o_parents, .ref o_alone, .ref o_row, .int o_told, .ref o_toldSymbols, .ref o_toldNumbers, .int o_place, .int o_fail, .int o_found, .int o_symbolCount, .int o_distanceCount, .int o_lengthCount])), (o_counts, .inl (o_counts_c, o_counts_n, .inl o_counts_v)), (o_alone, .inl (o_alone_c, o_alone_n, .inl o_alone_v)), (o_parents, .inl (o_parents_c, o_parents_n, .inl o_parents_v)), (a2, .inl (a2_c, a2_n, .inl a2_v))] H → va_D A [(o, .inr (11, [.int o_textRoom, .int o_byteRoom, .int o_chain, .ref o_text, .int o_textSize, .ref o_packed, .int o_packedSize, .int o_matches, .ref o_loaded, .int o_loadedSize, .ref o_out, .int o_outSize, .int o_bits, .int o_tokens, .ref o_lengths, .ref o_distances, .ref o_heads, .ref o_earlier, .ref o_often, .ref o_symbolLengths, .ref o_distanceLengths, .ref o_lengthLengths, .ref o_symbolCodes, .ref o_distanceCodes, .ref o_lengthCodes, .ref o_counts, .ref o_parents, .ref o_alone, .ref o_row, .int o_told, .ref o_toldSymbols, .ref o_toldNumbers, .int o_place, .int o_fail, .int o_found, .int o_symbolCount, .int o_distanceCount, .int o_lengthCount])), (o_counts, .inl (o_counts_c, o_counts_n, .inl o_counts_v)), (o_alone, .inl (o_alone_c, o_alone_n, .inl o_alone_v)), (o_parents, .inl (o_parents_c, o_parents_n, .inl o_parents_v)), (a2, .inl (a2_c, a2_n, .inl a2_v))] → va_S A s.heap H locs → lv_has ls 9 [(0, .ref o), (1, .int x1), (2, .ref a2), (4, .int x4), (5, .int x5), (6, .int x6), (7, .int x7), (8, .int x8)] → pX11_tree_b194 o_counts_n o_parents_n a2_n K176 n o_counts_v o_alone_v o_parents_v a2_v x4 x5 x6 x7 x8 = some u → W p l e ({ frames := 1, cells := 0, slots := 0, locals := 23 }) s m args below meth c H locs 0 0 Q (F0 m 194 ls []) := by
    intro K176 hK176 n
    induction n with
    | zero => intro o_counts_v o_alone_v o_parents_v a2_v x4 x5 x6 x7 x8 H locs ls hP hD hS hl h; cases h
    | succ n ih =>
      intro o_counts_v o_alone_v o_parents_v a2_v x4 x5 x6 x7 x8 H locs ls hP hD hS hl h
      rw [pX11_tree_b194] at h
      refine lv_iload hx hb dX11_tree_194 (lv_at hl 7 rfl) ?_
      refine lv_if_lt (tgt := 214) hx hb dX11_tree_196 (by decide) (fun c5 => ?_) (fun c5 => ?_)
      · replace h := fb_t c5 h
        refine lv_aload_n hx hb dX11_tree_214 rfl (lv_at hl 2 rfl) ?_
        refine lv_iload hx hb dX11_tree_215 (lv_at hl 5 rfl) ?_
        refine lv_iload hx hb dX11_tree_217 (lv_at hl 3 rfl) ?_
        refine lv_iconst (v := (1 : Int32)) hx hb dX11_tree_219 (by decide) ?_
        refine lv_icmp_ne (tgt := 237) hx hb dX11_tree_220 (by decide) (fun c6 => ?_) (fun c6 => ?_)
        · replace h := fb_f c6 h
          refine lv_iload hx hb dX11_tree_237 (lv_at hl 6 rfl) ?_
          exact wB239 K176 hK176 o_counts_v o_alone_v o_parents_v a2_v x4 x5 x6 x7 x6 _ _ _ hP hD hS (lv_sub hl [0, 1, 2, 3, 4, 5] rfl) h
        · replace h := fb_t c6 h
          refine lv_aload_n hx hb dX11_tree_223 rfl (lv_at hl 0 rfl) ?_
          refine va_get (D := (dC, dI)) (ci := 11) (v := .ref o_counts) (C := RX11) (T := TX11) (N := 38) hx hb hts i_X11 hown hK hP 0 rfl rfl 25 (by decide) (hts _ k_862) (fun _ h9 => h9) rfl dX11_tree_224 ?_
          refine lv_iload hx hb dX11_tree_227 (lv_at hl 5 rfl) ?_
          obtain ⟨g7, h⟩ := fb_g h
          refine va_iald hx hb hK hP 1 0 rfl rfl g7 dX11_tree_229 ?_
          refine lv_if_le (tgt := 237) hx hb dX11_tree_230 (by decide) (fun c8 => ?_) (fun c8 => ?_)
          · replace h := fb_t c8 h
            refine lv_iload hx hb dX11_tree_237 (lv_at hl 6 rfl) ?_
            exact wB239 K176 hK176 o_counts_v o_alone_v o_parents_v a2_v x4 x5 x6 x7 x6 _ _ _ hP hD hS (lv_sub hl [0, 1, 2, 3, 4, 5] rfl) h
          · replace h := fb_f c8 h
            refine lv_iconst (v := (1 : Int32)) hx hb dX11_tree_233 (by decide) ?_
            refine lv_goto (tgt := 239) hx hb dX11_tree_234 (by decide) ?_
            exact wB239 K176 hK176 o_counts_v o_alone_v o_parents_v a2_v x4 x5 x6 (1 : Int32) x6 _ _ _ hP hD hS (lv_sub hl [0, 1, 2, 3, 4, 5] rfl) h
      · replace h := fb_f c5 h
        refine lv_iinc (v := (x7 + (1 : Int32))) (lv' := [(7, .int (x7 + (1 : Int32))), (0, .ref o), (1, .int x1), (2, .ref a2), (4, .int x4), (5, .int x5), (6, .int x6), (8, .int x8)]) hx hb dX11_tree_199 hl (k := 6) rfl rfl (by decide) rfl (fun ls hl => ?_)
        refine lv_aload_n hx hb dX11_tree_202 rfl (lv_at hl 1 rfl) ?_
        refine va_get (D := (dC, dI)) (ci := 11) (v := .ref o_parents) (C := RX11) (T := TX11) (N := 38) hx hb hts i_X11 hown hK hP 0 rfl rfl 26 (by decide) (hts _ k_863) (fun _ h9 => h9) rfl dX11_tree_203 ?_
        refine lv_iload hx hb dX11_tree_206 (lv_at hl 7 rfl) ?_
        obtain ⟨g9, h⟩ := fb_g h
        refine va_iald hx hb hK hP 3 2 rfl rfl g9 dX11_tree_208 ?_
        refine lv_istore (lv' := [(8, .int (o_parents_v (x8).toNatClampNeg)), (7, .int (x7 + (1 : Int32))), (0, .ref o), (1, .int x1), (2, .ref a2), (4, .int x4), (5, .int x5), (6, .int x6)]) hx hb dX11_tree_209 hl (by decide) rfl (fun ls hl => ?_)
        refine lv_goto (tgt := 194) hx hb dX11_tree_211 (by decide) ?_
        exact ih o_counts_v o_alone_v o_parents_v a2_v x4 x5 x6 (x7 + (1 : Int32)) (o_parents_v (x8).toNatClampNeg) _ _ _ hP hD hS (lv_sub hl [2, 3, 4, 5, 6, 7, 1, 0] rfl) h
  have wB176 : ∀ n : Nat, ∀ (o_counts_v : Nat → Int32) (o_alone_v : Nat → Int32) (o_parents_v : Nat → Int32) (a2_v : Nat → Int32) (x4 : Int32) (x5 : Int32) (x6 : Int32) (H : Heap) (locs : List Loc) (ls : Array Slot), va_P (dC, dI) fb_cl [(o, .inr (11, [.int o_textRoom, .int o_byteRoom, .int o_chain, .ref o_text, .int o_textSize, .ref o_packed, .int o_packedSize, .int o_matches, .ref o_loaded, .int o_loadedSize, .ref o_out, .int o_outSize, .int o_bits, .int o_tokens, .ref o_lengths, .ref o_distances, .ref o_heads, .ref o_earlier, .ref o_often, .ref o_symbolLengths, .ref o_distanceLengths, .ref o_lengthLengths, .ref o_symbolCodes, .ref o_distanceCodes, .ref o_lengthCodes, .ref o_counts, .ref o_parents, .ref o_alone, .ref o_row, .int o_told, .ref o_toldSymbols, .ref o_toldNumbers, .int o_place, .int o_fail, .int o_found, .int o_symbolCount, .int o_distanceCount, .int o_lengthCount])), (o_counts, .inl (o_counts_c, o_counts_n, .inl o_counts_v)), (o_alone, .inl (o_alone_c, o_alone_n, .inl o_alone_v)), (o_parents, .inl (o_parents_c, o_parents_n, .inl o_parents_v)), (a2, .inl (a2_c, a2_n, .inl a2_v))] H → va_D A [(o, .inr (11, [.int o_textRoom, .int o_byteRoom, .int o_chain, .ref o_text, .int o_textSize, .ref o_packed, .int o_packedSize, .int o_matches, .ref o_loaded, .int o_loadedSize, .ref o_out, .int o_outSize, .int o_bits, .int o_tokens, .ref o_lengths, .ref o_distances, .ref o_heads, .ref o_earlier, .ref o_often, .ref o_symbolLengths, .ref o_distanceLengths, .ref o_lengthLengths, .ref o_symbolCodes, .ref o_distanceCodes, .ref o_lengthCodes, .ref o_counts, .ref o_parents, .ref o_alone, .ref o_row, .int o_told, .ref o_toldSymbols, .ref o_toldNumbers, .int o_place, .int o_fail, .int o_found, .int o_symbolCount, .int o_distanceCount, .int o_lengthCount])), (o_counts, .inl (o_counts_c, o_counts_n, .inl o_counts_v)), (o_alone, .inl (o_alone_c, o_alone_n, .inl o_alone_v)), (o_parents, .inl (o_parents_c, o_parents_n, .inl o_parents_v)), (a2, .inl (a2_c, a2_n, .inl a2_v))] → va_S A s.heap H locs → lv_has ls 9 [(0, .ref o), (1, .int x1), (2, .ref a2), (4, .int x4), (5, .int x5), (6, .int x6)] → pX11_tree_b176 o_counts_n o_parents_n a2_n x1 n o_counts_v o_alone_v o_parents_v a2_v x4 x5 x6 = some u → W p l e ({ frames := 1, cells := 0, slots := 0, locals := 23 }) s m args below meth c H locs 0 0 Q (F0 m 176 ls []) := by
    intro n
    induction n with
    | zero => intro o_counts_v o_alone_v o_parents_v a2_v x4 x5 x6 H locs ls hP hD hS hl h; cases h
    | succ n ih =>
      intro o_counts_v o_alone_v o_parents_v a2_v x4 x5 x6 H locs ls hP hD hS hl h
      rw [pX11_tree_b176] at h
      refine lv_iload hx hb dX11_tree_176 (lv_at hl 5 rfl) ?_
      refine lv_iload_n hx hb dX11_tree_178 rfl (lv_at hl 1 rfl) ?_
      refine lv_icmp_ge (tgt := 266) hx hb dX11_tree_179 (by decide) (fun c10 => ?_) (fun c10 => ?_)
      · replace h := fb_t c10 h
        refine lv_iload hx hb dX11_tree_266 (lv_at hl 4 rfl) ?_
        have hu := Option.some.inj h
        exact hret _ _ _ _ _ dX11_tree_268 rfl (by rw [← hu]) (by rw [← hu]; exact hP) (by rw [← hu]; exact hD) hS
      · replace h := fb_f c10 h
        refine lv_iconst (v := (0 : Int32)) hx hb dX11_tree_182 (by decide) ?_
        refine lv_istore (lv' := [(7, .int (0 : Int32)), (0, .ref o), (1, .int x1), (2, .ref a2), (4, .int x4), (5, .int x5), (6, .int x6)]) hx hb dX11_tree_183 hl (by decide) rfl (fun ls hl => ?_)
        refine lv_aload_n hx hb dX11_tree_185 rfl (lv_at hl 1 rfl) ?_
        refine va_get (D := (dC, dI)) (ci := 11) (v := .ref o_parents) (C := RX11) (T := TX11) (N := 38) hx hb hts i_X11 hown hK hP 0 rfl rfl 26 (by decide) (hts _ k_863) (fun _ h9 => h9) rfl dX11_tree_186 ?_
        refine lv_iload hx hb dX11_tree_189 (lv_at hl 6 rfl) ?_
        obtain ⟨g11, h⟩ := fb_g h
        refine va_iald hx hb hK hP 3 2 rfl rfl g11 dX11_tree_191 ?_
        refine lv_istore (lv' := [(8, .int (o_parents_v (x6).toNatClampNeg)), (7, .int (0 : Int32)), (0, .ref o), (1, .int x1), (2, .ref a2), (4, .int x4), (5, .int x5), (6, .int x6)]) hx hb dX11_tree_192 hl (by decide) rfl (fun ls hl => ?_)
        exact wB194 (pX11_tree_b176 o_counts_n o_parents_n a2_n x1 n) ih fb_F o_counts_v o_alone_v o_parents_v a2_v x4 x5 x6 (0 : Int32) (o_parents_v (x6).toNatClampNeg) _ _ _ hP hD hS (lv_sub hl [2, 3, 4, 5, 6, 7, 1, 0] rfl) h
  have wB74 : ∀ n : Nat, ∀ (o_counts_v : Nat → Int32) (o_alone_v : Nat → Int32) (o_parents_v : Nat → Int32) (a2_v : Nat → Int32) (x3 : Int32) (x4 : Int32) (x5 : Int32) (H : Heap) (locs : List Loc) (ls : Array Slot), va_P (dC, dI) fb_cl [(o, .inr (11, [.int o_textRoom, .int o_byteRoom, .int o_chain, .ref o_text, .int o_textSize, .ref o_packed, .int o_packedSize, .int o_matches, .ref o_loaded, .int o_loadedSize, .ref o_out, .int o_outSize, .int o_bits, .int o_tokens, .ref o_lengths, .ref o_distances, .ref o_heads, .ref o_earlier, .ref o_often, .ref o_symbolLengths, .ref o_distanceLengths, .ref o_lengthLengths, .ref o_symbolCodes, .ref o_distanceCodes, .ref o_lengthCodes, .ref o_counts, .ref o_parents, .ref o_alone, .ref o_row, .int o_told, .ref o_toldSymbols, .ref o_toldNumbers, .int o_place, .int o_fail, .int o_found, .int o_symbolCount, .int o_distanceCount, .int o_lengthCount])), (o_counts, .inl (o_counts_c, o_counts_n, .inl o_counts_v)), (o_alone, .inl (o_alone_c, o_alone_n, .inl o_alone_v)), (o_parents, .inl (o_parents_c, o_parents_n, .inl o_parents_v)), (a2, .inl (a2_c, a2_n, .inl a2_v))] H → va_D A [(o, .inr (11, [.int o_textRoom, .int o_byteRoom, .int o_chain, .ref o_text, .int o_textSize, .ref o_packed, .int o_packedSize, .int o_matches, .ref o_loaded, .int o_loadedSize, .ref o_out, .int o_outSize, .int o_bits, .int o_tokens, .ref o_lengths, .ref o_distances, .ref o_heads, .ref o_earlier, .ref o_often, .ref o_symbolLengths, .ref o_distanceLengths, .ref o_lengthLengths, .ref o_symbolCodes, .ref o_distanceCodes, .ref o_lengthCodes, .ref o_counts, .ref o_parents, .ref o_alone, .ref o_row, .int o_told, .ref o_toldSymbols, .ref o_toldNumbers, .int o_place, .int o_fail, .int o_found, .int o_symbolCount, .int o_distanceCount, .int o_lengthCount])), (o_counts, .inl (o_counts_c, o_counts_n, .inl o_counts_v)), (o_alone, .inl (o_alone_c, o_alone_n, .inl o_alone_v)), (o_parents, .inl (o_parents_c, o_parents_n, .inl o_parents_v)), (a2, .inl (a2_c, a2_n, .inl a2_v))] → va_S A s.heap H locs → lv_has ls 9 [(0, .ref o), (1, .int x1), (2, .ref a2), (3, .int x3), (4, .int x4), (5, .int x5)] → pX11_tree_b74 o_counts_n o_alone_n o_parents_n a2_n x1 n o_counts_v o_alone_v o_parents_v a2_v x3 x4 x5 = some u → W p l e ({ frames := 1, cells := 0, slots := 0, locals := 23 }) s m args below meth c H locs 0 0 Q (F0 m 74 ls []) := by
    intro n
    induction n with
    | zero => intro o_counts_v o_alone_v o_parents_v a2_v x3 x4 x5 H locs ls hP hD hS hl h; cases h
    | succ n ih =>
      intro o_counts_v o_alone_v o_parents_v a2_v x3 x4 x5 H locs ls hP hD hS hl h
      rw [pX11_tree_b74] at h
      refine lv_iload hx hb dX11_tree_74 (lv_at hl 5 rfl) ?_
      refine lv_iconst (v := (1 : Int32)) hx hb dX11_tree_76 (by decide) ?_
      refine lv_icmp_le (tgt := 170) hx hb dX11_tree_77 (by decide) (fun c12 => ?_) (fun c12 => ?_)
      · replace h := fb_t c12 h
        refine lv_iconst (v := (0 : Int32)) hx hb dX11_tree_170 (by decide) ?_
        refine lv_istore (lv' := [(5, .int (0 : Int32)), (0, .ref o), (1, .int x1), (2, .ref a2), (3, .int x3), (4, .int x4)]) hx hb dX11_tree_171 hl (by decide) rfl (fun ls hl => ?_)
        refine lv_iconst (v := (0 : Int32)) hx hb dX11_tree_173 (by decide) ?_
        refine lv_istore (lv' := [(6, .int (0 : Int32)), (5, .int (0 : Int32)), (0, .ref o), (1, .int x1), (2, .ref a2), (3, .int x3), (4, .int x4)]) hx hb dX11_tree_174 hl (by decide) rfl (fun ls hl => ?_)
        exact wB176 fb_F o_counts_v o_alone_v o_parents_v a2_v x4 (0 : Int32) (0 : Int32) _ _ _ hP hD hS (lv_sub hl [2, 3, 4, 6, 1, 0] rfl) h
      · replace h := fb_f c12 h
        refine lv_aload_n hx hb dX11_tree_80 rfl (lv_at hl 0 rfl) ?_
        refine lv_iload_n hx hb dX11_tree_81 rfl (lv_at hl 3 rfl) ?_
        obtain ⟨u13, e13, h⟩ := fb_b h
        refine fb_ci (wc := [(o, .inr (11, [.int o_textRoom, .int o_byteRoom, .int o_chain, .ref o_text, .int o_textSize, .ref o_packed, .int o_packedSize, .int o_matches, .ref o_loaded, .int o_loadedSize, .ref o_out, .int o_outSize, .int o_bits, .int o_tokens, .ref o_lengths, .ref o_distances, .ref o_heads, .ref o_earlier, .ref o_often, .ref o_symbolLengths, .ref o_distanceLengths, .ref o_lengthLengths, .ref o_symbolCodes, .ref o_distanceCodes, .ref o_lengthCodes, .ref o_counts, .ref o_parents, .ref o_alone, .ref o_row, .int o_told, .ref o_toldSymbols, .ref o_toldNumbers, .int o_place, .int o_fail, .int o_found, .int o_symbolCount, .int o_distanceCount, .int o_lengthCount])), (o_alone, .inl (o_alone_c, o_alone_n, .inl o_alone_v)), (o_counts, .inl (o_counts_c, o_counts_n, .inl o_counts_v))]) (wr := [(o_parents, .inl (o_parents_c, o_parents_n, .inl o_parents_v)), (a2, .inl (a2_c, a2_n, .inl a2_v))]) (w1 := [(o, .inr (11, [.int o_textRoom, .int o_byteRoom, .int o_chain, .ref o_text, .int o_textSize, .ref o_packed, .int o_packedSize, .int o_matches, .ref o_loaded, .int o_loadedSize, .ref o_out, .int o_outSize, .int o_bits, .int o_tokens, .ref o_lengths, .ref o_distances, .ref o_heads, .ref o_earlier, .ref o_often, .ref o_symbolLengths, .ref o_distanceLengths, .ref o_lengthLengths, .ref o_symbolCodes, .ref o_distanceCodes, .ref o_lengthCodes, .ref o_counts, .ref o_parents, .ref o_alone, .ref o_row, .int o_told, .ref o_toldSymbols, .ref o_toldNumbers, .int o_place, .int o_fail, .int o_found, .int o_symbolCount, .int o_distanceCount, .int o_lengthCount])), (o_alone, .inl (o_alone_c, o_alone_n, .inl o_alone_v)), (o_counts, .inl (o_counts_c, o_counts_n, .inl o_counts_v))]) (ws' := [(o, .inr (11, [.int o_textRoom, .int o_byteRoom, .int o_chain, .ref o_text, .int o_textSize, .ref o_packed, .int o_packedSize, .int o_matches, .ref o_loaded, .int o_loadedSize, .ref o_out, .int o_outSize, .int o_bits, .int o_tokens, .ref o_lengths, .ref o_distances, .ref o_heads, .ref o_earlier, .ref o_often, .ref o_symbolLengths, .ref o_distanceLengths, .ref o_lengthLengths, .ref o_symbolCodes, .ref o_distanceCodes, .ref o_lengthCodes, .ref o_counts, .ref o_parents, .ref o_alone, .ref o_row, .int o_told, .ref o_toldSymbols, .ref o_toldNumbers, .int o_place, .int o_fail, .int o_found, .int o_symbolCount, .int o_distanceCount, .int o_lengthCount])), (o_counts, .inl (o_counts_c, o_counts_n, .inl o_counts_v)), (o_alone, .inl (o_alone_c, o_alone_n, .inl o_alone_v)), (o_parents, .inl (o_parents_c, o_parents_n, .inl o_parents_v)), (a2, .inl (a2_c, a2_n, .inl a2_v))]) (va_runV (As := [.int x3]) (rest := []) ⟨hx, hb, hml, hown, hts⟩ (mX11_rarest l dC dI o o_alone o_counts o_text o_packed o_loaded o_out o_lengths o_distances o_heads o_earlier o_often o_symbolLengths o_distanceLengths o_lengthLengths o_symbolCodes o_distanceCodes o_lengthCodes o_parents o_row o_toldSymbols o_toldNumbers o_alone_c o_counts_c o_alone_n o_counts_n o_textRoom o_byteRoom o_chain o_textSize o_packedSize o_matches o_loadedSize o_outSize o_bits o_tokens o_told o_place o_fail o_found o_symbolCount o_distanceCount o_lengthCount o_alone_v o_counts_v x3 H.size u13 e13) (cwV 1 hts (fb_GV k_1047 k_1049 k_42 k_74 k_1050) rfl rfl rfl hdX11_rarest ⟨Nat.le_of_ble_eq_true rfl, Nat.le_of_ble_eq_true rfl⟩) (fb_pV hP hD hS hA hK hN hZ [0, 2, 1] rfl rfl [1, 0] rfl (q0 := 0) (ci := 11) rfl rfl) rfl rfl hl.1 rfl (lv_room (Nat.le_of_ble_eq_true rfl)) dX11_tree_82 ⟨Nat.le_of_ble_eq_true rfl, Nat.le_of_ble_eq_true rfl⟩) hP hD hS hA [0, 2, 1] [3, 4] rfl rfl rfl (by decide) [2, 4, 3, 0, 1] rfl rfl (fun H locs hP hD hS => ?_)
        refine lv_istore (lv' := [(6, .int u13), (0, .ref o), (1, .int x1), (2, .ref a2), (3, .int x3), (4, .int x4), (5, .int x5)]) hx hb dX11_tree_85 hl (by decide) rfl (fun ls hl => ?_)
        refine lv_aload_n hx hb dX11_tree_87 rfl (lv_at hl 1 rfl) ?_
        refine va_get (D := (dC, dI)) (ci := 11) (v := .ref o_alone) (C := RX11) (T := TX11) (N := 38) hx hb hts i_X11 hown hK hP 0 rfl rfl 27 (by decide) (hts _ k_864) (fun _ h9 => h9) rfl dX11_tree_88 ?_
        refine lv_iload hx hb dX11_tree_91 (lv_at hl 0 rfl) ?_
        refine lv_iconst (v := (0 : Int32)) hx hb dX11_tree_93 (by decide) ?_
        obtain ⟨g14, h⟩ := fb_g h
        refine va_zast hx hb hK hP hD hS 2 1 rfl rfl g14 dX11_tree_94 (fun H locs hP hD hS => ?_)
        replace hP : va_P (dC, dI) fb_cl [(o, .inr (11, [.int o_textRoom, .int o_byteRoom, .int o_chain, .ref o_text, .int o_textSize, .ref o_packed, .int o_packedSize, .int o_matches, .ref o_loaded, .int o_loadedSize, .ref o_out, .int o_outSize, .int o_bits, .int o_tokens, .ref o_lengths, .ref o_distances, .ref o_heads, .ref o_earlier, .ref o_often, .ref o_symbolLengths, .ref o_distanceLengths, .ref o_lengthLengths, .ref o_symbolCodes, .ref o_distanceCodes, .ref o_lengthCodes, .ref o_counts, .ref o_parents, .ref o_alone, .ref o_row, .int o_told, .ref o_toldSymbols, .ref o_toldNumbers, .int o_place, .int o_fail, .int o_found, .int o_symbolCount, .int o_distanceCount, .int o_lengthCount])), (o_counts, .inl (o_counts_c, o_counts_n, .inl o_counts_v)), (o_alone, .inl (o_alone_c, o_alone_n, .inl (upd o_alone_v (u13).toNatClampNeg (vp_nar .boolean (0 : Int32))))), (o_parents, .inl (o_parents_c, o_parents_n, .inl o_parents_v)), (a2, .inl (a2_c, a2_n, .inl a2_v))] H := hP
        replace hD : va_D A [(o, .inr (11, [.int o_textRoom, .int o_byteRoom, .int o_chain, .ref o_text, .int o_textSize, .ref o_packed, .int o_packedSize, .int o_matches, .ref o_loaded, .int o_loadedSize, .ref o_out, .int o_outSize, .int o_bits, .int o_tokens, .ref o_lengths, .ref o_distances, .ref o_heads, .ref o_earlier, .ref o_often, .ref o_symbolLengths, .ref o_distanceLengths, .ref o_lengthLengths, .ref o_symbolCodes, .ref o_distanceCodes, .ref o_lengthCodes, .ref o_counts, .ref o_parents, .ref o_alone, .ref o_row, .int o_told, .ref o_toldSymbols, .ref o_toldNumbers, .int o_place, .int o_fail, .int o_found, .int o_symbolCount, .int o_distanceCount, .int o_lengthCount])), (o_counts, .inl (o_counts_c, o_counts_n, .inl o_counts_v)), (o_alone, .inl (o_alone_c, o_alone_n, .inl (upd o_alone_v (u13).toNatClampNeg (vp_nar .boolean (0 : Int32))))), (o_parents, .inl (o_parents_c, o_parents_n, .inl o_parents_v)), (a2, .inl (a2_c, a2_n, .inl a2_v))] := hD
        refine lv_aload_n hx hb dX11_tree_95 rfl (lv_at hl 1 rfl) ?_
        refine lv_iload_n hx hb dX11_tree_96 rfl (lv_at hl 4 rfl) ?_
        obtain ⟨u15, e15, h⟩ := fb_b h
        refine fb_ci (wc := [(o, .inr (11, [.int o_textRoom, .int o_byteRoom, .int o_chain, .ref o_text, .int o_textSize, .ref o_packed, .int o_packedSize, .int o_matches, .ref o_loaded, .int o_loadedSize, .ref o_out, .int o_outSize, .int o_bits, .int o_tokens, .ref o_lengths, .ref o_distances, .ref o_heads, .ref o_earlier, .ref o_often, .ref o_symbolLengths, .ref o_distanceLengths, .ref o_lengthLengths, .ref o_symbolCodes, .ref o_distanceCodes, .ref o_lengthCodes, .ref o_counts, .ref o_parents, .ref o_alone, .ref o_row, .int o_told, .ref o_toldSymbols, .ref o_toldNumbers, .int o_place, .int o_fail, .int o_found, .int o_symbolCount, .int o_distanceCount, .int o_lengthCount])), (o_alone, .inl (o_alone_c, o_alone_n, .inl (upd o_alone_v (u13).toNatClampNeg (vp_nar .boolean (0 : Int32))))), (o_counts, .inl (o_counts_c, o_counts_n, .inl o_counts_v))]) (wr := [(o_parents, .inl (o_parents_c, o_parents_n, .inl o_parents_v)), (a2, .inl (a2_c, a2_n, .inl a2_v))]) (w1 := [(o, .inr (11, [.int o_textRoom, .int o_byteRoom, .int o_chain, .ref o_text, .int o_textSize, .ref o_packed, .int o_packedSize, .int o_matches, .ref o_loaded, .int o_loadedSize, .ref o_out, .int o_outSize, .int o_bits, .int o_tokens, .ref o_lengths, .ref o_distances, .ref o_heads, .ref o_earlier, .ref o_often, .ref o_symbolLengths, .ref o_distanceLengths, .ref o_lengthLengths, .ref o_symbolCodes, .ref o_distanceCodes, .ref o_lengthCodes, .ref o_counts, .ref o_parents, .ref o_alone, .ref o_row, .int o_told, .ref o_toldSymbols, .ref o_toldNumbers, .int o_place, .int o_fail, .int o_found, .int o_symbolCount, .int o_distanceCount, .int o_lengthCount])), (o_alone, .inl (o_alone_c, o_alone_n, .inl (upd o_alone_v (u13).toNatClampNeg (vp_nar .boolean (0 : Int32))))), (o_counts, .inl (o_counts_c, o_counts_n, .inl o_counts_v))]) (ws' := [(o, .inr (11, [.int o_textRoom, .int o_byteRoom, .int o_chain, .ref o_text, .int o_textSize, .ref o_packed, .int o_packedSize, .int o_matches, .ref o_loaded, .int o_loadedSize, .ref o_out, .int o_outSize, .int o_bits, .int o_tokens, .ref o_lengths, .ref o_distances, .ref o_heads, .ref o_earlier, .ref o_often, .ref o_symbolLengths, .ref o_distanceLengths, .ref o_lengthLengths, .ref o_symbolCodes, .ref o_distanceCodes, .ref o_lengthCodes, .ref o_counts, .ref o_parents, .ref o_alone, .ref o_row, .int o_told, .ref o_toldSymbols, .ref o_toldNumbers, .int o_place, .int o_fail, .int o_found, .int o_symbolCount, .int o_distanceCount, .int o_lengthCount])), (o_counts, .inl (o_counts_c, o_counts_n, .inl o_counts_v)), (o_alone, .inl (o_alone_c, o_alone_n, .inl (upd o_alone_v (u13).toNatClampNeg (vp_nar .boolean (0 : Int32))))), (o_parents, .inl (o_parents_c, o_parents_n, .inl o_parents_v)), (a2, .inl (a2_c, a2_n, .inl a2_v))]) (va_runV (As := [.int x3]) (rest := []) ⟨hx, hb, hml, hown, hts⟩ (mX11_rarest l dC dI o o_alone o_counts o_text o_packed o_loaded o_out o_lengths o_distances o_heads o_earlier o_often o_symbolLengths o_distanceLengths o_lengthLengths o_symbolCodes o_distanceCodes o_lengthCodes o_parents o_row o_toldSymbols o_toldNumbers o_alone_c o_counts_c o_alone_n o_counts_n o_textRoom o_byteRoom o_chain o_textSize o_packedSize o_matches o_loadedSize o_outSize o_bits o_tokens o_told o_place o_fail o_found o_symbolCount o_distanceCount o_lengthCount (upd o_alone_v (u13).toNatClampNeg (vp_nar .boolean (0 : Int32))) o_counts_v x3 H.size u15 e15) (cwV 1 hts (fb_GV k_1047 k_1049 k_42 k_74 k_1050) rfl rfl rfl hdX11_rarest ⟨Nat.le_of_ble_eq_true rfl, Nat.le_of_ble_eq_true rfl⟩) (fb_pV hP hD hS hA hK hN hZ [0, 2, 1] rfl rfl [1, 0] rfl (q0 := 0) (ci := 11) rfl rfl) rfl rfl hl.1 rfl (lv_room (Nat.le_of_ble_eq_true rfl)) dX11_tree_97 ⟨Nat.le_of_ble_eq_true rfl, Nat.le_of_ble_eq_true rfl⟩) hP hD hS hA [0, 2, 1] [3, 4] rfl rfl rfl (by decide) [2, 4, 3, 0, 1] rfl rfl (fun H locs hP hD hS => ?_)
        refine lv_istore (lv' := [(7, .int u15), (6, .int u13), (0, .ref o), (1, .int x1), (2, .ref a2), (3, .int x3), (4, .int x4), (5, .int x5)]) hx hb dX11_tree_100 hl (by decide) rfl (fun ls hl => ?_)
        refine lv_aload_n hx hb dX11_tree_102 rfl (lv_at hl 2 rfl) ?_
        refine va_get (D := (dC, dI)) (ci := 11) (v := .ref o_alone) (C := RX11) (T := TX11) (N := 38) hx hb hts i_X11 hown hK hP 0 rfl rfl 27 (by decide) (hts _ k_864) (fun _ h9 => h9) rfl dX11_tree_103 ?_
        refine lv_iload hx hb dX11_tree_106 (lv_at hl 0 rfl) ?_
        refine lv_iconst (v := (0 : Int32)) hx hb dX11_tree_108 (by decide) ?_
        obtain ⟨g16, h⟩ := fb_g h
        refine va_zast hx hb hK hP hD hS 2 1 rfl rfl g16 dX11_tree_109 (fun H locs hP hD hS => ?_)
        replace hP : va_P (dC, dI) fb_cl [(o, .inr (11, [.int o_textRoom, .int o_byteRoom, .int o_chain, .ref o_text, .int o_textSize, .ref o_packed, .int o_packedSize, .int o_matches, .ref o_loaded, .int o_loadedSize, .ref o_out, .int o_outSize, .int o_bits, .int o_tokens, .ref o_lengths, .ref o_distances, .ref o_heads, .ref o_earlier, .ref o_often, .ref o_symbolLengths, .ref o_distanceLengths, .ref o_lengthLengths, .ref o_symbolCodes, .ref o_distanceCodes, .ref o_lengthCodes, .ref o_counts, .ref o_parents, .ref o_alone, .ref o_row, .int o_told, .ref o_toldSymbols, .ref o_toldNumbers, .int o_place, .int o_fail, .int o_found, .int o_symbolCount, .int o_distanceCount, .int o_lengthCount])), (o_counts, .inl (o_counts_c, o_counts_n, .inl o_counts_v)), (o_alone, .inl (o_alone_c, o_alone_n, .inl (upd (upd o_alone_v (u13).toNatClampNeg (vp_nar .boolean (0 : Int32))) (u15).toNatClampNeg (vp_nar .boolean (0 : Int32))))), (o_parents, .inl (o_parents_c, o_parents_n, .inl o_parents_v)), (a2, .inl (a2_c, a2_n, .inl a2_v))] H := hP
        replace hD : va_D A [(o, .inr (11, [.int o_textRoom, .int o_byteRoom, .int o_chain, .ref o_text, .int o_textSize, .ref o_packed, .int o_packedSize, .int o_matches, .ref o_loaded, .int o_loadedSize, .ref o_out, .int o_outSize, .int o_bits, .int o_tokens, .ref o_lengths, .ref o_distances, .ref o_heads, .ref o_earlier, .ref o_often, .ref o_symbolLengths, .ref o_distanceLengths, .ref o_lengthLengths, .ref o_symbolCodes, .ref o_distanceCodes, .ref o_lengthCodes, .ref o_counts, .ref o_parents, .ref o_alone, .ref o_row, .int o_told, .ref o_toldSymbols, .ref o_toldNumbers, .int o_place, .int o_fail, .int o_found, .int o_symbolCount, .int o_distanceCount, .int o_lengthCount])), (o_counts, .inl (o_counts_c, o_counts_n, .inl o_counts_v)), (o_alone, .inl (o_alone_c, o_alone_n, .inl (upd (upd o_alone_v (u13).toNatClampNeg (vp_nar .boolean (0 : Int32))) (u15).toNatClampNeg (vp_nar .boolean (0 : Int32))))), (o_parents, .inl (o_parents_c, o_parents_n, .inl o_parents_v)), (a2, .inl (a2_c, a2_n, .inl a2_v))] := hD
        refine lv_aload_n hx hb dX11_tree_110 rfl (lv_at hl 2 rfl) ?_
        refine va_get (D := (dC, dI)) (ci := 11) (v := .ref o_parents) (C := RX11) (T := TX11) (N := 38) hx hb hts i_X11 hown hK hP 0 rfl rfl 26 (by decide) (hts _ k_863) (fun _ h9 => h9) rfl dX11_tree_111 ?_
        refine lv_iload hx hb dX11_tree_114 (lv_at hl 1 rfl) ?_
        refine lv_iload_n hx hb dX11_tree_116 rfl (lv_at hl 5 rfl) ?_
        obtain ⟨g17, h⟩ := fb_g h
        refine va_iast hx hb hK hP hD hS 3 2 rfl rfl g17 dX11_tree_117 (fun H locs hP hD hS => ?_)
        replace hP : va_P (dC, dI) fb_cl [(o, .inr (11, [.int o_textRoom, .int o_byteRoom, .int o_chain, .ref o_text, .int o_textSize, .ref o_packed, .int o_packedSize, .int o_matches, .ref o_loaded, .int o_loadedSize, .ref o_out, .int o_outSize, .int o_bits, .int o_tokens, .ref o_lengths, .ref o_distances, .ref o_heads, .ref o_earlier, .ref o_often, .ref o_symbolLengths, .ref o_distanceLengths, .ref o_lengthLengths, .ref o_symbolCodes, .ref o_distanceCodes, .ref o_lengthCodes, .ref o_counts, .ref o_parents, .ref o_alone, .ref o_row, .int o_told, .ref o_toldSymbols, .ref o_toldNumbers, .int o_place, .int o_fail, .int o_found, .int o_symbolCount, .int o_distanceCount, .int o_lengthCount])), (o_counts, .inl (o_counts_c, o_counts_n, .inl o_counts_v)), (o_alone, .inl (o_alone_c, o_alone_n, .inl (upd (upd o_alone_v (u13).toNatClampNeg (vp_nar .boolean (0 : Int32))) (u15).toNatClampNeg (vp_nar .boolean (0 : Int32))))), (o_parents, .inl (o_parents_c, o_parents_n, .inl (upd o_parents_v (u13).toNatClampNeg x3))), (a2, .inl (a2_c, a2_n, .inl a2_v))] H := hP
        replace hD : va_D A [(o, .inr (11, [.int o_textRoom, .int o_byteRoom, .int o_chain, .ref o_text, .int o_textSize, .ref o_packed, .int o_packedSize, .int o_matches, .ref o_loaded, .int o_loadedSize, .ref o_out, .int o_outSize, .int o_bits, .int o_tokens, .ref o_lengths, .ref o_distances, .ref o_heads, .ref o_earlier, .ref o_often, .ref o_symbolLengths, .ref o_distanceLengths, .ref o_lengthLengths, .ref o_symbolCodes, .ref o_distanceCodes, .ref o_lengthCodes, .ref o_counts, .ref o_parents, .ref o_alone, .ref o_row, .int o_told, .ref o_toldSymbols, .ref o_toldNumbers, .int o_place, .int o_fail, .int o_found, .int o_symbolCount, .int o_distanceCount, .int o_lengthCount])), (o_counts, .inl (o_counts_c, o_counts_n, .inl o_counts_v)), (o_alone, .inl (o_alone_c, o_alone_n, .inl (upd (upd o_alone_v (u13).toNatClampNeg (vp_nar .boolean (0 : Int32))) (u15).toNatClampNeg (vp_nar .boolean (0 : Int32))))), (o_parents, .inl (o_parents_c, o_parents_n, .inl (upd o_parents_v (u13).toNatClampNeg x3))), (a2, .inl (a2_c, a2_n, .inl a2_v))] := hD
        refine lv_aload_n hx hb dX11_tree_118 rfl (lv_at hl 2 rfl) ?_
        refine va_get (D := (dC, dI)) (ci := 11) (v := .ref o_parents) (C := RX11) (T := TX11) (N := 38) hx hb hts i_X11 hown hK hP 0 rfl rfl 26 (by decide) (hts _ k_863) (fun _ h9 => h9) rfl dX11_tree_119 ?_
        refine lv_iload hx hb dX11_tree_122 (lv_at hl 0 rfl) ?_
        refine lv_iload_n hx hb dX11_tree_124 rfl (lv_at hl 5 rfl) ?_
        obtain ⟨g18, h⟩ := fb_g h
        refine va_iast hx hb hK hP hD hS 3 2 rfl rfl g18 dX11_tree_125 (fun H locs hP hD hS => ?_)
        replace hP : va_P (dC, dI) fb_cl [(o, .inr (11, [.int o_textRoom, .int o_byteRoom, .int o_chain, .ref o_text, .int o_textSize, .ref o_packed, .int o_packedSize, .int o_matches, .ref o_loaded, .int o_loadedSize, .ref o_out, .int o_outSize, .int o_bits, .int o_tokens, .ref o_lengths, .ref o_distances, .ref o_heads, .ref o_earlier, .ref o_often, .ref o_symbolLengths, .ref o_distanceLengths, .ref o_lengthLengths, .ref o_symbolCodes, .ref o_distanceCodes, .ref o_lengthCodes, .ref o_counts, .ref o_parents, .ref o_alone, .ref o_row, .int o_told, .ref o_toldSymbols, .ref o_toldNumbers, .int o_place, .int o_fail, .int o_found, .int o_symbolCount, .int o_distanceCount, .int o_lengthCount])), (o_counts, .inl (o_counts_c, o_counts_n, .inl o_counts_v)), (o_alone, .inl (o_alone_c, o_alone_n, .inl (upd (upd o_alone_v (u13).toNatClampNeg (vp_nar .boolean (0 : Int32))) (u15).toNatClampNeg (vp_nar .boolean (0 : Int32))))), (o_parents, .inl (o_parents_c, o_parents_n, .inl (upd (upd o_parents_v (u13).toNatClampNeg x3) (u15).toNatClampNeg x3))), (a2, .inl (a2_c, a2_n, .inl a2_v))] H := hP
        replace hD : va_D A [(o, .inr (11, [.int o_textRoom, .int o_byteRoom, .int o_chain, .ref o_text, .int o_textSize, .ref o_packed, .int o_packedSize, .int o_matches, .ref o_loaded, .int o_loadedSize, .ref o_out, .int o_outSize, .int o_bits, .int o_tokens, .ref o_lengths, .ref o_distances, .ref o_heads, .ref o_earlier, .ref o_often, .ref o_symbolLengths, .ref o_distanceLengths, .ref o_lengthLengths, .ref o_symbolCodes, .ref o_distanceCodes, .ref o_lengthCodes, .ref o_counts, .ref o_parents, .ref o_alone, .ref o_row, .int o_told, .ref o_toldSymbols, .ref o_toldNumbers, .int o_place, .int o_fail, .int o_found, .int o_symbolCount, .int o_distanceCount, .int o_lengthCount])), (o_counts, .inl (o_counts_c, o_counts_n, .inl o_counts_v)), (o_alone, .inl (o_alone_c, o_alone_n, .inl (upd (upd o_alone_v (u13).toNatClampNeg (vp_nar .boolean (0 : Int32))) (u15).toNatClampNeg (vp_nar .boolean (0 : Int32))))), (o_parents, .inl (o_parents_c, o_parents_n, .inl (upd (upd o_parents_v (u13).toNatClampNeg x3) (u15).toNatClampNeg x3))), (a2, .inl (a2_c, a2_n, .inl a2_v))] := hD
        refine lv_aload_n hx hb dX11_tree_126 rfl (lv_at hl 2 rfl) ?_
        refine va_get (D := (dC, dI)) (ci := 11) (v := .ref o_parents) (C := RX11) (T := TX11) (N := 38) hx hb hts i_X11 hown hK hP 0 rfl rfl 26 (by decide) (hts _ k_863) (fun _ h9 => h9) rfl dX11_tree_127 ?_
        refine lv_iload_n hx hb dX11_tree_130 rfl (lv_at hl 5 rfl) ?_
        refine lv_iconst (v := (-1 : Int32)) hx hb dX11_tree_131 (by decide) ?_
        obtain ⟨g19, h⟩ := fb_g h
        refine va_iast hx hb hK hP hD hS 3 2 rfl rfl g19 dX11_tree_132 (fun H locs hP hD hS => ?_)
        replace hP : va_P (dC, dI) fb_cl [(o, .inr (11, [.int o_textRoom, .int o_byteRoom, .int o_chain, .ref o_text, .int o_textSize, .ref o_packed, .int o_packedSize, .int o_matches, .ref o_loaded, .int o_loadedSize, .ref o_out, .int o_outSize, .int o_bits, .int o_tokens, .ref o_lengths, .ref o_distances, .ref o_heads, .ref o_earlier, .ref o_often, .ref o_symbolLengths, .ref o_distanceLengths, .ref o_lengthLengths, .ref o_symbolCodes, .ref o_distanceCodes, .ref o_lengthCodes, .ref o_counts, .ref o_parents, .ref o_alone, .ref o_row, .int o_told, .ref o_toldSymbols, .ref o_toldNumbers, .int o_place, .int o_fail, .int o_found, .int o_symbolCount, .int o_distanceCount, .int o_lengthCount])), (o_counts, .inl (o_counts_c, o_counts_n, .inl o_counts_v)), (o_alone, .inl (o_alone_c, o_alone_n, .inl (upd (upd o_alone_v (u13).toNatClampNeg (vp_nar .boolean (0 : Int32))) (u15).toNatClampNeg (vp_nar .boolean (0 : Int32))))), (o_parents, .inl (o_parents_c, o_parents_n, .inl (upd (upd (upd o_parents_v (u13).toNatClampNeg x3) (u15).toNatClampNeg x3) (x3).toNatClampNeg (-1 : Int32)))), (a2, .inl (a2_c, a2_n, .inl a2_v))] H := hP
        replace hD : va_D A [(o, .inr (11, [.int o_textRoom, .int o_byteRoom, .int o_chain, .ref o_text, .int o_textSize, .ref o_packed, .int o_packedSize, .int o_matches, .ref o_loaded, .int o_loadedSize, .ref o_out, .int o_outSize, .int o_bits, .int o_tokens, .ref o_lengths, .ref o_distances, .ref o_heads, .ref o_earlier, .ref o_often, .ref o_symbolLengths, .ref o_distanceLengths, .ref o_lengthLengths, .ref o_symbolCodes, .ref o_distanceCodes, .ref o_lengthCodes, .ref o_counts, .ref o_parents, .ref o_alone, .ref o_row, .int o_told, .ref o_toldSymbols, .ref o_toldNumbers, .int o_place, .int o_fail, .int o_found, .int o_symbolCount, .int o_distanceCount, .int o_lengthCount])), (o_counts, .inl (o_counts_c, o_counts_n, .inl o_counts_v)), (o_alone, .inl (o_alone_c, o_alone_n, .inl (upd (upd o_alone_v (u13).toNatClampNeg (vp_nar .boolean (0 : Int32))) (u15).toNatClampNeg (vp_nar .boolean (0 : Int32))))), (o_parents, .inl (o_parents_c, o_parents_n, .inl (upd (upd (upd o_parents_v (u13).toNatClampNeg x3) (u15).toNatClampNeg x3) (x3).toNatClampNeg (-1 : Int32)))), (a2, .inl (a2_c, a2_n, .inl a2_v))] := hD
        refine lv_aload_n hx hb dX11_tree_133 rfl (lv_at hl 2 rfl) ?_
        refine va_get (D := (dC, dI)) (ci := 11) (v := .ref o_counts) (C := RX11) (T := TX11) (N := 38) hx hb hts i_X11 hown hK hP 0 rfl rfl 25 (by decide) (hts _ k_862) (fun _ h9 => h9) rfl dX11_tree_134 ?_
        refine lv_iload_n hx hb dX11_tree_137 rfl (lv_at hl 5 rfl) ?_
        refine lv_aload_n hx hb dX11_tree_138 rfl (lv_at hl 2 rfl) ?_
        refine va_get (D := (dC, dI)) (ci := 11) (v := .ref o_counts) (C := RX11) (T := TX11) (N := 38) hx hb hts i_X11 hown hK hP 0 rfl rfl 25 (by decide) (hts _ k_862) (fun _ h9 => h9) rfl dX11_tree_139 ?_
        refine lv_iload hx hb dX11_tree_142 (lv_at hl 1 rfl) ?_
        obtain ⟨g20, h⟩ := fb_g h
        refine va_iald hx hb hK hP 1 0 rfl rfl g20 dX11_tree_144 ?_
        refine lv_aload_n hx hb dX11_tree_145 rfl (lv_at hl 2 rfl) ?_
        refine va_get (D := (dC, dI)) (ci := 11) (v := .ref o_counts) (C := RX11) (T := TX11) (N := 38) hx hb hts i_X11 hown hK hP 0 rfl rfl 25 (by decide) (hts _ k_862) (fun _ h9 => h9) rfl dX11_tree_146 ?_
        refine lv_iload hx hb dX11_tree_149 (lv_at hl 0 rfl) ?_
        obtain ⟨g21, h⟩ := fb_g h
        refine va_iald hx hb hK hP 1 0 rfl rfl g21 dX11_tree_151 ?_
        refine lv_iadd hx hb dX11_tree_152 ?_
        obtain ⟨g22, h⟩ := fb_g h
        refine va_iast hx hb hK hP hD hS 1 0 rfl rfl g22 dX11_tree_153 (fun H locs hP hD hS => ?_)
        replace hP : va_P (dC, dI) fb_cl [(o, .inr (11, [.int o_textRoom, .int o_byteRoom, .int o_chain, .ref o_text, .int o_textSize, .ref o_packed, .int o_packedSize, .int o_matches, .ref o_loaded, .int o_loadedSize, .ref o_out, .int o_outSize, .int o_bits, .int o_tokens, .ref o_lengths, .ref o_distances, .ref o_heads, .ref o_earlier, .ref o_often, .ref o_symbolLengths, .ref o_distanceLengths, .ref o_lengthLengths, .ref o_symbolCodes, .ref o_distanceCodes, .ref o_lengthCodes, .ref o_counts, .ref o_parents, .ref o_alone, .ref o_row, .int o_told, .ref o_toldSymbols, .ref o_toldNumbers, .int o_place, .int o_fail, .int o_found, .int o_symbolCount, .int o_distanceCount, .int o_lengthCount])), (o_counts, .inl (o_counts_c, o_counts_n, .inl (upd o_counts_v (x3).toNatClampNeg ((o_counts_v (u13).toNatClampNeg) + (o_counts_v (u15).toNatClampNeg))))), (o_alone, .inl (o_alone_c, o_alone_n, .inl (upd (upd o_alone_v (u13).toNatClampNeg (vp_nar .boolean (0 : Int32))) (u15).toNatClampNeg (vp_nar .boolean (0 : Int32))))), (o_parents, .inl (o_parents_c, o_parents_n, .inl (upd (upd (upd o_parents_v (u13).toNatClampNeg x3) (u15).toNatClampNeg x3) (x3).toNatClampNeg (-1 : Int32)))), (a2, .inl (a2_c, a2_n, .inl a2_v))] H := hP
        replace hD : va_D A [(o, .inr (11, [.int o_textRoom, .int o_byteRoom, .int o_chain, .ref o_text, .int o_textSize, .ref o_packed, .int o_packedSize, .int o_matches, .ref o_loaded, .int o_loadedSize, .ref o_out, .int o_outSize, .int o_bits, .int o_tokens, .ref o_lengths, .ref o_distances, .ref o_heads, .ref o_earlier, .ref o_often, .ref o_symbolLengths, .ref o_distanceLengths, .ref o_lengthLengths, .ref o_symbolCodes, .ref o_distanceCodes, .ref o_lengthCodes, .ref o_counts, .ref o_parents, .ref o_alone, .ref o_row, .int o_told, .ref o_toldSymbols, .ref o_toldNumbers, .int o_place, .int o_fail, .int o_found, .int o_symbolCount, .int o_distanceCount, .int o_lengthCount])), (o_counts, .inl (o_counts_c, o_counts_n, .inl (upd o_counts_v (x3).toNatClampNeg ((o_counts_v (u13).toNatClampNeg) + (o_counts_v (u15).toNatClampNeg))))), (o_alone, .inl (o_alone_c, o_alone_n, .inl (upd (upd o_alone_v (u13).toNatClampNeg (vp_nar .boolean (0 : Int32))) (u15).toNatClampNeg (vp_nar .boolean (0 : Int32))))), (o_parents, .inl (o_parents_c, o_parents_n, .inl (upd (upd (upd o_parents_v (u13).toNatClampNeg x3) (u15).toNatClampNeg x3) (x3).toNatClampNeg (-1 : Int32)))), (a2, .inl (a2_c, a2_n, .inl a2_v))] := hD
        refine lv_aload_n hx hb dX11_tree_154 rfl (lv_at hl 2 rfl) ?_
        refine va_get (D := (dC, dI)) (ci := 11) (v := .ref o_alone) (C := RX11) (T := TX11) (N := 38) hx hb hts i_X11 hown hK hP 0 rfl rfl 27 (by decide) (hts _ k_864) (fun _ h9 => h9) rfl dX11_tree_155 ?_
        refine lv_iload_n hx hb dX11_tree_158 rfl (lv_at hl 5 rfl) ?_
        refine lv_iconst (v := (1 : Int32)) hx hb dX11_tree_159 (by decide) ?_
        obtain ⟨g23, h⟩ := fb_g h
        refine va_zast hx hb hK hP hD hS 2 1 rfl rfl g23 dX11_tree_160 (fun H locs hP hD hS => ?_)
        replace hP : va_P (dC, dI) fb_cl [(o, .inr (11, [.int o_textRoom, .int o_byteRoom, .int o_chain, .ref o_text, .int o_textSize, .ref o_packed, .int o_packedSize, .int o_matches, .ref o_loaded, .int o_loadedSize, .ref o_out, .int o_outSize, .int o_bits, .int o_tokens, .ref o_lengths, .ref o_distances, .ref o_heads, .ref o_earlier, .ref o_often, .ref o_symbolLengths, .ref o_distanceLengths, .ref o_lengthLengths, .ref o_symbolCodes, .ref o_distanceCodes, .ref o_lengthCodes, .ref o_counts, .ref o_parents, .ref o_alone, .ref o_row, .int o_told, .ref o_toldSymbols, .ref o_toldNumbers, .int o_place, .int o_fail, .int o_found, .int o_symbolCount, .int o_distanceCount, .int o_lengthCount])), (o_counts, .inl (o_counts_c, o_counts_n, .inl (upd o_counts_v (x3).toNatClampNeg ((o_counts_v (u13).toNatClampNeg) + (o_counts_v (u15).toNatClampNeg))))), (o_alone, .inl (o_alone_c, o_alone_n, .inl (upd (upd (upd o_alone_v (u13).toNatClampNeg (vp_nar .boolean (0 : Int32))) (u15).toNatClampNeg (vp_nar .boolean (0 : Int32))) (x3).toNatClampNeg (vp_nar .boolean (1 : Int32))))), (o_parents, .inl (o_parents_c, o_parents_n, .inl (upd (upd (upd o_parents_v (u13).toNatClampNeg x3) (u15).toNatClampNeg x3) (x3).toNatClampNeg (-1 : Int32)))), (a2, .inl (a2_c, a2_n, .inl a2_v))] H := hP
        replace hD : va_D A [(o, .inr (11, [.int o_textRoom, .int o_byteRoom, .int o_chain, .ref o_text, .int o_textSize, .ref o_packed, .int o_packedSize, .int o_matches, .ref o_loaded, .int o_loadedSize, .ref o_out, .int o_outSize, .int o_bits, .int o_tokens, .ref o_lengths, .ref o_distances, .ref o_heads, .ref o_earlier, .ref o_often, .ref o_symbolLengths, .ref o_distanceLengths, .ref o_lengthLengths, .ref o_symbolCodes, .ref o_distanceCodes, .ref o_lengthCodes, .ref o_counts, .ref o_parents, .ref o_alone, .ref o_row, .int o_told, .ref o_toldSymbols, .ref o_toldNumbers, .int o_place, .int o_fail, .int o_found, .int o_symbolCount, .int o_distanceCount, .int o_lengthCount])), (o_counts, .inl (o_counts_c, o_counts_n, .inl (upd o_counts_v (x3).toNatClampNeg ((o_counts_v (u13).toNatClampNeg) + (o_counts_v (u15).toNatClampNeg))))), (o_alone, .inl (o_alone_c, o_alone_n, .inl (upd (upd (upd o_alone_v (u13).toNatClampNeg (vp_nar .boolean (0 : Int32))) (u15).toNatClampNeg (vp_nar .boolean (0 : Int32))) (x3).toNatClampNeg (vp_nar .boolean (1 : Int32))))), (o_parents, .inl (o_parents_c, o_parents_n, .inl (upd (upd (upd o_parents_v (u13).toNatClampNeg x3) (u15).toNatClampNeg x3) (x3).toNatClampNeg (-1 : Int32)))), (a2, .inl (a2_c, a2_n, .inl a2_v))] := hD
        refine lv_iinc (v := (x3 + (1 : Int32))) (lv' := [(3, .int (x3 + (1 : Int32))), (7, .int u15), (6, .int u13), (0, .ref o), (1, .int x1), (2, .ref a2), (4, .int x4), (5, .int x5)]) hx hb dX11_tree_161 hl (k := 5) rfl rfl (by decide) rfl (fun ls hl => ?_)
        refine lv_iinc (v := (x5 + (-1 : Int32))) (lv' := [(5, .int (x5 + (-1 : Int32))), (3, .int (x3 + (1 : Int32))), (7, .int u15), (6, .int u13), (0, .ref o), (1, .int x1), (2, .ref a2), (4, .int x4)]) hx hb dX11_tree_164 hl (k := 7) rfl rfl (by decide) rfl (fun ls hl => ?_)
        refine lv_goto (tgt := 74) hx hb dX11_tree_167 (by decide) ?_
        exact ih (upd o_counts_v (x3).toNatClampNeg ((o_counts_v (u13).toNatClampNeg) + (o_counts_v (u15).toNatClampNeg))) (upd (upd (upd o_alone_v (u13).toNatClampNeg (vp_nar .boolean (0 : Int32))) (u15).toNatClampNeg (vp_nar .boolean (0 : Int32))) (x3).toNatClampNeg (vp_nar .boolean (1 : Int32))) (upd (upd (upd o_parents_v (u13).toNatClampNeg x3) (u15).toNatClampNeg x3) (x3).toNatClampNeg (-1 : Int32)) a2_v (x3 + (1 : Int32)) x4 (x5 + (-1 : Int32)) _ _ _ hP hD hS (lv_sub hl [4, 5, 6, 1, 7, 0] rfl) h
  have wB35 : ∀ (K8 : (Nat → Int32) → (Nat → Int32) → (Nat → Int32) → (Nat → Int32) → Int32 → Int32 → Int32 → Option (Int32 × (Nat → Int32) × (Nat → Int32) × (Nat → Int32) × (Nat → Int32))), (∀ (o_counts_v : Nat → Int32) (o_alone_v : Nat → Int32) (o_parents_v : Nat → Int32) (a2_v : Nat → Int32) (x3 : Int32) (x4 : Int32) (x5 : Int32) (H : Heap) (locs : List Loc) (ls : Array Slot), va_P (dC, dI) fb_cl [(o, .inr (11, [.int o_textRoom, .int o_byteRoom, .int o_chain, .ref o_text, .int o_textSize, .ref o_packed, .int o_packedSize, .int o_matches, .ref o_loaded, .int o_loadedSize, .ref o_out, .int o_outSize, .int o_bits, .int o_tokens, .ref o_lengths, .ref o_distances, .ref o_heads, .ref o_earlier, .ref o_often, .ref o_symbolLengths, .ref o_distanceLengths, .ref o_lengthLengths, .ref o_symbolCodes, .ref o_distanceCodes, .ref o_lengthCodes, .ref o_counts, .ref o_parents, .ref o_alone, .ref o_row, .int o_told, .ref o_toldSymbols, .ref o_toldNumbers, .int o_place, .int o_fail, .int o_found, .int o_symbolCount, .int o_distanceCount, .int o_lengthCount])), (o_counts, .inl (o_counts_c, o_counts_n, .inl o_counts_v)), (o_alone, .inl (o_alone_c, o_alone_n, .inl o_alone_v)), (o_parents, .inl (o_parents_c, o_parents_n, .inl o_parents_v)), (a2, .inl (a2_c, a2_n, .inl a2_v))] H → va_D A [(o, .inr (11, [.int o_textRoom, .int o_byteRoom, .int o_chain, .ref o_text, .int o_textSize, .ref o_packed, .int o_packedSize, .int o_matches, .ref o_loaded, .int o_loadedSize, .ref o_out, .int o_outSize, .int o_bits, .int o_tokens, .ref o_lengths, .ref o_distances, .ref o_heads, .ref o_earlier, .ref o_often, .ref o_symbolLengths, .ref o_distanceLengths, .ref o_lengthLengths, .ref o_symbolCodes, .ref o_distanceCodes, .ref o_lengthCodes, .ref o_counts, .ref o_parents, .ref o_alone, .ref o_row, .int o_told, .ref o_toldSymbols, .ref o_toldNumbers, .int o_place, .int o_fail, .int o_found, .int o_symbolCount, .int o_distanceCount, .int o_lengthCount])), (o_counts, .inl (o_counts_c, o_counts_n, .inl o_counts_v)), (o_alone, .inl (o_alone_c, o_alone_n, .inl o_alone_v)), (o_parents, .inl (o_parents_c, o_parents_n, .inl o_parents_v)), (a2, .inl (a2_c, a2_n, .inl a2_v))] → va_S A s.heap H locs → lv_has ls 9 [(0, .ref o), (1, .int x1), (2, .ref a2), (3, .int x3), (4, .int x4), (5, .int x5)] → K8 o_counts_v o_alone_v o_parents_v a2_v x3 x4 x5 = some u → W p l e ({ frames := 1, cells := 0, slots := 0, locals := 23 }) s m args below meth c H locs 0 0 Q (F0 m 8 ls [])) → ∀ (o_counts_v : Nat → Int32) (o_alone_v : Nat → Int32) (o_parents_v : Nat → Int32) (a2_v : Nat → Int32) (x3 : Int32) (x4 : Int32) (x5 : Int32) (t0 : Int32) (t1 : Int32) (H : Heap) (locs : List Loc) (ls : Array Slot), va_P (dC, dI) fb_cl [(o, .inr (11, [.int o_textRoom, .int o_byteRoom, .int o_chain, .ref o_text, .int o_textSize, .ref o_packed, .int o_packedSize, .int o_matches, .ref o_loaded, .int o_loadedSize, .ref o_out, .int o_outSize, .int o_bits, .int o_tokens, .ref o_lengths, .ref o_distances, .ref o_heads, .ref o_earlier, .ref o_often, .ref o_symbolLengths, .ref o_distanceLengths, .ref o_lengthLengths, .ref o_symbolCodes, .ref o_distanceCodes, .ref o_lengthCodes, .ref o_counts, .ref o_parents, .ref o_alone, .ref o_row, .int o_told, .ref o_toldSymbols, .ref o_toldNumbers, .int o_place, .int o_fail, .int o_found, .int o_symbolCount, .int o_distanceCount, .int o_lengthCount])), (o_counts, .inl (o_counts_c, o_counts_n, .inl o_counts_v)), (o_alone, .inl (o_alone_c, o_alone_n, .inl o_alone_v)), (o_parents, .inl (o_parents_c, o_parents_n, .inl o_parents_v)), (a2, .inl (a2_c, a2_n, .inl a2_v))] H → va_D A [(o, .inr (11, [.int o_textRoom, .int o_byteRoom, .int o_chain, .ref o_text, .int o_textSize, .ref o_packed, .int o_packedSize, .int o_matches, .ref o_loaded, .int o_loadedSize, .ref o_out, .int o_outSize, .int o_bits, .int o_tokens, .ref o_lengths, .ref o_distances, .ref o_heads, .ref o_earlier, .ref o_often, .ref o_symbolLengths, .ref o_distanceLengths, .ref o_lengthLengths, .ref o_symbolCodes, .ref o_distanceCodes, .ref o_lengthCodes, .ref o_counts, .ref o_parents, .ref o_alone, .ref o_row, .int o_told, .ref o_toldSymbols, .ref o_toldNumbers, .int o_place, .int o_fail, .int o_found, .int o_symbolCount, .int o_distanceCount, .int o_lengthCount])), (o_counts, .inl (o_counts_c, o_counts_n, .inl o_counts_v)), (o_alone, .inl (o_alone_c, o_alone_n, .inl o_alone_v)), (o_parents, .inl (o_parents_c, o_parents_n, .inl o_parents_v)), (a2, .inl (a2_c, a2_n, .inl a2_v))] → va_S A s.heap H locs → lv_has ls 9 [(0, .ref o), (1, .int x1), (2, .ref a2), (3, .int x3), (4, .int x4), (5, .int x5)] → pX11_tree_b35 o_alone_n o_parents_n K8 o_counts_v o_alone_v o_parents_v a2_v x3 x4 x5 t0 t1 = some u → W p l e ({ frames := 1, cells := 0, slots := 0, locals := 23 }) s m args below meth c H locs 0 0 Q (F0 m 35 ls [.int t0, .int t1, .ref o_alone]) := by
    intro K8 hK8 o_counts_v o_alone_v o_parents_v a2_v x3 x4 x5 t0 t1 H locs ls hP hD hS hl h
    unfold pX11_tree_b35 at h
    obtain ⟨g24, h⟩ := fb_g h
    refine va_zast hx hb hK hP hD hS 2 1 rfl rfl g24 dX11_tree_35 (fun H locs hP hD hS => ?_)
    replace hP : va_P (dC, dI) fb_cl [(o, .inr (11, [.int o_textRoom, .int o_byteRoom, .int o_chain, .ref o_text, .int o_textSize, .ref o_packed, .int o_packedSize, .int o_matches, .ref o_loaded, .int o_loadedSize, .ref o_out, .int o_outSize, .int o_bits, .int o_tokens, .ref o_lengths, .ref o_distances, .ref o_heads, .ref o_earlier, .ref o_often, .ref o_symbolLengths, .ref o_distanceLengths, .ref o_lengthLengths, .ref o_symbolCodes, .ref o_distanceCodes, .ref o_lengthCodes, .ref o_counts, .ref o_parents, .ref o_alone, .ref o_row, .int o_told, .ref o_toldSymbols, .ref o_toldNumbers, .int o_place, .int o_fail, .int o_found, .int o_symbolCount, .int o_distanceCount, .int o_lengthCount])), (o_counts, .inl (o_counts_c, o_counts_n, .inl o_counts_v)), (o_alone, .inl (o_alone_c, o_alone_n, .inl (upd o_alone_v (t1).toNatClampNeg (vp_nar .boolean t0)))), (o_parents, .inl (o_parents_c, o_parents_n, .inl o_parents_v)), (a2, .inl (a2_c, a2_n, .inl a2_v))] H := hP
    replace hD : va_D A [(o, .inr (11, [.int o_textRoom, .int o_byteRoom, .int o_chain, .ref o_text, .int o_textSize, .ref o_packed, .int o_packedSize, .int o_matches, .ref o_loaded, .int o_loadedSize, .ref o_out, .int o_outSize, .int o_bits, .int o_tokens, .ref o_lengths, .ref o_distances, .ref o_heads, .ref o_earlier, .ref o_often, .ref o_symbolLengths, .ref o_distanceLengths, .ref o_lengthLengths, .ref o_symbolCodes, .ref o_distanceCodes, .ref o_lengthCodes, .ref o_counts, .ref o_parents, .ref o_alone, .ref o_row, .int o_told, .ref o_toldSymbols, .ref o_toldNumbers, .int o_place, .int o_fail, .int o_found, .int o_symbolCount, .int o_distanceCount, .int o_lengthCount])), (o_counts, .inl (o_counts_c, o_counts_n, .inl o_counts_v)), (o_alone, .inl (o_alone_c, o_alone_n, .inl (upd o_alone_v (t1).toNatClampNeg (vp_nar .boolean t0)))), (o_parents, .inl (o_parents_c, o_parents_n, .inl o_parents_v)), (a2, .inl (a2_c, a2_n, .inl a2_v))] := hD
    refine lv_aload_n hx hb dX11_tree_36 rfl (lv_at hl 0 rfl) ?_
    refine va_get (D := (dC, dI)) (ci := 11) (v := .ref o_parents) (C := RX11) (T := TX11) (N := 38) hx hb hts i_X11 hown hK hP 0 rfl rfl 26 (by decide) (hts _ k_863) (fun _ h9 => h9) rfl dX11_tree_37 ?_
    refine lv_iload hx hb dX11_tree_40 (lv_at hl 5 rfl) ?_
    refine lv_iconst (v := (-1 : Int32)) hx hb dX11_tree_42 (by decide) ?_
    obtain ⟨g25, h⟩ := fb_g h
    refine va_iast hx hb hK hP hD hS 3 2 rfl rfl g25 dX11_tree_43 (fun H locs hP hD hS => ?_)
    replace hP : va_P (dC, dI) fb_cl [(o, .inr (11, [.int o_textRoom, .int o_byteRoom, .int o_chain, .ref o_text, .int o_textSize, .ref o_packed, .int o_packedSize, .int o_matches, .ref o_loaded, .int o_loadedSize, .ref o_out, .int o_outSize, .int o_bits, .int o_tokens, .ref o_lengths, .ref o_distances, .ref o_heads, .ref o_earlier, .ref o_often, .ref o_symbolLengths, .ref o_distanceLengths, .ref o_lengthLengths, .ref o_symbolCodes, .ref o_distanceCodes, .ref o_lengthCodes, .ref o_counts, .ref o_parents, .ref o_alone, .ref o_row, .int o_told, .ref o_toldSymbols, .ref o_toldNumbers, .int o_place, .int o_fail, .int o_found, .int o_symbolCount, .int o_distanceCount, .int o_lengthCount])), (o_counts, .inl (o_counts_c, o_counts_n, .inl o_counts_v)), (o_alone, .inl (o_alone_c, o_alone_n, .inl (upd o_alone_v (t1).toNatClampNeg (vp_nar .boolean t0)))), (o_parents, .inl (o_parents_c, o_parents_n, .inl (upd o_parents_v (x5).toNatClampNeg (-1 : Int32)))), (a2, .inl (a2_c, a2_n, .inl a2_v))] H := hP
    replace hD : va_D A [(o, .inr (11, [.int o_textRoom, .int o_byteRoom, .int o_chain, .ref o_text, .int o_textSize, .ref o_packed, .int o_packedSize, .int o_matches, .ref o_loaded, .int o_loadedSize, .ref o_out, .int o_outSize, .int o_bits, .int o_tokens, .ref o_lengths, .ref o_distances, .ref o_heads, .ref o_earlier, .ref o_often, .ref o_symbolLengths, .ref o_distanceLengths, .ref o_lengthLengths, .ref o_symbolCodes, .ref o_distanceCodes, .ref o_lengthCodes, .ref o_counts, .ref o_parents, .ref o_alone, .ref o_row, .int o_told, .ref o_toldSymbols, .ref o_toldNumbers, .int o_place, .int o_fail, .int o_found, .int o_symbolCount, .int o_distanceCount, .int o_lengthCount])), (o_counts, .inl (o_counts_c, o_counts_n, .inl o_counts_v)), (o_alone, .inl (o_alone_c, o_alone_n, .inl (upd o_alone_v (t1).toNatClampNeg (vp_nar .boolean t0)))), (o_parents, .inl (o_parents_c, o_parents_n, .inl (upd o_parents_v (x5).toNatClampNeg (-1 : Int32)))), (a2, .inl (a2_c, a2_n, .inl a2_v))] := hD
    refine lv_iload hx hb dX11_tree_44 (lv_at hl 4 rfl) ?_
    refine lv_aload_n hx hb dX11_tree_46 rfl (lv_at hl 0 rfl) ?_
    refine va_get (D := (dC, dI)) (ci := 11) (v := .ref o_alone) (C := RX11) (T := TX11) (N := 38) hx hb hts i_X11 hown hK hP 0 rfl rfl 27 (by decide) (hts _ k_864) (fun _ h9 => h9) rfl dX11_tree_47 ?_
    refine lv_iload hx hb dX11_tree_50 (lv_at hl 5 rfl) ?_
    obtain ⟨g26, h⟩ := fb_g h
    refine va_zald hx hb hK hP 2 1 rfl rfl g26 dX11_tree_52 ?_
    refine lv_if_eq (tgt := 60) hx hb dX11_tree_53 (by decide) (fun c27 => ?_) (fun c27 => ?_)
    · replace h := fb_t c27 h
      refine lv_iconst (v := (0 : Int32)) hx hb dX11_tree_60 (by decide) ?_
      refine lv_iadd hx hb dX11_tree_61 ?_
      refine lv_istore (lv' := [(4, .int (x4 + (0 : Int32))), (0, .ref o), (1, .int x1), (2, .ref a2), (3, .int x3), (5, .int x5)]) hx hb dX11_tree_62 hl (by decide) rfl (fun ls hl => ?_)
      refine lv_iinc (v := (x5 + (1 : Int32))) (lv' := [(5, .int (x5 + (1 : Int32))), (4, .int (x4 + (0 : Int32))), (0, .ref o), (1, .int x1), (2, .ref a2), (3, .int x3)]) hx hb dX11_tree_64 hl (k := 5) rfl rfl (by decide) rfl (fun ls hl => ?_)
      refine lv_goto (tgt := 8) hx hb dX11_tree_67 (by decide) ?_
      exact hK8 o_counts_v (upd o_alone_v (t1).toNatClampNeg (vp_nar .boolean t0)) (upd o_parents_v (x5).toNatClampNeg (-1 : Int32)) a2_v x3 (x4 + (0 : Int32)) (x5 + (1 : Int32)) _ _ _ hP hD hS (lv_sub hl [2, 3, 4, 5, 1, 0] rfl) h
    · replace h := fb_f c27 h
      refine lv_iconst (v := (1 : Int32)) hx hb dX11_tree_56 (by decide) ?_
      refine lv_goto (tgt := 61) hx hb dX11_tree_57 (by decide) ?_
      refine lv_iadd hx hb dX11_tree_61 ?_
      refine lv_istore (lv' := [(4, .int (x4 + (1 : Int32))), (0, .ref o), (1, .int x1), (2, .ref a2), (3, .int x3), (5, .int x5)]) hx hb dX11_tree_62 hl (by decide) rfl (fun ls hl => ?_)
      refine lv_iinc (v := (x5 + (1 : Int32))) (lv' := [(5, .int (x5 + (1 : Int32))), (4, .int (x4 + (1 : Int32))), (0, .ref o), (1, .int x1), (2, .ref a2), (3, .int x3)]) hx hb dX11_tree_64 hl (k := 5) rfl rfl (by decide) rfl (fun ls hl => ?_)
      refine lv_goto (tgt := 8) hx hb dX11_tree_67 (by decide) ?_
      exact hK8 o_counts_v (upd o_alone_v (t1).toNatClampNeg (vp_nar .boolean t0)) (upd o_parents_v (x5).toNatClampNeg (-1 : Int32)) a2_v x3 (x4 + (1 : Int32)) (x5 + (1 : Int32)) _ _ _ hP hD hS (lv_sub hl [2, 3, 4, 5, 1, 0] rfl) h
  have wB8 : ∀ n : Nat, ∀ (o_counts_v : Nat → Int32) (o_alone_v : Nat → Int32) (o_parents_v : Nat → Int32) (a2_v : Nat → Int32) (x3 : Int32) (x4 : Int32) (x5 : Int32) (H : Heap) (locs : List Loc) (ls : Array Slot), va_P (dC, dI) fb_cl [(o, .inr (11, [.int o_textRoom, .int o_byteRoom, .int o_chain, .ref o_text, .int o_textSize, .ref o_packed, .int o_packedSize, .int o_matches, .ref o_loaded, .int o_loadedSize, .ref o_out, .int o_outSize, .int o_bits, .int o_tokens, .ref o_lengths, .ref o_distances, .ref o_heads, .ref o_earlier, .ref o_often, .ref o_symbolLengths, .ref o_distanceLengths, .ref o_lengthLengths, .ref o_symbolCodes, .ref o_distanceCodes, .ref o_lengthCodes, .ref o_counts, .ref o_parents, .ref o_alone, .ref o_row, .int o_told, .ref o_toldSymbols, .ref o_toldNumbers, .int o_place, .int o_fail, .int o_found, .int o_symbolCount, .int o_distanceCount, .int o_lengthCount])), (o_counts, .inl (o_counts_c, o_counts_n, .inl o_counts_v)), (o_alone, .inl (o_alone_c, o_alone_n, .inl o_alone_v)), (o_parents, .inl (o_parents_c, o_parents_n, .inl o_parents_v)), (a2, .inl (a2_c, a2_n, .inl a2_v))] H → va_D A [(o, .inr (11, [.int o_textRoom, .int o_byteRoom, .int o_chain, .ref o_text, .int o_textSize, .ref o_packed, .int o_packedSize, .int o_matches, .ref o_loaded, .int o_loadedSize, .ref o_out, .int o_outSize, .int o_bits, .int o_tokens, .ref o_lengths, .ref o_distances, .ref o_heads, .ref o_earlier, .ref o_often, .ref o_symbolLengths, .ref o_distanceLengths, .ref o_lengthLengths, .ref o_symbolCodes, .ref o_distanceCodes, .ref o_lengthCodes, .ref o_counts, .ref o_parents, .ref o_alone, .ref o_row, .int o_told, .ref o_toldSymbols, .ref o_toldNumbers, .int o_place, .int o_fail, .int o_found, .int o_symbolCount, .int o_distanceCount, .int o_lengthCount])), (o_counts, .inl (o_counts_c, o_counts_n, .inl o_counts_v)), (o_alone, .inl (o_alone_c, o_alone_n, .inl o_alone_v)), (o_parents, .inl (o_parents_c, o_parents_n, .inl o_parents_v)), (a2, .inl (a2_c, a2_n, .inl a2_v))] → va_S A s.heap H locs → lv_has ls 9 [(0, .ref o), (1, .int x1), (2, .ref a2), (3, .int x3), (4, .int x4), (5, .int x5)] → pX11_tree_b8 o_counts_n o_alone_n o_parents_n a2_n x1 n o_counts_v o_alone_v o_parents_v a2_v x3 x4 x5 = some u → W p l e ({ frames := 1, cells := 0, slots := 0, locals := 23 }) s m args below meth c H locs 0 0 Q (F0 m 8 ls []) := by
    intro n
    induction n with
    | zero => intro o_counts_v o_alone_v o_parents_v a2_v x3 x4 x5 H locs ls hP hD hS hl h; cases h
    | succ n ih =>
      intro o_counts_v o_alone_v o_parents_v a2_v x3 x4 x5 H locs ls hP hD hS hl h
      rw [pX11_tree_b8] at h
      refine lv_iload hx hb dX11_tree_8 (lv_at hl 5 rfl) ?_
      refine lv_iload_n hx hb dX11_tree_10 rfl (lv_at hl 1 rfl) ?_
      refine lv_icmp_ge (tgt := 70) hx hb dX11_tree_11 (by decide) (fun c28 => ?_) (fun c28 => ?_)
      · replace h := fb_t c28 h
        refine lv_iload hx hb dX11_tree_70 (lv_at hl 4 rfl) ?_
        refine lv_istore (lv' := [(5, .int x4), (0, .ref o), (1, .int x1), (2, .ref a2), (3, .int x3), (4, .int x4)]) hx hb dX11_tree_72 hl (by decide) rfl (fun ls hl => ?_)
        exact wB74 fb_F o_counts_v o_alone_v o_parents_v a2_v x3 x4 x4 _ _ _ hP hD hS (lv_sub hl [1, 2, 3, 4, 5, 0] rfl) h
      · replace h := fb_f c28 h
        refine lv_aload_n hx hb dX11_tree_14 rfl (lv_at hl 0 rfl) ?_
        refine va_get (D := (dC, dI)) (ci := 11) (v := .ref o_alone) (C := RX11) (T := TX11) (N := 38) hx hb hts i_X11 hown hK hP 0 rfl rfl 27 (by decide) (hts _ k_864) (fun _ h9 => h9) rfl dX11_tree_15 ?_
        refine lv_iload hx hb dX11_tree_18 (lv_at hl 5 rfl) ?_
        refine lv_aload_n hx hb dX11_tree_20 rfl (lv_at hl 0 rfl) ?_
        refine va_get (D := (dC, dI)) (ci := 11) (v := .ref o_counts) (C := RX11) (T := TX11) (N := 38) hx hb hts i_X11 hown hK hP 0 rfl rfl 25 (by decide) (hts _ k_862) (fun _ h9 => h9) rfl dX11_tree_21 ?_
        refine lv_iload hx hb dX11_tree_24 (lv_at hl 5 rfl) ?_
        obtain ⟨g29, h⟩ := fb_g h
        refine va_iald hx hb hK hP 1 0 rfl rfl g29 dX11_tree_26 ?_
        refine lv_if_le (tgt := 34) hx hb dX11_tree_27 (by decide) (fun c30 => ?_) (fun c30 => ?_)
        · replace h := fb_t c30 h
          refine lv_iconst (v := (0 : Int32)) hx hb dX11_tree_34 (by decide) ?_
          exact wB35 (pX11_tree_b8 o_counts_n o_alone_n o_parents_n a2_n x1 n) ih o_counts_v o_alone_v o_parents_v a2_v x3 x4 x5 (0 : Int32) x5 _ _ _ hP hD hS (lv_sub hl [0, 1, 2, 3, 4, 5] rfl) h
        · replace h := fb_f c30 h
          refine lv_iconst (v := (1 : Int32)) hx hb dX11_tree_30 (by decide) ?_
          refine lv_goto (tgt := 35) hx hb dX11_tree_31 (by decide) ?_
          exact wB35 (pX11_tree_b8 o_counts_n o_alone_n o_parents_n a2_n x1 n) ih o_counts_v o_alone_v o_parents_v a2_v x3 x4 x5 (1 : Int32) x5 _ _ _ hP hD hS (lv_sub hl [0, 1, 2, 3, 4, 5] rfl) h
  unfold pX11_tree at h
  refine lv_iload_n hx hb dX11_tree_0 rfl (lv_at hl 1 rfl) ?_
  refine lv_istore_n (lv' := [(3, .int x1), (0, .ref o), (1, .int x1), (2, .ref a2)]) hx hb dX11_tree_1 rfl hl (by decide) rfl (fun ls hl => ?_)
  refine lv_iconst (v := (0 : Int32)) hx hb dX11_tree_2 (by decide) ?_
  refine lv_istore (lv' := [(4, .int (0 : Int32)), (3, .int x1), (0, .ref o), (1, .int x1), (2, .ref a2)]) hx hb dX11_tree_3 hl (by decide) rfl (fun ls hl => ?_)
  refine lv_iconst (v := (0 : Int32)) hx hb dX11_tree_5 (by decide) ?_
  refine lv_istore (lv' := [(5, .int (0 : Int32)), (4, .int (0 : Int32)), (3, .int x1), (0, .ref o), (1, .int x1), (2, .ref a2)]) hx hb dX11_tree_6 hl (by decide) rfl (fun ls hl => ?_)
  exact wB8 fb_F o_counts_v o_alone_v o_parents_v a2_v x1 (0 : Int32) (0 : Int32) _ _ _ hP hD hS (lv_sub hl [3, 4, 5, 2, 1, 0] rfl) h
theorem dX11_findLengths_0 : decode cX11_findLengths 0 = .ok (.iconst 0, 1) := by decide +kernel
theorem dX11_findLengths_1 : decode cX11_findLengths 1 = .ok (.istore 4, 2) := by decide +kernel
theorem dX11_findLengths_3 : decode cX11_findLengths 3 = .ok (.iload 4, 2) := by decide +kernel
theorem dX11_findLengths_5 : decode cX11_findLengths 5 = .ok (.iload_n 1, 1) := by decide +kernel
theorem dX11_findLengths_6 : decode cX11_findLengths 6 = .ok (.if_icmp .ge 23, 3) := by decide +kernel
theorem dX11_findLengths_9 : decode cX11_findLengths 9 = .ok (.aload_n 0, 1) := by decide +kernel
theorem dX11_findLengths_10 : decode cX11_findLengths 10 = .ok (.getfield 57, 3) := by decide +kernel
theorem dX11_findLengths_13 : decode cX11_findLengths 13 = .ok (.iload 4, 2) := by decide +kernel
theorem dX11_findLengths_15 : decode cX11_findLengths 15 = .ok (.aload_n 0, 1) := by decide +kernel
theorem dX11_findLengths_16 : decode cX11_findLengths 16 = .ok (.getfield 36, 3) := by decide +kernel
theorem dX11_findLengths_19 : decode cX11_findLengths 19 = .ok (.iload 4, 2) := by decide +kernel
theorem dX11_findLengths_21 : decode cX11_findLengths 21 = .ok (.iaload, 1) := by decide +kernel
theorem dX11_findLengths_22 : decode cX11_findLengths 22 = .ok (.iastore, 1) := by decide +kernel
theorem dX11_findLengths_23 : decode cX11_findLengths 23 = .ok (.iinc 4 1, 3) := by decide +kernel
theorem dX11_findLengths_26 : decode cX11_findLengths 26 = .ok (.goto (-23), 3) := by decide +kernel
theorem dX11_findLengths_29 : decode cX11_findLengths 29 = .ok (.aload_n 0, 1) := by decide +kernel
theorem dX11_findLengths_30 : decode cX11_findLengths 30 = .ok (.iload_n 1, 1) := by decide +kernel
theorem dX11_findLengths_31 : decode cX11_findLengths 31 = .ok (.aload_n 3, 1) := by decide +kernel
theorem dX11_findLengths_32 : decode cX11_findLengths 32 = .ok (.invokevirtual 146, 3) := by decide +kernel
theorem dX11_findLengths_35 : decode cX11_findLengths 35 = .ok (.iload_n 2, 1) := by decide +kernel
theorem dX11_findLengths_36 : decode cX11_findLengths 36 = .ok (.if_icmp .le 39, 3) := by decide +kernel
theorem dX11_findLengths_39 : decode cX11_findLengths 39 = .ok (.iconst 0, 1) := by decide +kernel
theorem dX11_findLengths_40 : decode cX11_findLengths 40 = .ok (.istore 4, 2) := by decide +kernel
theorem dX11_findLengths_42 : decode cX11_findLengths 42 = .ok (.iload 4, 2) := by decide +kernel
theorem dX11_findLengths_44 : decode cX11_findLengths 44 = .ok (.iload_n 1, 1) := by decide +kernel
theorem dX11_findLengths_45 : decode cX11_findLengths 45 = .ok (.if_icmp .ge 27, 3) := by decide +kernel
theorem dX11_findLengths_48 : decode cX11_findLengths 48 = .ok (.aload_n 0, 1) := by decide +kernel
theorem dX11_findLengths_49 : decode cX11_findLengths 49 = .ok (.getfield 57, 3) := by decide +kernel
theorem dX11_findLengths_52 : decode cX11_findLengths 52 = .ok (.iload 4, 2) := by decide +kernel
theorem dX11_findLengths_54 : decode cX11_findLengths 54 = .ok (.aload_n 0, 1) := by decide +kernel
theorem dX11_findLengths_55 : decode cX11_findLengths 55 = .ok (.getfield 57, 3) := by decide +kernel
theorem dX11_findLengths_58 : decode cX11_findLengths 58 = .ok (.iload 4, 2) := by decide +kernel
theorem dX11_findLengths_60 : decode cX11_findLengths 60 = .ok (.iaload, 1) := by decide +kernel
theorem dX11_findLengths_61 : decode cX11_findLengths 61 = .ok (.iconst 1, 1) := by decide +kernel
theorem dX11_findLengths_62 : decode cX11_findLengths 62 = .ok (.iadd, 1) := by decide +kernel
theorem dX11_findLengths_63 : decode cX11_findLengths 63 = .ok (.iconst 2, 1) := by decide +kernel
theorem dX11_findLengths_64 : decode cX11_findLengths 64 = .ok (.idiv, 1) := by decide +kernel
theorem dX11_findLengths_65 : decode cX11_findLengths 65 = .ok (.iastore, 1) := by decide +kernel
theorem dX11_findLengths_66 : decode cX11_findLengths 66 = .ok (.iinc 4 1, 3) := by decide +kernel
theorem dX11_findLengths_69 : decode cX11_findLengths 69 = .ok (.goto (-27), 3) := by decide +kernel
theorem dX11_findLengths_72 : decode cX11_findLengths 72 = .ok (.goto (-43), 3) := by decide +kernel
theorem dX11_findLengths_75 : decode cX11_findLengths 75 = .ok (.return_, 1) := by decide +kernel
def pX11_findLengths_b42 (o_counts_n : Nat) (x1 : Int32) (K29 : (Nat → Int32) → (Nat → Int32) → (Nat → Int32) → (Nat → Int32) → Option ((Nat → Int32) × (Nat → Int32) × (Nat → Int32) × (Nat → Int32))) : Nat → (Nat → Int32) → (Nat → Int32) → (Nat → Int32) → (Nat → Int32) → Int32 → Option ((Nat → Int32) × (Nat → Int32) × (Nat → Int32) × (Nat → Int32))
  | 0 => fun _ _ _ _ _ => none
  | n + 1 => fun o_counts_v o_alone_v o_parents_v a3_v x4 =>
  if x1 ≤ x4 then
  (K29 o_counts_v o_alone_v o_parents_v a3_v)
  else
  (if x4 < 0 ∨ o_counts_n ≤ (x4).toNatClampNeg then none else
  if x4 < 0 ∨ o_counts_n ≤ (x4).toNatClampNeg then none else
  (pX11_findLengths_b42 o_counts_n x1 K29 n) (upd o_counts_v (x4).toNatClampNeg (((o_counts_v (x4).toNatClampNeg) + (1 : Int32)) / (2 : Int32))) o_alone_v o_parents_v a3_v (x4 + (1 : Int32)))
def pX11_findLengths_b29 (o_counts_n : Nat) (o_alone_n : Nat) (o_parents_n : Nat) (a3_n : Nat) (x1 : Int32) (x2 : Int32)  : Nat → (Nat → Int32) → (Nat → Int32) → (Nat → Int32) → (Nat → Int32) → Option ((Nat → Int32) × (Nat → Int32) × (Nat → Int32) × (Nat → Int32))
  | 0 => fun _ _ _ _ => none
  | n + 1 => fun o_counts_v o_alone_v o_parents_v a3_v =>
  (pX11_tree o_counts_n o_alone_n o_parents_n a3_n x1 o_counts_v o_alone_v o_parents_v a3_v).bind (fun u4 =>
  if u4.1 ≤ x2 then
  (some (u4.2.1, u4.2.2.1, u4.2.2.2.1, u4.2.2.2.2))
  else
  (pX11_findLengths_b42 o_counts_n x1 (pX11_findLengths_b29 o_counts_n o_alone_n o_parents_n a3_n x1 x2 n) fb_F u4.2.1 u4.2.2.1 u4.2.2.2.1 u4.2.2.2.2 (0 : Int32)))
def pX11_findLengths_b3 (o_often_n : Nat) (o_counts_n : Nat) (o_alone_n : Nat) (o_parents_n : Nat) (a3_n : Nat) (o_often_v : Nat → Int32) (x1 : Int32) (x2 : Int32)  : Nat → (Nat → Int32) → (Nat → Int32) → (Nat → Int32) → (Nat → Int32) → Int32 → Option ((Nat → Int32) × (Nat → Int32) × (Nat → Int32) × (Nat → Int32))
  | 0 => fun _ _ _ _ _ => none
  | n + 1 => fun o_counts_v o_alone_v o_parents_v a3_v x4 =>
  if x1 ≤ x4 then
  (pX11_findLengths_b29 o_counts_n o_alone_n o_parents_n a3_n x1 x2 fb_F o_counts_v o_alone_v o_parents_v a3_v)
  else
  (if x4 < 0 ∨ o_often_n ≤ (x4).toNatClampNeg then none else
  if x4 < 0 ∨ o_counts_n ≤ (x4).toNatClampNeg then none else
  (pX11_findLengths_b3 o_often_n o_counts_n o_alone_n o_parents_n a3_n o_often_v x1 x2 n) (upd o_counts_v (x4).toNatClampNeg (o_often_v (x4).toNatClampNeg)) o_alone_v o_parents_v a3_v (x4 + (1 : Int32)))
def pX11_findLengths (o_often_n : Nat) (o_counts_n : Nat) (o_alone_n : Nat) (o_parents_n : Nat) (a3_n : Nat) (o_often_v : Nat → Int32) (x1 : Int32) (x2 : Int32)  (o_counts_v : Nat → Int32) (o_alone_v : Nat → Int32) (o_parents_v : Nat → Int32) (a3_v : Nat → Int32) : Option ((Nat → Int32) × (Nat → Int32) × (Nat → Int32) × (Nat → Int32)) :=
  pX11_findLengths_b3 o_often_n o_counts_n o_alone_n o_parents_n a3_n o_often_v x1 x2 fb_F o_counts_v o_alone_v o_parents_v a3_v (0 : Int32)
theorem hdX11_findLengths : yX11_findLengths.cls = RX11 ∧ yX11_findLengths.cls ≠ "java/lang/invoke/MethodHandle" ∧ yX11_findLengths.cls ≠ "java/lang/invoke/VarHandle" ∧ (parseMethodDescriptor yX11_findLengths.desc).map (fun d => d.parameters.length) = some 3 := by decide +kernel
set_option maxHeartbeats 8000000 in
set_option maxRecDepth 100000 in
theorem mX11_findLengths (l : Launch) (dC : Nat → ClassId) (dI : Nat → Nat → Nat) (o : Nat) (a3 : Nat) (o_often : Nat) (o_counts : Nat) (o_alone : Nat) (o_parents : Nat) (o_text : Nat) (o_packed : Nat) (o_loaded : Nat) (o_out : Nat) (o_lengths : Nat) (o_distances : Nat) (o_heads : Nat) (o_earlier : Nat) (o_symbolLengths : Nat) (o_distanceLengths : Nat) (o_lengthLengths : Nat) (o_symbolCodes : Nat) (o_distanceCodes : Nat) (o_lengthCodes : Nat) (o_row : Nat) (o_toldSymbols : Nat) (o_toldNumbers : Nat) (o_often_c : ClassId) (o_counts_c : ClassId) (o_alone_c : ClassId) (o_parents_c : ClassId) (a3_c : ClassId) (o_often_n : Nat) (o_counts_n : Nat) (o_alone_n : Nat) (o_parents_n : Nat) (a3_n : Nat) (o_textRoom : Int32) (o_byteRoom : Int32) (o_chain : Int32) (o_textSize : Int32) (o_packedSize : Int32) (o_matches : Int32) (o_loadedSize : Int32) (o_outSize : Int32) (o_bits : Int32) (o_tokens : Int32) (o_told : Int32) (o_place : Int32) (o_fail : Int32) (o_found : Int32) (o_symbolCount : Int32) (o_distanceCount : Int32) (o_lengthCount : Int32) (o_often_v : Nat → Int32) (o_counts_v : Nat → Int32) (o_alone_v : Nat → Int32) (o_parents_v : Nat → Int32) (a3_v : Nat → Int32) (x1 : Int32) (x2 : Int32) (sz : Nat) (u : (Nat → Int32) × (Nat → Int32) × (Nat → Int32) × (Nat → Int32)) (h : pX11_findLengths o_often_n o_counts_n o_alone_n o_parents_n a3_n o_often_v x1 x2 o_counts_v o_alone_v o_parents_v a3_v = some u) : Met l yX11_findLengths (Cond.code yX11_findLengths cX11_findLengths 5 none :: fb_tb) ({ frames := 2, cells := 0, slots := 0, locals := 51 }) (fb_Pc (dC, dI) [.ref o, .int x1, .int x2, .ref a3] sz [(o_often_c, .int), (o_counts_c, .int), (o_alone_c, .boolean), (o_parents_c, .int), (a3_c, .int)] [(o, .inr (11, [.int o_textRoom, .int o_byteRoom, .int o_chain, .ref o_text, .int o_textSize, .ref o_packed, .int o_packedSize, .int o_matches, .ref o_loaded, .int o_loadedSize, .ref o_out, .int o_outSize, .int o_bits, .int o_tokens, .ref o_lengths, .ref o_distances, .ref o_heads, .ref o_earlier, .ref o_often, .ref o_symbolLengths, .ref o_distanceLengths, .ref o_lengthLengths, .ref o_symbolCodes, .ref o_distanceCodes, .ref o_lengthCodes, .ref o_counts, .ref o_parents, .ref o_alone, .ref o_row, .int o_told, .ref o_toldSymbols, .ref o_toldNumbers, .int o_place, .int o_fail, .int o_found, .int o_symbolCount, .int o_distanceCount, .int o_lengthCount])), (o_often, .inl (o_often_c, o_often_n, .inl o_often_v)), (o_counts, .inl (o_counts_c, o_counts_n, .inl o_counts_v)), (o_alone, .inl (o_alone_c, o_alone_n, .inl o_alone_v)), (o_parents, .inl (o_parents_c, o_parents_n, .inl o_parents_v)), (a3, .inl (a3_c, a3_n, .inl a3_v))]) (fb_Qv (dC, dI) [(o, .inr (11, [.int o_textRoom, .int o_byteRoom, .int o_chain, .ref o_text, .int o_textSize, .ref o_packed, .int o_packedSize, .int o_matches, .ref o_loaded, .int o_loadedSize, .ref o_out, .int o_outSize, .int o_bits, .int o_tokens, .ref o_lengths, .ref o_distances, .ref o_heads, .ref o_earlier, .ref o_often, .ref o_symbolLengths, .ref o_distanceLengths, .ref o_lengthLengths, .ref o_symbolCodes, .ref o_distanceCodes, .ref o_lengthCodes, .ref o_counts, .ref o_parents, .ref o_alone, .ref o_row, .int o_told, .ref o_toldSymbols, .ref o_toldNumbers, .int o_place, .int o_fail, .int o_found, .int o_symbolCount, .int o_distanceCount, .int o_lengthCount])), (o_often, .inl (o_often_c, o_often_n, .inl o_often_v)), (o_counts, .inl (o_counts_c, o_counts_n, .inl u.1)), (o_alone, .inl (o_alone_c, o_alone_n, .inl u.2.1)), (o_parents, .inl (o_parents_c, o_parents_n, .inl u.2.2.1)), (a3, .inl (a3_c, a3_n, .inl u.2.2.2))] (va_A [(o, .inr (11, [.int o_textRoom, .int o_byteRoom, .int o_chain, .ref o_text, .int o_textSize, .ref o_packed, .int o_packedSize, .int o_matches, .ref o_loaded, .int o_loadedSize, .ref o_out, .int o_outSize, .int o_bits, .int o_tokens, .ref o_lengths, .ref o_distances, .ref o_heads, .ref o_earlier, .ref o_often, .ref o_symbolLengths, .ref o_distanceLengths, .ref o_lengthLengths, .ref o_symbolCodes, .ref o_distanceCodes, .ref o_lengthCodes, .ref o_counts, .ref o_parents, .ref o_alone, .ref o_row, .int o_told, .ref o_toldSymbols, .ref o_toldNumbers, .int o_place, .int o_fail, .int o_found, .int o_symbolCount, .int o_distanceCount, .int o_lengthCount])), (o_often, .inl (o_often_c, o_often_n, .inl o_often_v)), (o_counts, .inl (o_counts_c, o_counts_n, .inl o_counts_v)), (o_alone, .inl (o_alone_c, o_alone_n, .inl o_alone_v)), (o_parents, .inl (o_parents_c, o_parents_n, .inl o_parents_v)), (a3, .inl (a3_c, a3_n, .inl a3_v))] sz)) 0 0 (va_A [(o, .inr (11, [.int o_textRoom, .int o_byteRoom, .int o_chain, .ref o_text, .int o_textSize, .ref o_packed, .int o_packedSize, .int o_matches, .ref o_loaded, .int o_loadedSize, .ref o_out, .int o_outSize, .int o_bits, .int o_tokens, .ref o_lengths, .ref o_distances, .ref o_heads, .ref o_earlier, .ref o_often, .ref o_symbolLengths, .ref o_distanceLengths, .ref o_lengthLengths, .ref o_symbolCodes, .ref o_distanceCodes, .ref o_lengthCodes, .ref o_counts, .ref o_parents, .ref o_alone, .ref o_row, .int o_told, .ref o_toldSymbols, .ref o_toldNumbers, .int o_place, .int o_fail, .int o_found, .int o_symbolCount, .int o_distanceCount, .int o_lengthCount])), (o_often, .inl (o_often_c, o_often_n, .inl o_often_v)), (o_counts, .inl (o_counts_c, o_counts_n, .inl o_counts_v)), (o_alone, .inl (o_alone_c, o_alone_n, .inl o_alone_v)), (o_parents, .inl (o_parents_c, o_parents_n, .inl o_parents_v)), (a3, .inl (a3_c, a3_n, .inl a3_v))] sz) := by
  refine fb_metv (by decide) (Nat.le_of_ble_eq_true rfl) (fun p e s m args below meth c A Q ls H hx hb hml hown hts hP hK hN hZ hD hA hS hret hl => ?_)
  replace hl : lv_has ls 5 [(0, .ref o), (1, .int x1), (2, .int x2), (3, .ref a3)] := hl
  have wB42 : ∀ (K29 : (Nat → Int32) → (Nat → Int32) → (Nat → Int32) → (Nat → Int32) → Option ((Nat → Int32) × (Nat → Int32) × (Nat → Int32) × (Nat → Int32))), (∀ (o_counts_v : Nat → Int32) (o_alone_v : Nat → Int32) (o_parents_v : Nat → Int32) (a3_v : Nat → Int32) (H : Heap) (locs : List Loc) (ls : Array Slot), va_P (dC, dI) fb_cl [(o, .inr (11, [.int o_textRoom, .int o_byteRoom, .int o_chain, .ref o_text, .int o_textSize, .ref o_packed, .int o_packedSize, .int o_matches, .ref o_loaded, .int o_loadedSize, .ref o_out, .int o_outSize, .int o_bits, .int o_tokens, .ref o_lengths, .ref o_distances, .ref o_heads, .ref o_earlier, .ref o_often, .ref o_symbolLengths, .ref o_distanceLengths, .ref o_lengthLengths, .ref o_symbolCodes, .ref o_distanceCodes, .ref o_lengthCodes, .ref o_counts, .ref o_parents, .ref o_alone, .ref o_row, .int o_told, .ref o_toldSymbols, .ref o_toldNumbers, .int o_place, .int o_fail, .int o_found, .int o_symbolCount, .int o_distanceCount, .int o_lengthCount])), (o_often, .inl (o_often_c, o_often_n, .inl o_often_v)), (o_counts, .inl (o_counts_c, o_counts_n, .inl o_counts_v)), (o_alone, .inl (o_alone_c, o_alone_n, .inl o_alone_v)), (o_parents, .inl (o_parents_c, o_parents_n, .inl o_parents_v)), (a3, .inl (a3_c, a3_n, .inl a3_v))] H → va_D A [(o, .inr (11, [.int o_textRoom, .int o_byteRoom, .int o_chain, .ref o_text, .int o_textSize, .ref o_packed, .int o_packedSize, .int o_matches, .ref o_loaded, .int o_loadedSize, .ref o_out, .int o_outSize, .int o_bits, .int o_tokens, .ref o_lengths, .ref o_distances, .ref o_heads, .ref o_earlier, .ref o_often, .ref o_symbolLengths, .ref o_distanceLengths, .ref o_lengthLengths, .ref o_symbolCodes, .ref o_distanceCodes, .ref o_lengthCodes, .ref o_counts, .ref o_parents, .ref o_alone, .ref o_row, .int o_told, .ref o_toldSymbols, .ref o_toldNumbers, .int o_place, .int o_fail, .int o_found, .int o_symbolCount, .int o_distanceCount, .int o_lengthCount])), (o_often, .inl (o_often_c, o_often_n, .inl o_often_v)), (o_counts, .inl (o_counts_c, o_counts_n, .inl o_counts_v)), (o_alone, .inl (o_alone_c, o_alone_n, .inl o_alone_v)), (o_parents, .inl (o_parents_c, o_parents_n, .inl o_parents_v)), (a3, .inl (a3_c, a3_n, .inl a3_v))] → va_S A s.heap H locs → lv_has ls 5 [(0, .ref o), (1, .int x1), (2, .int x2), (3, .ref a3)] → K29 o_counts_v o_alone_v o_parents_v a3_v = some u → W p l e ({ frames := 2, cells := 0, slots := 0, locals := 51 }) s m args below meth c H locs 0 0 Q (F0 m 29 ls [])) → ∀ n : Nat, ∀ (o_counts_v : Nat → Int32) (o_alone_v : Nat → Int32) (o_parents_v : Nat → Int32) (a3_v : Nat → Int32) (x4 : Int32) (H : Heap) (locs : List Loc) (ls : Array Slot), va_P (dC, dI) fb_cl [(o, .inr (11, [.int o_textRoom, .int o_byteRoom, .int o_chain, .ref o_text, .int o_textSize, .ref o_packed, .int o_packedSize, .int o_matches, .ref o_loaded, .int o_loadedSize, .ref o_out, .int o_outSize, .int o_bits, .int o_tokens, .ref o_lengths, .ref o_distances, .ref o_heads, .ref o_earlier, .ref o_often, .ref o_symbolLengths, .ref o_distanceLengths, .ref o_lengthLengths, .ref o_symbolCodes, .ref o_distanceCodes, .ref o_lengthCodes, .ref o_counts, .ref o_parents, .ref o_alone, .ref o_row, .int o_told, .ref o_toldSymbols, .ref o_toldNumbers, .int o_place, .int o_fail, .int o_found, .int o_symbolCount, .int o_distanceCount, .int o_lengthCount])), (o_often, .inl (o_often_c, o_often_n, .inl o_often_v)), (o_counts, .inl (o_counts_c, o_counts_n, .inl o_counts_v)), (o_alone, .inl (o_alone_c, o_alone_n, .inl o_alone_v)), (o_parents, .inl (o_parents_c, o_parents_n, .inl o_parents_v)), (a3, .inl (a3_c, a3_n, .inl a3_v))] H → va_D A [(o, .inr (11, [.int o_textRoom, .int o_byteRoom, .int o_chain, .ref o_text, .int o_textSize, .ref o_packed, .int o_packedSize, .int o_matches, .ref o_loaded, .int o_loadedSize, .ref o_out, .int o_outSize, .int o_bits, .int o_tokens, .ref o_lengths, .ref o_distances, .ref o_heads, .ref o_earlier, .ref o_often, .ref o_symbolLengths, .ref o_distanceLengths, .ref o_lengthLengths, .ref o_symbolCodes, .ref o_distanceCodes, .ref o_lengthCodes, .ref o_counts, .ref o_parents, .ref o_alone, .ref o_row, .int o_told, .ref o_toldSymbols, .ref o_toldNumbers, .int o_place, .int o_fail, .int o_found, .int o_symbolCount, .int o_distanceCount, .int o_lengthCount])), (o_often, .inl (o_often_c, o_often_n, .inl o_often_v)), (o_counts, .inl (o_counts_c, o_counts_n, .inl o_counts_v)), (o_alone, .inl (o_alone_c, o_alone_n, .inl o_alone_v)), (o_parents, .inl (o_parents_c, o_parents_n, .inl o_parents_v)), (a3, .inl (a3_c, a3_n, .inl a3_v))] → va_S A s.heap H locs → lv_has ls 5 [(0, .ref o), (1, .int x1), (2, .int x2), (3, .ref a3), (4, .int x4)] → pX11_findLengths_b42 o_counts_n x1 K29 n o_counts_v o_alone_v o_parents_v a3_v x4 = some u → W p l e ({ frames := 2, cells := 0, slots := 0, locals := 51 }) s m args below meth c H locs 0 0 Q (F0 m 42 ls []) := by
    intro K29 hK29 n
    induction n with
    | zero => intro o_counts_v o_alone_v o_parents_v a3_v x4 H locs ls hP hD hS hl h; cases h
    | succ n ih =>
      intro o_counts_v o_alone_v o_parents_v a3_v x4 H locs ls hP hD hS hl h
      rw [pX11_findLengths_b42] at h
      refine lv_iload hx hb dX11_findLengths_42 (lv_at hl 4 rfl) ?_
      refine lv_iload_n hx hb dX11_findLengths_44 rfl (lv_at hl 1 rfl) ?_
      refine lv_icmp_ge (tgt := 72) hx hb dX11_findLengths_45 (by decide) (fun c1 => ?_) (fun c1 => ?_)
      · replace h := fb_t c1 h
        refine lv_goto (tgt := 29) hx hb dX11_findLengths_72 (by decide) ?_
        exact hK29 o_counts_v o_alone_v o_parents_v a3_v _ _ _ hP hD hS (lv_sub hl [0, 1, 2, 3] rfl) h
      · replace h := fb_f c1 h
        refine lv_aload_n hx hb dX11_findLengths_48 rfl (lv_at hl 0 rfl) ?_
        refine va_get (D := (dC, dI)) (ci := 11) (v := .ref o_counts) (C := RX11) (T := TX11) (N := 38) hx hb hts i_X11 hown hK hP 0 rfl rfl 25 (by decide) (hts _ k_862) (fun _ h9 => h9) rfl dX11_findLengths_49 ?_
        refine lv_iload hx hb dX11_findLengths_52 (lv_at hl 4 rfl) ?_
        refine lv_aload_n hx hb dX11_findLengths_54 rfl (lv_at hl 0 rfl) ?_
        refine va_get (D := (dC, dI)) (ci := 11) (v := .ref o_counts) (C := RX11) (T := TX11) (N := 38) hx hb hts i_X11 hown hK hP 0 rfl rfl 25 (by decide) (hts _ k_862) (fun _ h9 => h9) rfl dX11_findLengths_55 ?_
        refine lv_iload hx hb dX11_findLengths_58 (lv_at hl 4 rfl) ?_
        obtain ⟨g2, h⟩ := fb_g h
        refine va_iald hx hb hK hP 2 1 rfl rfl g2 dX11_findLengths_60 ?_
        refine lv_iconst (v := (1 : Int32)) hx hb dX11_findLengths_61 (by decide) ?_
        refine lv_iadd hx hb dX11_findLengths_62 ?_
        refine lv_iconst (v := (2 : Int32)) hx hb dX11_findLengths_63 (by decide) ?_
        refine lv_idiv hx hb dX11_findLengths_64 (by decide) ?_
        obtain ⟨g3, h⟩ := fb_g h
        refine va_iast hx hb hK hP hD hS 2 1 rfl rfl g3 dX11_findLengths_65 (fun H locs hP hD hS => ?_)
        replace hP : va_P (dC, dI) fb_cl [(o, .inr (11, [.int o_textRoom, .int o_byteRoom, .int o_chain, .ref o_text, .int o_textSize, .ref o_packed, .int o_packedSize, .int o_matches, .ref o_loaded, .int o_loadedSize, .ref o_out, .int o_outSize, .int o_bits, .int o_tokens, .ref o_lengths, .ref o_distances, .ref o_heads, .ref o_earlier, .ref o_often, .ref o_symbolLengths, .ref o_distanceLengths, .ref o_lengthLengths, .ref o_symbolCodes, .ref o_distanceCodes, .ref o_lengthCodes, .ref o_counts, .ref o_parents, .ref o_alone, .ref o_row, .int o_told, .ref o_toldSymbols, .ref o_toldNumbers, .int o_place, .int o_fail, .int o_found, .int o_symbolCount, .int o_distanceCount, .int o_lengthCount])), (o_often, .inl (o_often_c, o_often_n, .inl o_often_v)), (o_counts, .inl (o_counts_c, o_counts_n, .inl (upd o_counts_v (x4).toNatClampNeg (((o_counts_v (x4).toNatClampNeg) + (1 : Int32)) / (2 : Int32))))), (o_alone, .inl (o_alone_c, o_alone_n, .inl o_alone_v)), (o_parents, .inl (o_parents_c, o_parents_n, .inl o_parents_v)), (a3, .inl (a3_c, a3_n, .inl a3_v))] H := hP
        replace hD : va_D A [(o, .inr (11, [.int o_textRoom, .int o_byteRoom, .int o_chain, .ref o_text, .int o_textSize, .ref o_packed, .int o_packedSize, .int o_matches, .ref o_loaded, .int o_loadedSize, .ref o_out, .int o_outSize, .int o_bits, .int o_tokens, .ref o_lengths, .ref o_distances, .ref o_heads, .ref o_earlier, .ref o_often, .ref o_symbolLengths, .ref o_distanceLengths, .ref o_lengthLengths, .ref o_symbolCodes, .ref o_distanceCodes, .ref o_lengthCodes, .ref o_counts, .ref o_parents, .ref o_alone, .ref o_row, .int o_told, .ref o_toldSymbols, .ref o_toldNumbers, .int o_place, .int o_fail, .int o_found, .int o_symbolCount, .int o_distanceCount, .int o_lengthCount])), (o_often, .inl (o_often_c, o_often_n, .inl o_often_v)), (o_counts, .inl (o_counts_c, o_counts_n, .inl (upd o_counts_v (x4).toNatClampNeg (((o_counts_v (x4).toNatClampNeg) + (1 : Int32)) / (2 : Int32))))), (o_alone, .inl (o_alone_c, o_alone_n, .inl o_alone_v)), (o_parents, .inl (o_parents_c, o_parents_n, .inl o_parents_v)), (a3, .inl (a3_c, a3_n, .inl a3_v))] := hD
        refine lv_iinc (v := (x4 + (1 : Int32))) (lv' := [(4, .int (x4 + (1 : Int32))), (0, .ref o), (1, .int x1), (2, .int x2), (3, .ref a3)]) hx hb dX11_findLengths_66 hl (k := 4) rfl rfl (by decide) rfl (fun ls hl => ?_)
        refine lv_goto (tgt := 42) hx hb dX11_findLengths_69 (by decide) ?_
        exact ih (upd o_counts_v (x4).toNatClampNeg (((o_counts_v (x4).toNatClampNeg) + (1 : Int32)) / (2 : Int32))) o_alone_v o_parents_v a3_v (x4 + (1 : Int32)) _ _ _ hP hD hS (lv_sub hl [1, 2, 3, 4, 0] rfl) h
  have wB29 : ∀ n : Nat, ∀ (o_counts_v : Nat → Int32) (o_alone_v : Nat → Int32) (o_parents_v : Nat → Int32) (a3_v : Nat → Int32) (H : Heap) (locs : List Loc) (ls : Array Slot), va_P (dC, dI) fb_cl [(o, .inr (11, [.int o_textRoom, .int o_byteRoom, .int o_chain, .ref o_text, .int o_textSize, .ref o_packed, .int o_packedSize, .int o_matches, .ref o_loaded, .int o_loadedSize, .ref o_out, .int o_outSize, .int o_bits, .int o_tokens, .ref o_lengths, .ref o_distances, .ref o_heads, .ref o_earlier, .ref o_often, .ref o_symbolLengths, .ref o_distanceLengths, .ref o_lengthLengths, .ref o_symbolCodes, .ref o_distanceCodes, .ref o_lengthCodes, .ref o_counts, .ref o_parents, .ref o_alone, .ref o_row, .int o_told, .ref o_toldSymbols, .ref o_toldNumbers, .int o_place, .int o_fail, .int o_found, .int o_symbolCount, .int o_distanceCount, .int o_lengthCount])), (o_often, .inl (o_often_c, o_often_n, .inl o_often_v)), (o_counts, .inl (o_counts_c, o_counts_n, .inl o_counts_v)), (o_alone, .inl (o_alone_c, o_alone_n, .inl o_alone_v)), (o_parents, .inl (o_parents_c, o_parents_n, .inl o_parents_v)), (a3, .inl (a3_c, a3_n, .inl a3_v))] H → va_D A [(o, .inr (11, [.int o_textRoom, .int o_byteRoom, .int o_chain, .ref o_text, .int o_textSize, .ref o_packed, .int o_packedSize, .int o_matches, .ref o_loaded, .int o_loadedSize, .ref o_out, .int o_outSize, .int o_bits, .int o_tokens, .ref o_lengths, .ref o_distances, .ref o_heads, .ref o_earlier, .ref o_often, .ref o_symbolLengths, .ref o_distanceLengths, .ref o_lengthLengths, .ref o_symbolCodes, .ref o_distanceCodes, .ref o_lengthCodes, .ref o_counts, .ref o_parents, .ref o_alone, .ref o_row, .int o_told, .ref o_toldSymbols, .ref o_toldNumbers, .int o_place, .int o_fail, .int o_found, .int o_symbolCount, .int o_distanceCount, .int o_lengthCount])), (o_often, .inl (o_often_c, o_often_n, .inl o_often_v)), (o_counts, .inl (o_counts_c, o_counts_n, .inl o_counts_v)), (o_alone, .inl (o_alone_c, o_alone_n, .inl o_alone_v)), (o_parents, .inl (o_parents_c, o_parents_n, .inl o_parents_v)), (a3, .inl (a3_c, a3_n, .inl a3_v))] → va_S A s.heap H locs → lv_has ls 5 [(0, .ref o), (1, .int x1), (2, .int x2), (3, .ref a3)] → pX11_findLengths_b29 o_counts_n o_alone_n o_parents_n a3_n x1 x2 n o_counts_v o_alone_v o_parents_v a3_v = some u → W p l e ({ frames := 2, cells := 0, slots := 0, locals := 51 }) s m args below meth c H locs 0 0 Q (F0 m 29 ls []) := by
    intro n
    induction n with
    | zero => intro o_counts_v o_alone_v o_parents_v a3_v H locs ls hP hD hS hl h; cases h
    | succ n ih =>
      intro o_counts_v o_alone_v o_parents_v a3_v H locs ls hP hD hS hl h
      rw [pX11_findLengths_b29] at h
      refine lv_aload_n hx hb dX11_findLengths_29 rfl (lv_at hl 0 rfl) ?_
      refine lv_iload_n hx hb dX11_findLengths_30 rfl (lv_at hl 1 rfl) ?_
      refine lv_aload_n hx hb dX11_findLengths_31 rfl (lv_at hl 3 rfl) ?_
      obtain ⟨u4, e4, h⟩ := fb_b h
      refine fb_ci (wc := [(o, .inr (11, [.int o_textRoom, .int o_byteRoom, .int o_chain, .ref o_text, .int o_textSize, .ref o_packed, .int o_packedSize, .int o_matches, .ref o_loaded, .int o_loadedSize, .ref o_out, .int o_outSize, .int o_bits, .int o_tokens, .ref o_lengths, .ref o_distances, .ref o_heads, .ref o_earlier, .ref o_often, .ref o_symbolLengths, .ref o_distanceLengths, .ref o_lengthLengths, .ref o_symbolCodes, .ref o_distanceCodes, .ref o_lengthCodes, .ref o_counts, .ref o_parents, .ref o_alone, .ref o_row, .int o_told, .ref o_toldSymbols, .ref o_toldNumbers, .int o_place, .int o_fail, .int o_found, .int o_symbolCount, .int o_distanceCount, .int o_lengthCount])), (o_counts, .inl (o_counts_c, o_counts_n, .inl o_counts_v)), (o_alone, .inl (o_alone_c, o_alone_n, .inl o_alone_v)), (o_parents, .inl (o_parents_c, o_parents_n, .inl o_parents_v)), (a3, .inl (a3_c, a3_n, .inl a3_v))]) (wr := [(o_often, .inl (o_often_c, o_often_n, .inl o_often_v))]) (w1 := [(o, .inr (11, [.int o_textRoom, .int o_byteRoom, .int o_chain, .ref o_text, .int o_textSize, .ref o_packed, .int o_packedSize, .int o_matches, .ref o_loaded, .int o_loadedSize, .ref o_out, .int o_outSize, .int o_bits, .int o_tokens, .ref o_lengths, .ref o_distances, .ref o_heads, .ref o_earlier, .ref o_often, .ref o_symbolLengths, .ref o_distanceLengths, .ref o_lengthLengths, .ref o_symbolCodes, .ref o_distanceCodes, .ref o_lengthCodes, .ref o_counts, .ref o_parents, .ref o_alone, .ref o_row, .int o_told, .ref o_toldSymbols, .ref o_toldNumbers, .int o_place, .int o_fail, .int o_found, .int o_symbolCount, .int o_distanceCount, .int o_lengthCount])), (o_counts, .inl (o_counts_c, o_counts_n, .inl u4.2.1)), (o_alone, .inl (o_alone_c, o_alone_n, .inl u4.2.2.1)), (o_parents, .inl (o_parents_c, o_parents_n, .inl u4.2.2.2.1)), (a3, .inl (a3_c, a3_n, .inl u4.2.2.2.2))]) (ws' := [(o, .inr (11, [.int o_textRoom, .int o_byteRoom, .int o_chain, .ref o_text, .int o_textSize, .ref o_packed, .int o_packedSize, .int o_matches, .ref o_loaded, .int o_loadedSize, .ref o_out, .int o_outSize, .int o_bits, .int o_tokens, .ref o_lengths, .ref o_distances, .ref o_heads, .ref o_earlier, .ref o_often, .ref o_symbolLengths, .ref o_distanceLengths, .ref o_lengthLengths, .ref o_symbolCodes, .ref o_distanceCodes, .ref o_lengthCodes, .ref o_counts, .ref o_parents, .ref o_alone, .ref o_row, .int o_told, .ref o_toldSymbols, .ref o_toldNumbers, .int o_place, .int o_fail, .int o_found, .int o_symbolCount, .int o_distanceCount, .int o_lengthCount])), (o_often, .inl (o_often_c, o_often_n, .inl o_often_v)), (o_counts, .inl (o_counts_c, o_counts_n, .inl u4.2.1)), (o_alone, .inl (o_alone_c, o_alone_n, .inl u4.2.2.1)), (o_parents, .inl (o_parents_c, o_parents_n, .inl u4.2.2.2.1)), (a3, .inl (a3_c, a3_n, .inl u4.2.2.2.2))]) (va_runV (As := [.int x1, .ref a3]) (rest := []) ⟨hx, hb, hml, hown, hts⟩ (mX11_tree l dC dI o a3 o_counts o_alone o_parents o_text o_packed o_loaded o_out o_lengths o_distances o_heads o_earlier o_often o_symbolLengths o_distanceLengths o_lengthLengths o_symbolCodes o_distanceCodes o_lengthCodes o_row o_toldSymbols o_toldNumbers o_counts_c o_alone_c o_parents_c a3_c o_counts_n o_alone_n o_parents_n a3_n o_textRoom o_byteRoom o_chain o_textSize o_packedSize o_matches o_loadedSize o_outSize o_bits o_tokens o_told o_place o_fail o_found o_symbolCount o_distanceCount o_lengthCount o_counts_v o_alone_v o_parents_v a3_v x1 H.size u4 e4) (cwV 2 hts (fb_GV k_1043 k_1045 k_41 k_74 k_1046) rfl rfl rfl hdX11_tree ⟨Nat.le_of_ble_eq_true rfl, Nat.le_of_ble_eq_true rfl⟩) (fb_pV hP hD hS hA hK hN hZ [0, 2, 3, 4, 5] rfl rfl [1, 2, 3, 4] rfl (q0 := 0) (ci := 11) rfl rfl) rfl rfl hl.1 rfl (lv_room (Nat.le_of_ble_eq_true rfl)) dX11_findLengths_32 ⟨Nat.le_of_ble_eq_true rfl, Nat.le_of_ble_eq_true rfl⟩) hP hD hS hA [0, 2, 3, 4, 5] [1] rfl rfl rfl (by decide) [1, 0, 2, 3, 4, 5] rfl rfl (fun H locs hP hD hS => ?_)
      refine lv_iload_n hx hb dX11_findLengths_35 rfl (lv_at hl 2 rfl) ?_
      refine lv_icmp_le (tgt := 75) hx hb dX11_findLengths_36 (by decide) (fun c5 => ?_) (fun c5 => ?_)
      · replace h := fb_t c5 h
        have hu := Option.some.inj h
        exact hret _ _ _ _ dX11_findLengths_75 (by rw [← hu]; exact hP) (by rw [← hu]; exact hD) hS
      · replace h := fb_f c5 h
        refine lv_iconst (v := (0 : Int32)) hx hb dX11_findLengths_39 (by decide) ?_
        refine lv_istore (lv' := [(4, .int (0 : Int32)), (0, .ref o), (1, .int x1), (2, .int x2), (3, .ref a3)]) hx hb dX11_findLengths_40 hl (by decide) rfl (fun ls hl => ?_)
        exact wB42 (pX11_findLengths_b29 o_counts_n o_alone_n o_parents_n a3_n x1 x2 n) ih fb_F u4.2.1 u4.2.2.1 u4.2.2.2.1 u4.2.2.2.2 (0 : Int32) _ _ _ hP hD hS (lv_sub hl [1, 2, 3, 4, 0] rfl) h
  have wB3 : ∀ n : Nat, ∀ (o_counts_v : Nat → Int32) (o_alone_v : Nat → Int32) (o_parents_v : Nat → Int32) (a3_v : Nat → Int32) (x4 : Int32) (H : Heap) (locs : List Loc) (ls : Array Slot), va_P (dC, dI) fb_cl [(o, .inr (11, [.int o_textRoom, .int o_byteRoom, .int o_chain, .ref o_text, .int o_textSize, .ref o_packed, .int o_packedSize, .int o_matches, .ref o_loaded, .int o_loadedSize, .ref o_out, .int o_outSize, .int o_bits, .int o_tokens, .ref o_lengths, .ref o_distances, .ref o_heads, .ref o_earlier, .ref o_often, .ref o_symbolLengths, .ref o_distanceLengths, .ref o_lengthLengths, .ref o_symbolCodes, .ref o_distanceCodes, .ref o_lengthCodes, .ref o_counts, .ref o_parents, .ref o_alone, .ref o_row, .int o_told, .ref o_toldSymbols, .ref o_toldNumbers, .int o_place, .int o_fail, .int o_found, .int o_symbolCount, .int o_distanceCount, .int o_lengthCount])), (o_often, .inl (o_often_c, o_often_n, .inl o_often_v)), (o_counts, .inl (o_counts_c, o_counts_n, .inl o_counts_v)), (o_alone, .inl (o_alone_c, o_alone_n, .inl o_alone_v)), (o_parents, .inl (o_parents_c, o_parents_n, .inl o_parents_v)), (a3, .inl (a3_c, a3_n, .inl a3_v))] H → va_D A [(o, .inr (11, [.int o_textRoom, .int o_byteRoom, .int o_chain, .ref o_text, .int o_textSize, .ref o_packed, .int o_packedSize, .int o_matches, .ref o_loaded, .int o_loadedSize, .ref o_out, .int o_outSize, .int o_bits, .int o_tokens, .ref o_lengths, .ref o_distances, .ref o_heads, .ref o_earlier, .ref o_often, .ref o_symbolLengths, .ref o_distanceLengths, .ref o_lengthLengths, .ref o_symbolCodes, .ref o_distanceCodes, .ref o_lengthCodes, .ref o_counts, .ref o_parents, .ref o_alone, .ref o_row, .int o_told, .ref o_toldSymbols, .ref o_toldNumbers, .int o_place, .int o_fail, .int o_found, .int o_symbolCount, .int o_distanceCount, .int o_lengthCount])), (o_often, .inl (o_often_c, o_often_n, .inl o_often_v)), (o_counts, .inl (o_counts_c, o_counts_n, .inl o_counts_v)), (o_alone, .inl (o_alone_c, o_alone_n, .inl o_alone_v)), (o_parents, .inl (o_parents_c, o_parents_n, .inl o_parents_v)), (a3, .inl (a3_c, a3_n, .inl a3_v))] → va_S A s.heap H locs → lv_has ls 5 [(0, .ref o), (1, .int x1), (2, .int x2), (3, .ref a3), (4, .int x4)] → pX11_findLengths_b3 o_often_n o_counts_n o_alone_n o_parents_n a3_n o_often_v x1 x2 n o_counts_v o_alone_v o_parents_v a3_v x4 = some u → W p l e ({ frames := 2, cells := 0, slots := 0, locals := 51 }) s m args below meth c H locs 0 0 Q (F0 m 3 ls []) := by
    intro n
    induction n with
    | zero => intro o_counts_v o_alone_v o_parents_v a3_v x4 H locs ls hP hD hS hl h; cases h
    | succ n ih =>
      intro o_counts_v o_alone_v o_parents_v a3_v x4 H locs ls hP hD hS hl h
      rw [pX11_findLengths_b3] at h
      refine lv_iload hx hb dX11_findLengths_3 (lv_at hl 4 rfl) ?_
      refine lv_iload_n hx hb dX11_findLengths_5 rfl (lv_at hl 1 rfl) ?_
      refine lv_icmp_ge (tgt := 29) hx hb dX11_findLengths_6 (by decide) (fun c6 => ?_) (fun c6 => ?_)
      · replace h := fb_t c6 h
        exact wB29 fb_F o_counts_v o_alone_v o_parents_v a3_v _ _ _ hP hD hS (lv_sub hl [0, 1, 2, 3] rfl) h
      · replace h := fb_f c6 h
        refine lv_aload_n hx hb dX11_findLengths_9 rfl (lv_at hl 0 rfl) ?_
        refine va_get (D := (dC, dI)) (ci := 11) (v := .ref o_counts) (C := RX11) (T := TX11) (N := 38) hx hb hts i_X11 hown hK hP 0 rfl rfl 25 (by decide) (hts _ k_862) (fun _ h9 => h9) rfl dX11_findLengths_10 ?_
        refine lv_iload hx hb dX11_findLengths_13 (lv_at hl 4 rfl) ?_
        refine lv_aload_n hx hb dX11_findLengths_15 rfl (lv_at hl 0 rfl) ?_
        refine va_get (D := (dC, dI)) (ci := 11) (v := .ref o_often) (C := RX11) (T := TX11) (N := 38) hx hb hts i_X11 hown hK hP 0 rfl rfl 18 (by decide) (hts _ k_855) (fun _ h9 => h9) rfl dX11_findLengths_16 ?_
        refine lv_iload hx hb dX11_findLengths_19 (lv_at hl 4 rfl) ?_
        obtain ⟨g7, h⟩ := fb_g h
        refine va_iald hx hb hK hP 1 0 rfl rfl g7 dX11_findLengths_21 ?_
        obtain ⟨g8, h⟩ := fb_g h
        refine va_iast hx hb hK hP hD hS 2 1 rfl rfl g8 dX11_findLengths_22 (fun H locs hP hD hS => ?_)
        replace hP : va_P (dC, dI) fb_cl [(o, .inr (11, [.int o_textRoom, .int o_byteRoom, .int o_chain, .ref o_text, .int o_textSize, .ref o_packed, .int o_packedSize, .int o_matches, .ref o_loaded, .int o_loadedSize, .ref o_out, .int o_outSize, .int o_bits, .int o_tokens, .ref o_lengths, .ref o_distances, .ref o_heads, .ref o_earlier, .ref o_often, .ref o_symbolLengths, .ref o_distanceLengths, .ref o_lengthLengths, .ref o_symbolCodes, .ref o_distanceCodes, .ref o_lengthCodes, .ref o_counts, .ref o_parents, .ref o_alone, .ref o_row, .int o_told, .ref o_toldSymbols, .ref o_toldNumbers, .int o_place, .int o_fail, .int o_found, .int o_symbolCount, .int o_distanceCount, .int o_lengthCount])), (o_often, .inl (o_often_c, o_often_n, .inl o_often_v)), (o_counts, .inl (o_counts_c, o_counts_n, .inl (upd o_counts_v (x4).toNatClampNeg (o_often_v (x4).toNatClampNeg)))), (o_alone, .inl (o_alone_c, o_alone_n, .inl o_alone_v)), (o_parents, .inl (o_parents_c, o_parents_n, .inl o_parents_v)), (a3, .inl (a3_c, a3_n, .inl a3_v))] H := hP
        replace hD : va_D A [(o, .inr (11, [.int o_textRoom, .int o_byteRoom, .int o_chain, .ref o_text, .int o_textSize, .ref o_packed, .int o_packedSize, .int o_matches, .ref o_loaded, .int o_loadedSize, .ref o_out, .int o_outSize, .int o_bits, .int o_tokens, .ref o_lengths, .ref o_distances, .ref o_heads, .ref o_earlier, .ref o_often, .ref o_symbolLengths, .ref o_distanceLengths, .ref o_lengthLengths, .ref o_symbolCodes, .ref o_distanceCodes, .ref o_lengthCodes, .ref o_counts, .ref o_parents, .ref o_alone, .ref o_row, .int o_told, .ref o_toldSymbols, .ref o_toldNumbers, .int o_place, .int o_fail, .int o_found, .int o_symbolCount, .int o_distanceCount, .int o_lengthCount])), (o_often, .inl (o_often_c, o_often_n, .inl o_often_v)), (o_counts, .inl (o_counts_c, o_counts_n, .inl (upd o_counts_v (x4).toNatClampNeg (o_often_v (x4).toNatClampNeg)))), (o_alone, .inl (o_alone_c, o_alone_n, .inl o_alone_v)), (o_parents, .inl (o_parents_c, o_parents_n, .inl o_parents_v)), (a3, .inl (a3_c, a3_n, .inl a3_v))] := hD
        refine lv_iinc (v := (x4 + (1 : Int32))) (lv' := [(4, .int (x4 + (1 : Int32))), (0, .ref o), (1, .int x1), (2, .int x2), (3, .ref a3)]) hx hb dX11_findLengths_23 hl (k := 4) rfl rfl (by decide) rfl (fun ls hl => ?_)
        refine lv_goto (tgt := 3) hx hb dX11_findLengths_26 (by decide) ?_
        exact ih (upd o_counts_v (x4).toNatClampNeg (o_often_v (x4).toNatClampNeg)) o_alone_v o_parents_v a3_v (x4 + (1 : Int32)) _ _ _ hP hD hS (lv_sub hl [1, 2, 3, 4, 0] rfl) h
  unfold pX11_findLengths at h
  refine lv_iconst (v := (0 : Int32)) hx hb dX11_findLengths_0 (by decide) ?_
  refine lv_istore (lv' := [(4, .int (0 : Int32)), (0, .ref o), (1, .int x1), (2, .int x2), (3, .ref a3)]) hx hb dX11_findLengths_1 hl (by decide) rfl (fun ls hl => ?_)
  exact wB3 fb_F o_counts_v o_alone_v o_parents_v a3_v (0 : Int32) _ _ _ hP hD hS (lv_sub hl [1, 2, 3, 4, 0] rfl) h
theorem dX11_findCodes_0 : decode cX11_findCodes 0 = .ok (.iconst 0, 1) := by decide +kernel
theorem dX11_findCodes_1 : decode cX11_findCodes 1 = .ok (.istore 4, 2) := by decide +kernel
theorem dX11_findCodes_3 : decode cX11_findCodes 3 = .ok (.iconst 1, 1) := by decide +kernel
theorem dX11_findCodes_4 : decode cX11_findCodes 4 = .ok (.istore 5, 2) := by decide +kernel
theorem dX11_findCodes_6 : decode cX11_findCodes 6 = .ok (.iload 5, 2) := by decide +kernel
theorem dX11_findCodes_8 : decode cX11_findCodes 8 = .ok (.bipush 15, 2) := by decide +kernel
theorem dX11_findCodes_10 : decode cX11_findCodes 10 = .ok (.if_icmp .gt 48, 3) := by decide +kernel
theorem dX11_findCodes_13 : decode cX11_findCodes 13 = .ok (.iconst 0, 1) := by decide +kernel
theorem dX11_findCodes_14 : decode cX11_findCodes 14 = .ok (.istore 6, 2) := by decide +kernel
theorem dX11_findCodes_16 : decode cX11_findCodes 16 = .ok (.iload 6, 2) := by decide +kernel
theorem dX11_findCodes_18 : decode cX11_findCodes 18 = .ok (.iload_n 1, 1) := by decide +kernel
theorem dX11_findCodes_19 : decode cX11_findCodes 19 = .ok (.if_icmp .ge 27, 3) := by decide +kernel
theorem dX11_findCodes_22 : decode cX11_findCodes 22 = .ok (.aload_n 2, 1) := by decide +kernel
theorem dX11_findCodes_23 : decode cX11_findCodes 23 = .ok (.iload 6, 2) := by decide +kernel
theorem dX11_findCodes_25 : decode cX11_findCodes 25 = .ok (.iaload, 1) := by decide +kernel
theorem dX11_findCodes_26 : decode cX11_findCodes 26 = .ok (.iload 5, 2) := by decide +kernel
theorem dX11_findCodes_28 : decode cX11_findCodes 28 = .ok (.if_icmp .ne 12, 3) := by decide +kernel
theorem dX11_findCodes_31 : decode cX11_findCodes 31 = .ok (.aload_n 3, 1) := by decide +kernel
theorem dX11_findCodes_32 : decode cX11_findCodes 32 = .ok (.iload 6, 2) := by decide +kernel
theorem dX11_findCodes_34 : decode cX11_findCodes 34 = .ok (.iload 4, 2) := by decide +kernel
theorem dX11_findCodes_36 : decode cX11_findCodes 36 = .ok (.iastore, 1) := by decide +kernel
theorem dX11_findCodes_37 : decode cX11_findCodes 37 = .ok (.iinc 4 1, 3) := by decide +kernel
theorem dX11_findCodes_40 : decode cX11_findCodes 40 = .ok (.iinc 6 1, 3) := by decide +kernel
theorem dX11_findCodes_43 : decode cX11_findCodes 43 = .ok (.goto (-27), 3) := by decide +kernel
theorem dX11_findCodes_46 : decode cX11_findCodes 46 = .ok (.iload 4, 2) := by decide +kernel
theorem dX11_findCodes_48 : decode cX11_findCodes 48 = .ok (.iconst 2, 1) := by decide +kernel
theorem dX11_findCodes_49 : decode cX11_findCodes 49 = .ok (.imul, 1) := by decide +kernel
theorem dX11_findCodes_50 : decode cX11_findCodes 50 = .ok (.istore 4, 2) := by decide +kernel
theorem dX11_findCodes_52 : decode cX11_findCodes 52 = .ok (.iinc 5 1, 3) := by decide +kernel
theorem dX11_findCodes_55 : decode cX11_findCodes 55 = .ok (.goto (-49), 3) := by decide +kernel
theorem dX11_findCodes_58 : decode cX11_findCodes 58 = .ok (.return_, 1) := by decide +kernel
def pX11_findCodes_b16 (a2_n : Nat) (a3_n : Nat) (a2_v : Nat → Int32) (x1 : Int32) (K6 : (Nat → Int32) → Int32 → Int32 → Option ((Nat → Int32))) : Nat → (Nat → Int32) → Int32 → Int32 → Int32 → Option ((Nat → Int32))
  | 0 => fun _ _ _ _ => none
  | n + 1 => fun a3_v x4 x5 x6 =>
  if x1 ≤ x6 then
  (K6 a3_v (x4 * (2 : Int32)) (x5 + (1 : Int32)))
  else
  (if x6 < 0 ∨ a2_n ≤ (x6).toNatClampNeg then none else
  if (a2_v (x6).toNatClampNeg) = x5 then
  (if x6 < 0 ∨ a3_n ≤ (x6).toNatClampNeg then none else
  (pX11_findCodes_b16 a2_n a3_n a2_v x1 K6 n) (upd a3_v (x6).toNatClampNeg x4) (x4 + (1 : Int32)) x5 (x6 + (1 : Int32)))
  else
  ((pX11_findCodes_b16 a2_n a3_n a2_v x1 K6 n) a3_v x4 x5 (x6 + (1 : Int32))))
def pX11_findCodes_b6 (a2_n : Nat) (a3_n : Nat) (a2_v : Nat → Int32) (x1 : Int32)  : Nat → (Nat → Int32) → Int32 → Int32 → Option ((Nat → Int32))
  | 0 => fun _ _ _ => none
  | n + 1 => fun a3_v x4 x5 =>
  if (15 : Int32) < x5 then
  (some (a3_v))
  else
  (pX11_findCodes_b16 a2_n a3_n a2_v x1 (pX11_findCodes_b6 a2_n a3_n a2_v x1 n) fb_F a3_v x4 x5 (0 : Int32))
def pX11_findCodes (a2_n : Nat) (a3_n : Nat) (a2_v : Nat → Int32) (x1 : Int32)  (a3_v : Nat → Int32) : Option ((Nat → Int32)) :=
  pX11_findCodes_b6 a2_n a3_n a2_v x1 fb_F a3_v (0 : Int32) (1 : Int32)
theorem hdX11_findCodes : yX11_findCodes.cls = RX11 ∧ yX11_findCodes.cls ≠ "java/lang/invoke/MethodHandle" ∧ yX11_findCodes.cls ≠ "java/lang/invoke/VarHandle" ∧ (parseMethodDescriptor yX11_findCodes.desc).map (fun d => d.parameters.length) = some 3 := by decide +kernel
set_option maxHeartbeats 8000000 in
set_option maxRecDepth 100000 in
theorem mX11_findCodes (l : Launch) (dC : Nat → ClassId) (dI : Nat → Nat → Nat) (o : Nat) (a2 : Nat) (a3 : Nat) (a2_c : ClassId) (a3_c : ClassId) (a2_n : Nat) (a3_n : Nat) (a2_v : Nat → Int32) (a3_v : Nat → Int32) (x1 : Int32) (sz : Nat) (u : (Nat → Int32)) (h : pX11_findCodes a2_n a3_n a2_v x1 a3_v = some u) : Met l yX11_findCodes (Cond.code yX11_findCodes cX11_findCodes 7 none :: fb_tb) ({ frames := 0, cells := 0, slots := 0, locals := 0 }) (fb_Pc (dC, dI) [.ref o, .int x1, .ref a2, .ref a3] sz [(a2_c, .int), (a3_c, .int)] [(a2, .inl (a2_c, a2_n, .inl a2_v)), (a3, .inl (a3_c, a3_n, .inl a3_v))]) (fb_Qv (dC, dI) [(a2, .inl (a2_c, a2_n, .inl a2_v)), (a3, .inl (a3_c, a3_n, .inl u))] (va_A [(a2, .inl (a2_c, a2_n, .inl a2_v)), (a3, .inl (a3_c, a3_n, .inl a3_v))] sz)) 0 0 (va_A [(a2, .inl (a2_c, a2_n, .inl a2_v)), (a3, .inl (a3_c, a3_n, .inl a3_v))] sz) := by
  refine fb_metv (by decide) (Nat.le_of_ble_eq_true rfl) (fun p e s m args below meth c A Q ls H hx hb hml hown hts hP hK hN hZ hD hA hS hret hl => ?_)
  replace hl : lv_has ls 7 [(0, .ref o), (1, .int x1), (2, .ref a2), (3, .ref a3)] := hl
  have wB16 : ∀ (K6 : (Nat → Int32) → Int32 → Int32 → Option ((Nat → Int32))), (∀ (a3_v : Nat → Int32) (x4 : Int32) (x5 : Int32) (H : Heap) (locs : List Loc) (ls : Array Slot), va_P (dC, dI) fb_cl [(a2, .inl (a2_c, a2_n, .inl a2_v)), (a3, .inl (a3_c, a3_n, .inl a3_v))] H → va_D A [(a2, .inl (a2_c, a2_n, .inl a2_v)), (a3, .inl (a3_c, a3_n, .inl a3_v))] → va_S A s.heap H locs → lv_has ls 7 [(1, .int x1), (2, .ref a2), (3, .ref a3), (4, .int x4), (5, .int x5)] → K6 a3_v x4 x5 = some u → W p l e ({ frames := 0, cells := 0, slots := 0, locals := 0 }) s m args below meth c H locs 0 0 Q (F0 m 6 ls [])) → ∀ n : Nat, ∀ (a3_v : Nat → Int32) (x4 : Int32) (x5 : Int32) (x6 : Int32) (H : Heap) (locs : List Loc) (ls : Array Slot), va_P (dC, dI) fb_cl [(a2, .inl (a2_c, a2_n, .inl a2_v)), (a3, .inl (a3_c, a3_n, .inl a3_v))] H → va_D A [(a2, .inl (a2_c, a2_n, .inl a2_v)), (a3, .inl (a3_c, a3_n, .inl a3_v))] → va_S A s.heap H locs → lv_has ls 7 [(1, .int x1), (2, .ref a2), (3, .ref a3), (4, .int x4), (5, .int x5), (6, .int x6)] → pX11_findCodes_b16 a2_n a3_n a2_v x1 K6 n a3_v x4 x5 x6 = some u → W p l e ({ frames := 0, cells := 0, slots := 0, locals := 0 }) s m args below meth c H locs 0 0 Q (F0 m 16 ls []) := by
    intro K6 hK6 n
    induction n with
    | zero => intro a3_v x4 x5 x6 H locs ls hP hD hS hl h; cases h
    | succ n ih =>
      intro a3_v x4 x5 x6 H locs ls hP hD hS hl h
      rw [pX11_findCodes_b16] at h
      refine lv_iload hx hb dX11_findCodes_16 (lv_at hl 5 rfl) ?_
      refine lv_iload_n hx hb dX11_findCodes_18 rfl (lv_at hl 0 rfl) ?_
      refine lv_icmp_ge (tgt := 46) hx hb dX11_findCodes_19 (by decide) (fun c1 => ?_) (fun c1 => ?_)
      · replace h := fb_t c1 h
        refine lv_iload hx hb dX11_findCodes_46 (lv_at hl 3 rfl) ?_
        refine lv_iconst (v := (2 : Int32)) hx hb dX11_findCodes_48 (by decide) ?_
        refine lv_imul hx hb dX11_findCodes_49 ?_
        refine lv_istore (lv' := [(4, .int (x4 * (2 : Int32))), (1, .int x1), (2, .ref a2), (3, .ref a3), (5, .int x5), (6, .int x6)]) hx hb dX11_findCodes_50 hl (by decide) rfl (fun ls hl => ?_)
        refine lv_iinc (v := (x5 + (1 : Int32))) (lv' := [(5, .int (x5 + (1 : Int32))), (4, .int (x4 * (2 : Int32))), (1, .int x1), (2, .ref a2), (3, .ref a3), (6, .int x6)]) hx hb dX11_findCodes_52 hl (k := 4) rfl rfl (by decide) rfl (fun ls hl => ?_)
        refine lv_goto (tgt := 6) hx hb dX11_findCodes_55 (by decide) ?_
        exact hK6 a3_v (x4 * (2 : Int32)) (x5 + (1 : Int32)) _ _ _ hP hD hS (lv_sub hl [2, 3, 4, 1, 0] rfl) h
      · replace h := fb_f c1 h
        refine lv_aload_n hx hb dX11_findCodes_22 rfl (lv_at hl 1 rfl) ?_
        refine lv_iload hx hb dX11_findCodes_23 (lv_at hl 5 rfl) ?_
        obtain ⟨g2, h⟩ := fb_g h
        refine va_iald hx hb hK hP 0 0 rfl rfl g2 dX11_findCodes_25 ?_
        refine lv_iload hx hb dX11_findCodes_26 (lv_at hl 4 rfl) ?_
        refine lv_icmp_ne (tgt := 40) hx hb dX11_findCodes_28 (by decide) (fun c3 => ?_) (fun c3 => ?_)
        · replace h := fb_f c3 h
          refine lv_iinc (v := (x6 + (1 : Int32))) (lv' := [(6, .int (x6 + (1 : Int32))), (1, .int x1), (2, .ref a2), (3, .ref a3), (4, .int x4), (5, .int x5)]) hx hb dX11_findCodes_40 hl (k := 5) rfl rfl (by decide) rfl (fun ls hl => ?_)
          refine lv_goto (tgt := 16) hx hb dX11_findCodes_43 (by decide) ?_
          exact ih a3_v x4 x5 (x6 + (1 : Int32)) _ _ _ hP hD hS (lv_sub hl [1, 2, 3, 4, 5, 0] rfl) h
        · replace h := fb_t c3 h
          refine lv_aload_n hx hb dX11_findCodes_31 rfl (lv_at hl 2 rfl) ?_
          refine lv_iload hx hb dX11_findCodes_32 (lv_at hl 5 rfl) ?_
          refine lv_iload hx hb dX11_findCodes_34 (lv_at hl 3 rfl) ?_
          obtain ⟨g4, h⟩ := fb_g h
          refine va_iast hx hb hK hP hD hS 1 1 rfl rfl g4 dX11_findCodes_36 (fun H locs hP hD hS => ?_)
          replace hP : va_P (dC, dI) fb_cl [(a2, .inl (a2_c, a2_n, .inl a2_v)), (a3, .inl (a3_c, a3_n, .inl (upd a3_v (x6).toNatClampNeg x4)))] H := hP
          replace hD : va_D A [(a2, .inl (a2_c, a2_n, .inl a2_v)), (a3, .inl (a3_c, a3_n, .inl (upd a3_v (x6).toNatClampNeg x4)))] := hD
          refine lv_iinc (v := (x4 + (1 : Int32))) (lv' := [(4, .int (x4 + (1 : Int32))), (1, .int x1), (2, .ref a2), (3, .ref a3), (5, .int x5), (6, .int x6)]) hx hb dX11_findCodes_37 hl (k := 3) rfl rfl (by decide) rfl (fun ls hl => ?_)
          refine lv_iinc (v := (x6 + (1 : Int32))) (lv' := [(6, .int (x6 + (1 : Int32))), (4, .int (x4 + (1 : Int32))), (1, .int x1), (2, .ref a2), (3, .ref a3), (5, .int x5)]) hx hb dX11_findCodes_40 hl (k := 5) rfl rfl (by decide) rfl (fun ls hl => ?_)
          refine lv_goto (tgt := 16) hx hb dX11_findCodes_43 (by decide) ?_
          exact ih (upd a3_v (x6).toNatClampNeg x4) (x4 + (1 : Int32)) x5 (x6 + (1 : Int32)) _ _ _ hP hD hS (lv_sub hl [2, 3, 4, 1, 5, 0] rfl) h
  have wB6 : ∀ n : Nat, ∀ (a3_v : Nat → Int32) (x4 : Int32) (x5 : Int32) (H : Heap) (locs : List Loc) (ls : Array Slot), va_P (dC, dI) fb_cl [(a2, .inl (a2_c, a2_n, .inl a2_v)), (a3, .inl (a3_c, a3_n, .inl a3_v))] H → va_D A [(a2, .inl (a2_c, a2_n, .inl a2_v)), (a3, .inl (a3_c, a3_n, .inl a3_v))] → va_S A s.heap H locs → lv_has ls 7 [(1, .int x1), (2, .ref a2), (3, .ref a3), (4, .int x4), (5, .int x5)] → pX11_findCodes_b6 a2_n a3_n a2_v x1 n a3_v x4 x5 = some u → W p l e ({ frames := 0, cells := 0, slots := 0, locals := 0 }) s m args below meth c H locs 0 0 Q (F0 m 6 ls []) := by
    intro n
    induction n with
    | zero => intro a3_v x4 x5 H locs ls hP hD hS hl h; cases h
    | succ n ih =>
      intro a3_v x4 x5 H locs ls hP hD hS hl h
      rw [pX11_findCodes_b6] at h
      refine lv_iload hx hb dX11_findCodes_6 (lv_at hl 4 rfl) ?_
      refine lv_bipush (v := (15 : Int32)) hx hb dX11_findCodes_8 (by decide) ?_
      refine lv_icmp_gt (tgt := 58) hx hb dX11_findCodes_10 (by decide) (fun c5 => ?_) (fun c5 => ?_)
      · replace h := fb_t c5 h
        have hu := Option.some.inj h
        exact hret _ _ _ _ dX11_findCodes_58 (by rw [← hu]; exact hP) (by rw [← hu]; exact hD) hS
      · replace h := fb_f c5 h
        refine lv_iconst (v := (0 : Int32)) hx hb dX11_findCodes_13 (by decide) ?_
        refine lv_istore (lv' := [(6, .int (0 : Int32)), (1, .int x1), (2, .ref a2), (3, .ref a3), (4, .int x4), (5, .int x5)]) hx hb dX11_findCodes_14 hl (by decide) rfl (fun ls hl => ?_)
        exact wB16 (pX11_findCodes_b6 a2_n a3_n a2_v x1 n) ih fb_F a3_v x4 x5 (0 : Int32) _ _ _ hP hD hS (lv_sub hl [1, 2, 3, 4, 5, 0] rfl) h
  unfold pX11_findCodes at h
  refine lv_iconst (v := (0 : Int32)) hx hb dX11_findCodes_0 (by decide) ?_
  refine lv_istore (lv' := [(4, .int (0 : Int32)), (0, .ref o), (1, .int x1), (2, .ref a2), (3, .ref a3)]) hx hb dX11_findCodes_1 hl (by decide) rfl (fun ls hl => ?_)
  refine lv_iconst (v := (1 : Int32)) hx hb dX11_findCodes_3 (by decide) ?_
  refine lv_istore (lv' := [(5, .int (1 : Int32)), (4, .int (0 : Int32)), (0, .ref o), (1, .int x1), (2, .ref a2), (3, .ref a3)]) hx hb dX11_findCodes_4 hl (by decide) rfl (fun ls hl => ?_)
  exact wB6 fb_F a3_v (0 : Int32) (1 : Int32) _ _ _ hP hD hS (lv_sub hl [3, 4, 5, 1, 0] rfl) h
