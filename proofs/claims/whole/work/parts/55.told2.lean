/-! ### a told block: the road of its codes as a program of its own -/
def q_readCodes_b75 (o_row_n : Nat) (o_symbols_lengths_n : Nat) (o_symbols_ofLength_n : Nat) (o_symbols_firstCode_n : Nat) (o_symbols_firstPlace_n : Nat) (o_symbols_given_n : Nat) (o_symbols_codes_n : Nat) (o_symbols_byCode_n : Nat) (o_distances_lengths_n : Nat) (o_distances_ofLength_n : Nat) (o_distances_firstCode_n : Nat) (o_distances_firstPlace_n : Nat) (o_distances_given_n : Nat) (o_distances_codes_n : Nat) (o_distances_byCode_n : Nat)  (o_in_taken : Int32) (o_telling_longest : Int32) (o_telling_lengths_v : Nat → Int32) (o_telling_ofLength_v : Nat → Int32) (o_telling_firstCode_v : Nat → Int32) (o_telling_firstPlace_v : Nat → Int32) (o_telling_given_v : Nat → Int32) (o_telling_codes_v : Nat → Int32) (o_telling_byCode_v : Nat → Int32) (o_row_v : Nat → Int32) (o_symbols_longest : Int32) (o_symbols_lengths_v : Nat → Int32) (o_symbols_ofLength_v : Nat → Int32) (o_symbols_firstCode_v : Nat → Int32) (o_symbols_firstPlace_v : Nat → Int32) (o_symbols_given_v : Nat → Int32) (o_symbols_codes_v : Nat → Int32) (o_symbols_byCode_v : Nat → Int32) (o_distances_longest : Int32) (o_distances_lengths_v : Nat → Int32) (o_distances_ofLength_v : Nat → Int32) (o_distances_firstCode_v : Nat → Int32) (o_distances_firstPlace_v : Nat → Int32) (o_distances_given_v : Nat → Int32) (o_distances_codes_v : Nat → Int32) (o_distances_byCode_v : Nat → Int32) (x2 : Int32) (x3 : Int32) (x4 : Int32) : Option (Int32 × Int32 × Int32 × (Nat → Int32) × (Nat → Int32) × (Nat → Int32) × (Nat → Int32) × (Nat → Int32) × (Nat → Int32) × (Nat → Int32) × (Nat → Int32) × Int32 × (Nat → Int32) × (Nat → Int32) × (Nat → Int32) × (Nat → Int32) × (Nat → Int32) × (Nat → Int32) × (Nat → Int32) × Int32 × (Nat → Int32) × (Nat → Int32) × (Nat → Int32) × (Nat → Int32) × (Nat → Int32) × (Nat → Int32) × (Nat → Int32)) :=
  if x4 = 0 then
  ((pX2_tell o_symbols_lengths_n o_row_n o_row_v (0 : Int32) x2 o_symbols_lengths_v).bind (fun u2 =>
  (pX2_assign o_symbols_ofLength_n o_symbols_lengths_n o_symbols_firstCode_n o_symbols_firstPlace_n o_symbols_given_n o_symbols_codes_n o_symbols_byCode_n u2 o_symbols_ofLength_v o_symbols_firstCode_v o_symbols_firstPlace_v o_symbols_given_v o_symbols_codes_v o_symbols_byCode_v).bind (fun u3 =>
  (pX2_tell o_distances_lengths_n o_row_n o_row_v x2 x3 o_distances_lengths_v).bind (fun u4 =>
  (pX2_assign o_distances_ofLength_n o_distances_lengths_n o_distances_firstCode_n o_distances_firstPlace_n o_distances_given_n o_distances_codes_n o_distances_byCode_n u4 o_distances_ofLength_v o_distances_firstCode_v o_distances_firstPlace_v o_distances_given_v o_distances_codes_v o_distances_byCode_v).bind (fun u5 =>
  (pX9_areUsable o_symbols_lengths_n o_symbols_ofLength_n o_distances_ofLength_n u3.1 u2 u3.2.1 u5.1 u5.2.1).bind (fun u6 =>
  if u6 = 0 then
  (some ((4 : Int32), o_in_taken, o_telling_longest, o_telling_lengths_v, o_telling_ofLength_v, o_telling_firstCode_v, o_telling_firstPlace_v, o_telling_given_v, o_telling_codes_v, o_telling_byCode_v, o_row_v, u3.1, u2, u3.2.1, u3.2.2.1, u3.2.2.2.1, u3.2.2.2.2.1, u3.2.2.2.2.2.1, u3.2.2.2.2.2.2, u5.1, u4, u5.2.1, u5.2.2.1, u5.2.2.2.1, u5.2.2.2.2.1, u5.2.2.2.2.2.1, u5.2.2.2.2.2.2))
  else
  (some ((0 : Int32), o_in_taken, o_telling_longest, o_telling_lengths_v, o_telling_ofLength_v, o_telling_firstCode_v, o_telling_firstPlace_v, o_telling_given_v, o_telling_codes_v, o_telling_byCode_v, o_row_v, u3.1, u2, u3.2.1, u3.2.2.1, u3.2.2.2.1, u3.2.2.2.2.1, u3.2.2.2.2.2.1, u3.2.2.2.2.2.2, u5.1, u4, u5.2.1, u5.2.2.1, u5.2.2.2.1, u5.2.2.2.2.1, u5.2.2.2.2.2.1, u5.2.2.2.2.2.2))))))))
  else
  (some (x4, o_in_taken, o_telling_longest, o_telling_lengths_v, o_telling_ofLength_v, o_telling_firstCode_v, o_telling_firstPlace_v, o_telling_given_v, o_telling_codes_v, o_telling_byCode_v, o_row_v, o_symbols_longest, o_symbols_lengths_v, o_symbols_ofLength_v, o_symbols_firstCode_v, o_symbols_firstPlace_v, o_symbols_given_v, o_symbols_codes_v, o_symbols_byCode_v, o_distances_longest, o_distances_lengths_v, o_distances_ofLength_v, o_distances_firstCode_v, o_distances_firstPlace_v, o_distances_given_v, o_distances_codes_v, o_distances_byCode_v))
def q_readCodes (o_in_row_bytes_n : Nat) (o_telling_lengths_n : Nat) (o_telling_ofLength_n : Nat) (o_telling_firstCode_n : Nat) (o_telling_firstPlace_n : Nat) (o_telling_given_n : Nat) (o_telling_codes_n : Nat) (o_telling_byCode_n : Nat) (o_row_n : Nat) (o_symbols_lengths_n : Nat) (o_symbols_ofLength_n : Nat) (o_symbols_firstCode_n : Nat) (o_symbols_firstPlace_n : Nat) (o_symbols_given_n : Nat) (o_symbols_codes_n : Nat) (o_symbols_byCode_n : Nat) (o_distances_lengths_n : Nat) (o_distances_ofLength_n : Nat) (o_distances_firstCode_n : Nat) (o_distances_firstPlace_n : Nat) (o_distances_given_n : Nat) (o_distances_codes_n : Nat) (o_distances_byCode_n : Nat) (o_in_all : Int32) (o_in_row_bytes_v : Nat → Int32)  (o_in_taken : Int32) (o_telling_longest : Int32) (o_telling_lengths_v : Nat → Int32) (o_telling_ofLength_v : Nat → Int32) (o_telling_firstCode_v : Nat → Int32) (o_telling_firstPlace_v : Nat → Int32) (o_telling_given_v : Nat → Int32) (o_telling_codes_v : Nat → Int32) (o_telling_byCode_v : Nat → Int32) (o_row_v : Nat → Int32) (o_symbols_longest : Int32) (o_symbols_lengths_v : Nat → Int32) (o_symbols_ofLength_v : Nat → Int32) (o_symbols_firstCode_v : Nat → Int32) (o_symbols_firstPlace_v : Nat → Int32) (o_symbols_given_v : Nat → Int32) (o_symbols_codes_v : Nat → Int32) (o_symbols_byCode_v : Nat → Int32) (o_distances_longest : Int32) (o_distances_lengths_v : Nat → Int32) (o_distances_ofLength_v : Nat → Int32) (o_distances_firstCode_v : Nat → Int32) (o_distances_firstPlace_v : Nat → Int32) (o_distances_given_v : Nat → Int32) (o_distances_codes_v : Nat → Int32) (o_distances_byCode_v : Nat → Int32) : Option (Int32 × Int32 × Int32 × (Nat → Int32) × (Nat → Int32) × (Nat → Int32) × (Nat → Int32) × (Nat → Int32) × (Nat → Int32) × (Nat → Int32) × (Nat → Int32) × Int32 × (Nat → Int32) × (Nat → Int32) × (Nat → Int32) × (Nat → Int32) × (Nat → Int32) × (Nat → Int32) × (Nat → Int32) × Int32 × (Nat → Int32) × (Nat → Int32) × (Nat → Int32) × (Nat → Int32) × (Nat → Int32) × (Nat → Int32) × (Nat → Int32)) :=
  (pX0_number o_in_row_bytes_n o_in_all o_in_row_bytes_v (14 : Int32) o_in_taken).bind (fun u8 =>
  if 0 ≤ u8.1 then
  (if (286 : Int32) < ((257 : Int32) + (u8.1 &&& (31 : Int32))) then
  (some ((4 : Int32), u8.2, o_telling_longest, o_telling_lengths_v, o_telling_ofLength_v, o_telling_firstCode_v, o_telling_firstPlace_v, o_telling_given_v, o_telling_codes_v, o_telling_byCode_v, o_row_v, o_symbols_longest, o_symbols_lengths_v, o_symbols_ofLength_v, o_symbols_firstCode_v, o_symbols_firstPlace_v, o_symbols_given_v, o_symbols_codes_v, o_symbols_byCode_v, o_distances_longest, o_distances_lengths_v, o_distances_ofLength_v, o_distances_firstCode_v, o_distances_firstPlace_v, o_distances_given_v, o_distances_codes_v, o_distances_byCode_v))
  else
  (if ((1 : Int32) + ((u8.1 >>> ((5 : Int32) &&& 31)) &&& (31 : Int32))) ≤ (30 : Int32) then
  ((pX9_readTelling o_telling_lengths_n o_in_row_bytes_n o_telling_ofLength_n o_telling_firstCode_n o_telling_firstPlace_n o_telling_given_n o_telling_codes_n o_telling_byCode_n o_in_all o_in_row_bytes_v ((4 : Int32) + (u8.1 >>> ((10 : Int32) &&& 31))) o_telling_longest o_telling_lengths_v u8.2 o_telling_ofLength_v o_telling_firstCode_v o_telling_firstPlace_v o_telling_given_v o_telling_codes_v o_telling_byCode_v).bind (fun u12 =>
  if u12.1 = 0 then
  ((pX9_readLengths o_telling_firstCode_n o_telling_ofLength_n o_telling_firstPlace_n o_telling_byCode_n o_in_row_bytes_n o_row_n u12.2.1 u12.2.2.2.2.2.1 u12.2.2.2.2.1 u12.2.2.2.2.2.2.1 u12.2.2.2.2.2.2.2.2.2 o_in_all o_in_row_bytes_v (((257 : Int32) + (u8.1 &&& (31 : Int32))) + ((1 : Int32) + ((u8.1 >>> ((5 : Int32) &&& 31)) &&& (31 : Int32)))) u12.2.2.2.1 o_row_v).bind (fun u14 =>
  q_readCodes_b75 o_row_n o_symbols_lengths_n o_symbols_ofLength_n o_symbols_firstCode_n o_symbols_firstPlace_n o_symbols_given_n o_symbols_codes_n o_symbols_byCode_n o_distances_lengths_n o_distances_ofLength_n o_distances_firstCode_n o_distances_firstPlace_n o_distances_given_n o_distances_codes_n o_distances_byCode_n u14.2.1 u12.2.1 u12.2.2.1 u12.2.2.2.2.1 u12.2.2.2.2.2.1 u12.2.2.2.2.2.2.1 u12.2.2.2.2.2.2.2.1 u12.2.2.2.2.2.2.2.2.1 u12.2.2.2.2.2.2.2.2.2 u14.2.2 o_symbols_longest o_symbols_lengths_v o_symbols_ofLength_v o_symbols_firstCode_v o_symbols_firstPlace_v o_symbols_given_v o_symbols_codes_v o_symbols_byCode_v o_distances_longest o_distances_lengths_v o_distances_ofLength_v o_distances_firstCode_v o_distances_firstPlace_v o_distances_given_v o_distances_codes_v o_distances_byCode_v ((257 : Int32) + (u8.1 &&& (31 : Int32))) ((1 : Int32) + ((u8.1 >>> ((5 : Int32) &&& 31)) &&& (31 : Int32))) u14.1))
  else
  (q_readCodes_b75 o_row_n o_symbols_lengths_n o_symbols_ofLength_n o_symbols_firstCode_n o_symbols_firstPlace_n o_symbols_given_n o_symbols_codes_n o_symbols_byCode_n o_distances_lengths_n o_distances_ofLength_n o_distances_firstCode_n o_distances_firstPlace_n o_distances_given_n o_distances_codes_n o_distances_byCode_n u12.2.2.2.1 u12.2.1 u12.2.2.1 u12.2.2.2.2.1 u12.2.2.2.2.2.1 u12.2.2.2.2.2.2.1 u12.2.2.2.2.2.2.2.1 u12.2.2.2.2.2.2.2.2.1 u12.2.2.2.2.2.2.2.2.2 o_row_v o_symbols_longest o_symbols_lengths_v o_symbols_ofLength_v o_symbols_firstCode_v o_symbols_firstPlace_v o_symbols_given_v o_symbols_codes_v o_symbols_byCode_v o_distances_longest o_distances_lengths_v o_distances_ofLength_v o_distances_firstCode_v o_distances_firstPlace_v o_distances_given_v o_distances_codes_v o_distances_byCode_v ((257 : Int32) + (u8.1 &&& (31 : Int32))) ((1 : Int32) + ((u8.1 >>> ((5 : Int32) &&& 31)) &&& (31 : Int32))) u12.1)))
  else
  (some ((4 : Int32), u8.2, o_telling_longest, o_telling_lengths_v, o_telling_ofLength_v, o_telling_firstCode_v, o_telling_firstPlace_v, o_telling_given_v, o_telling_codes_v, o_telling_byCode_v, o_row_v, o_symbols_longest, o_symbols_lengths_v, o_symbols_ofLength_v, o_symbols_firstCode_v, o_symbols_firstPlace_v, o_symbols_given_v, o_symbols_codes_v, o_symbols_byCode_v, o_distances_longest, o_distances_lengths_v, o_distances_ofLength_v, o_distances_firstCode_v, o_distances_firstPlace_v, o_distances_given_v, o_distances_codes_v, o_distances_byCode_v))))
  else
  (some ((1 : Int32), u8.2, o_telling_longest, o_telling_lengths_v, o_telling_ofLength_v, o_telling_firstCode_v, o_telling_firstPlace_v, o_telling_given_v, o_telling_codes_v, o_telling_byCode_v, o_row_v, o_symbols_longest, o_symbols_lengths_v, o_symbols_ofLength_v, o_symbols_firstCode_v, o_symbols_firstPlace_v, o_symbols_given_v, o_symbols_codes_v, o_symbols_byCode_v, o_distances_longest, o_distances_lengths_v, o_distances_ofLength_v, o_distances_firstCode_v, o_distances_firstPlace_v, o_distances_given_v, o_distances_codes_v, o_distances_byCode_v)))
def q_then (o_in_row_bytes_n : Nat) (o_symbols_ofLength_n : Nat) (o_symbols_firstCode_n : Nat) (o_symbols_firstPlace_n : Nat) (o_symbols_byCode_n : Nat) (o_distances_ofLength_n : Nat) (o_distances_firstCode_n : Nat) (o_distances_firstPlace_n : Nat) (o_distances_byCode_n : Nat) (o_unpacked_bytes_n : Nat) (o_in_all : Int32) (o_in_row_bytes_v : Nat → Int32) (o_unpacked_size : Int32) (o_unpacked_bytes_v : Nat → Int32) (u1 : (Int32 × Int32 × Int32 × (Nat → Int32) × (Nat → Int32) × (Nat → Int32) × (Nat → Int32) × (Nat → Int32) × (Nat → Int32) × (Nat → Int32) × (Nat → Int32) × Int32 × (Nat → Int32) × (Nat → Int32) × (Nat → Int32) × (Nat → Int32) × (Nat → Int32) × (Nat → Int32) × (Nat → Int32) × Int32 × (Nat → Int32) × (Nat → Int32) × (Nat → Int32) × (Nat → Int32) × (Nat → Int32) × (Nat → Int32) × (Nat → Int32))) : Option (Int32 × Int32 × Int32 × (Nat → Int32) × (Nat → Int32) × (Nat → Int32) × (Nat → Int32) × (Nat → Int32) × (Nat → Int32) × (Nat → Int32) × (Nat → Int32) × Int32 × (Nat → Int32) × (Nat → Int32) × (Nat → Int32) × (Nat → Int32) × (Nat → Int32) × (Nat → Int32) × (Nat → Int32) × Int32 × (Nat → Int32) × (Nat → Int32) × (Nat → Int32) × (Nat → Int32) × (Nat → Int32) × (Nat → Int32) × (Nat → Int32) × Int32 × (Nat → Int32)) :=
  if u1.1 = 0 then
  ((pX9_readSymbols o_symbols_firstCode_n o_symbols_ofLength_n o_symbols_firstPlace_n o_symbols_byCode_n o_in_row_bytes_n o_unpacked_bytes_n o_distances_firstCode_n o_distances_ofLength_n o_distances_firstPlace_n o_distances_byCode_n o_in_all u1.2.2.2.2.2.2.2.2.2.2.2.1 u1.2.2.2.2.2.2.2.2.2.2.2.2.2.2.1 u1.2.2.2.2.2.2.2.2.2.2.2.2.2.1 u1.2.2.2.2.2.2.2.2.2.2.2.2.2.2.2.1 u1.2.2.2.2.2.2.2.2.2.2.2.2.2.2.2.2.2.2.1 o_in_row_bytes_v u1.2.2.2.2.2.2.2.2.2.2.2.2.2.2.2.2.2.2.2.1 u1.2.2.2.2.2.2.2.2.2.2.2.2.2.2.2.2.2.2.2.2.2.2.1 u1.2.2.2.2.2.2.2.2.2.2.2.2.2.2.2.2.2.2.2.2.2.1 u1.2.2.2.2.2.2.2.2.2.2.2.2.2.2.2.2.2.2.2.2.2.2.2.1 u1.2.2.2.2.2.2.2.2.2.2.2.2.2.2.2.2.2.2.2.2.2.2.2.2.2.2 u1.2.1 o_unpacked_size o_unpacked_bytes_v).bind (fun u3 =>
  some (u3.1, u3.2.1, u1.2.2.1, u1.2.2.2.1, u1.2.2.2.2.1, u1.2.2.2.2.2.1, u1.2.2.2.2.2.2.1, u1.2.2.2.2.2.2.2.1, u1.2.2.2.2.2.2.2.2.1, u1.2.2.2.2.2.2.2.2.2.1, u1.2.2.2.2.2.2.2.2.2.2.1, u1.2.2.2.2.2.2.2.2.2.2.2.1, u1.2.2.2.2.2.2.2.2.2.2.2.2.1, u1.2.2.2.2.2.2.2.2.2.2.2.2.2.1, u1.2.2.2.2.2.2.2.2.2.2.2.2.2.2.1, u1.2.2.2.2.2.2.2.2.2.2.2.2.2.2.2.1, u1.2.2.2.2.2.2.2.2.2.2.2.2.2.2.2.2.1, u1.2.2.2.2.2.2.2.2.2.2.2.2.2.2.2.2.2.1, u1.2.2.2.2.2.2.2.2.2.2.2.2.2.2.2.2.2.2.1, u1.2.2.2.2.2.2.2.2.2.2.2.2.2.2.2.2.2.2.2.1, u1.2.2.2.2.2.2.2.2.2.2.2.2.2.2.2.2.2.2.2.2.1, u1.2.2.2.2.2.2.2.2.2.2.2.2.2.2.2.2.2.2.2.2.2.1, u1.2.2.2.2.2.2.2.2.2.2.2.2.2.2.2.2.2.2.2.2.2.2.1, u1.2.2.2.2.2.2.2.2.2.2.2.2.2.2.2.2.2.2.2.2.2.2.2.1, u1.2.2.2.2.2.2.2.2.2.2.2.2.2.2.2.2.2.2.2.2.2.2.2.2.1, u1.2.2.2.2.2.2.2.2.2.2.2.2.2.2.2.2.2.2.2.2.2.2.2.2.2.1, u1.2.2.2.2.2.2.2.2.2.2.2.2.2.2.2.2.2.2.2.2.2.2.2.2.2.2, u3.2.2.1, u3.2.2.2)))
  else
  (some (u1.1, u1.2.1, u1.2.2.1, u1.2.2.2.1, u1.2.2.2.2.1, u1.2.2.2.2.2.1, u1.2.2.2.2.2.2.1, u1.2.2.2.2.2.2.2.1, u1.2.2.2.2.2.2.2.2.1, u1.2.2.2.2.2.2.2.2.2.1, u1.2.2.2.2.2.2.2.2.2.2.1, u1.2.2.2.2.2.2.2.2.2.2.2.1, u1.2.2.2.2.2.2.2.2.2.2.2.2.1, u1.2.2.2.2.2.2.2.2.2.2.2.2.2.1, u1.2.2.2.2.2.2.2.2.2.2.2.2.2.2.1, u1.2.2.2.2.2.2.2.2.2.2.2.2.2.2.2.1, u1.2.2.2.2.2.2.2.2.2.2.2.2.2.2.2.2.1, u1.2.2.2.2.2.2.2.2.2.2.2.2.2.2.2.2.2.1, u1.2.2.2.2.2.2.2.2.2.2.2.2.2.2.2.2.2.2.1, u1.2.2.2.2.2.2.2.2.2.2.2.2.2.2.2.2.2.2.2.1, u1.2.2.2.2.2.2.2.2.2.2.2.2.2.2.2.2.2.2.2.2.1, u1.2.2.2.2.2.2.2.2.2.2.2.2.2.2.2.2.2.2.2.2.2.1, u1.2.2.2.2.2.2.2.2.2.2.2.2.2.2.2.2.2.2.2.2.2.2.1, u1.2.2.2.2.2.2.2.2.2.2.2.2.2.2.2.2.2.2.2.2.2.2.2.1, u1.2.2.2.2.2.2.2.2.2.2.2.2.2.2.2.2.2.2.2.2.2.2.2.2.1, u1.2.2.2.2.2.2.2.2.2.2.2.2.2.2.2.2.2.2.2.2.2.2.2.2.2.1, u1.2.2.2.2.2.2.2.2.2.2.2.2.2.2.2.2.2.2.2.2.2.2.2.2.2.2, o_unpacked_size, o_unpacked_bytes_v))
def q_readTold (o_in_row_bytes_n : Nat) (o_telling_lengths_n : Nat) (o_telling_ofLength_n : Nat) (o_telling_firstCode_n : Nat) (o_telling_firstPlace_n : Nat) (o_telling_given_n : Nat) (o_telling_codes_n : Nat) (o_telling_byCode_n : Nat) (o_row_n : Nat) (o_symbols_lengths_n : Nat) (o_symbols_ofLength_n : Nat) (o_symbols_firstCode_n : Nat) (o_symbols_firstPlace_n : Nat) (o_symbols_given_n : Nat) (o_symbols_codes_n : Nat) (o_symbols_byCode_n : Nat) (o_distances_lengths_n : Nat) (o_distances_ofLength_n : Nat) (o_distances_firstCode_n : Nat) (o_distances_firstPlace_n : Nat) (o_distances_given_n : Nat) (o_distances_codes_n : Nat) (o_distances_byCode_n : Nat) (o_unpacked_bytes_n : Nat) (o_in_all : Int32) (o_in_row_bytes_v : Nat → Int32)  (o_in_taken : Int32) (o_telling_longest : Int32) (o_telling_lengths_v : Nat → Int32) (o_telling_ofLength_v : Nat → Int32) (o_telling_firstCode_v : Nat → Int32) (o_telling_firstPlace_v : Nat → Int32) (o_telling_given_v : Nat → Int32) (o_telling_codes_v : Nat → Int32) (o_telling_byCode_v : Nat → Int32) (o_row_v : Nat → Int32) (o_symbols_longest : Int32) (o_symbols_lengths_v : Nat → Int32) (o_symbols_ofLength_v : Nat → Int32) (o_symbols_firstCode_v : Nat → Int32) (o_symbols_firstPlace_v : Nat → Int32) (o_symbols_given_v : Nat → Int32) (o_symbols_codes_v : Nat → Int32) (o_symbols_byCode_v : Nat → Int32) (o_distances_longest : Int32) (o_distances_lengths_v : Nat → Int32) (o_distances_ofLength_v : Nat → Int32) (o_distances_firstCode_v : Nat → Int32) (o_distances_firstPlace_v : Nat → Int32) (o_distances_given_v : Nat → Int32) (o_distances_codes_v : Nat → Int32) (o_distances_byCode_v : Nat → Int32) (o_unpacked_size : Int32) (o_unpacked_bytes_v : Nat → Int32) : Option (Int32 × Int32 × Int32 × (Nat → Int32) × (Nat → Int32) × (Nat → Int32) × (Nat → Int32) × (Nat → Int32) × (Nat → Int32) × (Nat → Int32) × (Nat → Int32) × Int32 × (Nat → Int32) × (Nat → Int32) × (Nat → Int32) × (Nat → Int32) × (Nat → Int32) × (Nat → Int32) × (Nat → Int32) × Int32 × (Nat → Int32) × (Nat → Int32) × (Nat → Int32) × (Nat → Int32) × (Nat → Int32) × (Nat → Int32) × (Nat → Int32) × Int32 × (Nat → Int32)) :=
  (q_readCodes o_in_row_bytes_n o_telling_lengths_n o_telling_ofLength_n o_telling_firstCode_n o_telling_firstPlace_n o_telling_given_n o_telling_codes_n o_telling_byCode_n o_row_n o_symbols_lengths_n o_symbols_ofLength_n o_symbols_firstCode_n o_symbols_firstPlace_n o_symbols_given_n o_symbols_codes_n o_symbols_byCode_n o_distances_lengths_n o_distances_ofLength_n o_distances_firstCode_n o_distances_firstPlace_n o_distances_given_n o_distances_codes_n o_distances_byCode_n o_in_all o_in_row_bytes_v o_in_taken o_telling_longest o_telling_lengths_v o_telling_ofLength_v o_telling_firstCode_v o_telling_firstPlace_v o_telling_given_v o_telling_codes_v o_telling_byCode_v o_row_v o_symbols_longest o_symbols_lengths_v o_symbols_ofLength_v o_symbols_firstCode_v o_symbols_firstPlace_v o_symbols_given_v o_symbols_codes_v o_symbols_byCode_v o_distances_longest o_distances_lengths_v o_distances_ofLength_v o_distances_firstCode_v o_distances_firstPlace_v o_distances_given_v o_distances_codes_v o_distances_byCode_v).bind (q_then o_in_row_bytes_n o_symbols_ofLength_n o_symbols_firstCode_n o_symbols_firstPlace_n o_symbols_byCode_n o_distances_ofLength_n o_distances_firstCode_n o_distances_firstPlace_n o_distances_byCode_n o_unpacked_bytes_n o_in_all o_in_row_bytes_v o_unpacked_size o_unpacked_bytes_v)
theorem q_thenT {o_in_row_bytes_n : Nat} {o_symbols_ofLength_n : Nat} {o_symbols_firstCode_n : Nat} {o_symbols_firstPlace_n : Nat} {o_symbols_byCode_n : Nat} {o_distances_ofLength_n : Nat} {o_distances_firstCode_n : Nat} {o_distances_firstPlace_n : Nat} {o_distances_byCode_n : Nat} {o_unpacked_bytes_n : Nat} {o_in_all : Int32} {o_in_row_bytes_v : Nat → Int32} {o_unpacked_size : Int32} {o_unpacked_bytes_v : Nat → Int32} {u1 : (Int32 × Int32 × Int32 × (Nat → Int32) × (Nat → Int32) × (Nat → Int32) × (Nat → Int32) × (Nat → Int32) × (Nat → Int32) × (Nat → Int32) × (Nat → Int32) × Int32 × (Nat → Int32) × (Nat → Int32) × (Nat → Int32) × (Nat → Int32) × (Nat → Int32) × (Nat → Int32) × (Nat → Int32) × Int32 × (Nat → Int32) × (Nat → Int32) × (Nat → Int32) × (Nat → Int32) × (Nat → Int32) × (Nat → Int32) × (Nat → Int32))} (h : u1.1 = 0) : q_then o_in_row_bytes_n o_symbols_ofLength_n o_symbols_firstCode_n o_symbols_firstPlace_n o_symbols_byCode_n o_distances_ofLength_n o_distances_firstCode_n o_distances_firstPlace_n o_distances_byCode_n o_unpacked_bytes_n o_in_all o_in_row_bytes_v o_unpacked_size o_unpacked_bytes_v u1 =
  ((pX9_readSymbols o_symbols_firstCode_n o_symbols_ofLength_n o_symbols_firstPlace_n o_symbols_byCode_n o_in_row_bytes_n o_unpacked_bytes_n o_distances_firstCode_n o_distances_ofLength_n o_distances_firstPlace_n o_distances_byCode_n o_in_all u1.2.2.2.2.2.2.2.2.2.2.2.1 u1.2.2.2.2.2.2.2.2.2.2.2.2.2.2.1 u1.2.2.2.2.2.2.2.2.2.2.2.2.2.1 u1.2.2.2.2.2.2.2.2.2.2.2.2.2.2.2.1 u1.2.2.2.2.2.2.2.2.2.2.2.2.2.2.2.2.2.2.1 o_in_row_bytes_v u1.2.2.2.2.2.2.2.2.2.2.2.2.2.2.2.2.2.2.2.1 u1.2.2.2.2.2.2.2.2.2.2.2.2.2.2.2.2.2.2.2.2.2.2.1 u1.2.2.2.2.2.2.2.2.2.2.2.2.2.2.2.2.2.2.2.2.2.1 u1.2.2.2.2.2.2.2.2.2.2.2.2.2.2.2.2.2.2.2.2.2.2.2.1 u1.2.2.2.2.2.2.2.2.2.2.2.2.2.2.2.2.2.2.2.2.2.2.2.2.2.2 u1.2.1 o_unpacked_size o_unpacked_bytes_v).bind (fun u3 =>
  some (u3.1, u3.2.1, u1.2.2.1, u1.2.2.2.1, u1.2.2.2.2.1, u1.2.2.2.2.2.1, u1.2.2.2.2.2.2.1, u1.2.2.2.2.2.2.2.1, u1.2.2.2.2.2.2.2.2.1, u1.2.2.2.2.2.2.2.2.2.1, u1.2.2.2.2.2.2.2.2.2.2.1, u1.2.2.2.2.2.2.2.2.2.2.2.1, u1.2.2.2.2.2.2.2.2.2.2.2.2.1, u1.2.2.2.2.2.2.2.2.2.2.2.2.2.1, u1.2.2.2.2.2.2.2.2.2.2.2.2.2.2.1, u1.2.2.2.2.2.2.2.2.2.2.2.2.2.2.2.1, u1.2.2.2.2.2.2.2.2.2.2.2.2.2.2.2.2.1, u1.2.2.2.2.2.2.2.2.2.2.2.2.2.2.2.2.2.1, u1.2.2.2.2.2.2.2.2.2.2.2.2.2.2.2.2.2.2.1, u1.2.2.2.2.2.2.2.2.2.2.2.2.2.2.2.2.2.2.2.1, u1.2.2.2.2.2.2.2.2.2.2.2.2.2.2.2.2.2.2.2.2.1, u1.2.2.2.2.2.2.2.2.2.2.2.2.2.2.2.2.2.2.2.2.2.1, u1.2.2.2.2.2.2.2.2.2.2.2.2.2.2.2.2.2.2.2.2.2.2.1, u1.2.2.2.2.2.2.2.2.2.2.2.2.2.2.2.2.2.2.2.2.2.2.2.1, u1.2.2.2.2.2.2.2.2.2.2.2.2.2.2.2.2.2.2.2.2.2.2.2.2.1, u1.2.2.2.2.2.2.2.2.2.2.2.2.2.2.2.2.2.2.2.2.2.2.2.2.2.1, u1.2.2.2.2.2.2.2.2.2.2.2.2.2.2.2.2.2.2.2.2.2.2.2.2.2.2, u3.2.2.1, u3.2.2.2))) := by unfold q_then; rw [if_pos h]
theorem q_thenF {o_in_row_bytes_n : Nat} {o_symbols_ofLength_n : Nat} {o_symbols_firstCode_n : Nat} {o_symbols_firstPlace_n : Nat} {o_symbols_byCode_n : Nat} {o_distances_ofLength_n : Nat} {o_distances_firstCode_n : Nat} {o_distances_firstPlace_n : Nat} {o_distances_byCode_n : Nat} {o_unpacked_bytes_n : Nat} {o_in_all : Int32} {o_in_row_bytes_v : Nat → Int32} {o_unpacked_size : Int32} {o_unpacked_bytes_v : Nat → Int32} {u1 : (Int32 × Int32 × Int32 × (Nat → Int32) × (Nat → Int32) × (Nat → Int32) × (Nat → Int32) × (Nat → Int32) × (Nat → Int32) × (Nat → Int32) × (Nat → Int32) × Int32 × (Nat → Int32) × (Nat → Int32) × (Nat → Int32) × (Nat → Int32) × (Nat → Int32) × (Nat → Int32) × (Nat → Int32) × Int32 × (Nat → Int32) × (Nat → Int32) × (Nat → Int32) × (Nat → Int32) × (Nat → Int32) × (Nat → Int32) × (Nat → Int32))} (h : ¬ u1.1 = 0) : q_then o_in_row_bytes_n o_symbols_ofLength_n o_symbols_firstCode_n o_symbols_firstPlace_n o_symbols_byCode_n o_distances_ofLength_n o_distances_firstCode_n o_distances_firstPlace_n o_distances_byCode_n o_unpacked_bytes_n o_in_all o_in_row_bytes_v o_unpacked_size o_unpacked_bytes_v u1 =
  (some (u1.1, u1.2.1, u1.2.2.1, u1.2.2.2.1, u1.2.2.2.2.1, u1.2.2.2.2.2.1, u1.2.2.2.2.2.2.1, u1.2.2.2.2.2.2.2.1, u1.2.2.2.2.2.2.2.2.1, u1.2.2.2.2.2.2.2.2.2.1, u1.2.2.2.2.2.2.2.2.2.2.1, u1.2.2.2.2.2.2.2.2.2.2.2.1, u1.2.2.2.2.2.2.2.2.2.2.2.2.1, u1.2.2.2.2.2.2.2.2.2.2.2.2.2.1, u1.2.2.2.2.2.2.2.2.2.2.2.2.2.2.1, u1.2.2.2.2.2.2.2.2.2.2.2.2.2.2.2.1, u1.2.2.2.2.2.2.2.2.2.2.2.2.2.2.2.2.1, u1.2.2.2.2.2.2.2.2.2.2.2.2.2.2.2.2.2.1, u1.2.2.2.2.2.2.2.2.2.2.2.2.2.2.2.2.2.2.1, u1.2.2.2.2.2.2.2.2.2.2.2.2.2.2.2.2.2.2.2.1, u1.2.2.2.2.2.2.2.2.2.2.2.2.2.2.2.2.2.2.2.2.1, u1.2.2.2.2.2.2.2.2.2.2.2.2.2.2.2.2.2.2.2.2.2.1, u1.2.2.2.2.2.2.2.2.2.2.2.2.2.2.2.2.2.2.2.2.2.2.1, u1.2.2.2.2.2.2.2.2.2.2.2.2.2.2.2.2.2.2.2.2.2.2.2.1, u1.2.2.2.2.2.2.2.2.2.2.2.2.2.2.2.2.2.2.2.2.2.2.2.2.1, u1.2.2.2.2.2.2.2.2.2.2.2.2.2.2.2.2.2.2.2.2.2.2.2.2.2.1, u1.2.2.2.2.2.2.2.2.2.2.2.2.2.2.2.2.2.2.2.2.2.2.2.2.2.2, o_unpacked_size, o_unpacked_bytes_v)) := by unfold q_then; rw [if_neg h]
theorem q_bindc {α β γ : Type} {a : Option α} {f : α → Option γ} {g : α → Option β} {G : β → Option γ} (h : ∀ u, f u = (g u).bind G) : a.bind f = (a.bind g).bind G := by
  cases a with
  | none => rfl
  | some u => exact h u
theorem q_itec {β γ : Type} {c : Prop} [Decidable c] {a b : Option γ} {a' b' : Option β} {G : β → Option γ} (h1 : c → a = a'.bind G) (h2 : ¬ c → b = b'.bind G) : (if c then a else b) = (if c then a' else b').bind G := by
  by_cases h : c
  · rw [if_pos h, if_pos h]; exact h1 h
  · rw [if_neg h, if_neg h]; exact h2 h
theorem q_told75 (o_in_row_bytes_n : Nat) (o_row_n : Nat) (o_symbols_lengths_n : Nat) (o_symbols_ofLength_n : Nat) (o_symbols_firstCode_n : Nat) (o_symbols_firstPlace_n : Nat) (o_symbols_given_n : Nat) (o_symbols_codes_n : Nat) (o_symbols_byCode_n : Nat) (o_distances_lengths_n : Nat) (o_distances_ofLength_n : Nat) (o_distances_firstCode_n : Nat) (o_distances_firstPlace_n : Nat) (o_distances_given_n : Nat) (o_distances_codes_n : Nat) (o_distances_byCode_n : Nat) (o_unpacked_bytes_n : Nat) (o_in_all : Int32) (o_in_row_bytes_v : Nat → Int32)  (o_in_taken : Int32) (o_telling_longest : Int32) (o_telling_lengths_v : Nat → Int32) (o_telling_ofLength_v : Nat → Int32) (o_telling_firstCode_v : Nat → Int32) (o_telling_firstPlace_v : Nat → Int32) (o_telling_given_v : Nat → Int32) (o_telling_codes_v : Nat → Int32) (o_telling_byCode_v : Nat → Int32) (o_row_v : Nat → Int32) (o_symbols_longest : Int32) (o_symbols_lengths_v : Nat → Int32) (o_symbols_ofLength_v : Nat → Int32) (o_symbols_firstCode_v : Nat → Int32) (o_symbols_firstPlace_v : Nat → Int32) (o_symbols_given_v : Nat → Int32) (o_symbols_codes_v : Nat → Int32) (o_symbols_byCode_v : Nat → Int32) (o_distances_longest : Int32) (o_distances_lengths_v : Nat → Int32) (o_distances_ofLength_v : Nat → Int32) (o_distances_firstCode_v : Nat → Int32) (o_distances_firstPlace_v : Nat → Int32) (o_distances_given_v : Nat → Int32) (o_distances_codes_v : Nat → Int32) (o_distances_byCode_v : Nat → Int32) (o_unpacked_size : Int32) (o_unpacked_bytes_v : Nat → Int32) (x2 : Int32) (x3 : Int32) (x4 : Int32) : pX9_readTold_b75 o_in_row_bytes_n o_row_n o_symbols_lengths_n o_symbols_ofLength_n o_symbols_firstCode_n o_symbols_firstPlace_n o_symbols_given_n o_symbols_codes_n o_symbols_byCode_n o_distances_lengths_n o_distances_ofLength_n o_distances_firstCode_n o_distances_firstPlace_n o_distances_given_n o_distances_codes_n o_distances_byCode_n o_unpacked_bytes_n o_in_all o_in_row_bytes_v o_in_taken o_telling_longest o_telling_lengths_v o_telling_ofLength_v o_telling_firstCode_v o_telling_firstPlace_v o_telling_given_v o_telling_codes_v o_telling_byCode_v o_row_v o_symbols_longest o_symbols_lengths_v o_symbols_ofLength_v o_symbols_firstCode_v o_symbols_firstPlace_v o_symbols_given_v o_symbols_codes_v o_symbols_byCode_v o_distances_longest o_distances_lengths_v o_distances_ofLength_v o_distances_firstCode_v o_distances_firstPlace_v o_distances_given_v o_distances_codes_v o_distances_byCode_v o_unpacked_size o_unpacked_bytes_v x2 x3 x4 = (q_readCodes_b75 o_row_n o_symbols_lengths_n o_symbols_ofLength_n o_symbols_firstCode_n o_symbols_firstPlace_n o_symbols_given_n o_symbols_codes_n o_symbols_byCode_n o_distances_lengths_n o_distances_ofLength_n o_distances_firstCode_n o_distances_firstPlace_n o_distances_given_n o_distances_codes_n o_distances_byCode_n o_in_taken o_telling_longest o_telling_lengths_v o_telling_ofLength_v o_telling_firstCode_v o_telling_firstPlace_v o_telling_given_v o_telling_codes_v o_telling_byCode_v o_row_v o_symbols_longest o_symbols_lengths_v o_symbols_ofLength_v o_symbols_firstCode_v o_symbols_firstPlace_v o_symbols_given_v o_symbols_codes_v o_symbols_byCode_v o_distances_longest o_distances_lengths_v o_distances_ofLength_v o_distances_firstCode_v o_distances_firstPlace_v o_distances_given_v o_distances_codes_v o_distances_byCode_v x2 x3 x4).bind (q_then o_in_row_bytes_n o_symbols_ofLength_n o_symbols_firstCode_n o_symbols_firstPlace_n o_symbols_byCode_n o_distances_ofLength_n o_distances_firstCode_n o_distances_firstPlace_n o_distances_byCode_n o_unpacked_bytes_n o_in_all o_in_row_bytes_v o_unpacked_size o_unpacked_bytes_v) := by
  unfold pX9_readTold_b75 q_readCodes_b75
  refine q_itec (fun _ => ?_) (fun h => ?_)
  · refine q_bindc fun u2 => q_bindc fun u3 => q_bindc fun u4 => q_bindc fun u5 => q_bindc fun u6 => q_itec (fun _ => ?_) (fun _ => ?_)
    · rw [Option.bind_some]; refine Eq.symm (q_thenF ?_); show ¬ (4 : Int32) = 0; decide
    · rw [Option.bind_some]; refine Eq.symm (q_thenT ?_); rfl
  · rw [Option.bind_some]; exact Eq.symm (q_thenF h)
theorem q_told_eq (o_in_row_bytes_n : Nat) (o_telling_lengths_n : Nat) (o_telling_ofLength_n : Nat) (o_telling_firstCode_n : Nat) (o_telling_firstPlace_n : Nat) (o_telling_given_n : Nat) (o_telling_codes_n : Nat) (o_telling_byCode_n : Nat) (o_row_n : Nat) (o_symbols_lengths_n : Nat) (o_symbols_ofLength_n : Nat) (o_symbols_firstCode_n : Nat) (o_symbols_firstPlace_n : Nat) (o_symbols_given_n : Nat) (o_symbols_codes_n : Nat) (o_symbols_byCode_n : Nat) (o_distances_lengths_n : Nat) (o_distances_ofLength_n : Nat) (o_distances_firstCode_n : Nat) (o_distances_firstPlace_n : Nat) (o_distances_given_n : Nat) (o_distances_codes_n : Nat) (o_distances_byCode_n : Nat) (o_unpacked_bytes_n : Nat) (o_in_all : Int32) (o_in_row_bytes_v : Nat → Int32)  (o_in_taken : Int32) (o_telling_longest : Int32) (o_telling_lengths_v : Nat → Int32) (o_telling_ofLength_v : Nat → Int32) (o_telling_firstCode_v : Nat → Int32) (o_telling_firstPlace_v : Nat → Int32) (o_telling_given_v : Nat → Int32) (o_telling_codes_v : Nat → Int32) (o_telling_byCode_v : Nat → Int32) (o_row_v : Nat → Int32) (o_symbols_longest : Int32) (o_symbols_lengths_v : Nat → Int32) (o_symbols_ofLength_v : Nat → Int32) (o_symbols_firstCode_v : Nat → Int32) (o_symbols_firstPlace_v : Nat → Int32) (o_symbols_given_v : Nat → Int32) (o_symbols_codes_v : Nat → Int32) (o_symbols_byCode_v : Nat → Int32) (o_distances_longest : Int32) (o_distances_lengths_v : Nat → Int32) (o_distances_ofLength_v : Nat → Int32) (o_distances_firstCode_v : Nat → Int32) (o_distances_firstPlace_v : Nat → Int32) (o_distances_given_v : Nat → Int32) (o_distances_codes_v : Nat → Int32) (o_distances_byCode_v : Nat → Int32) (o_unpacked_size : Int32) (o_unpacked_bytes_v : Nat → Int32) : pX9_readTold o_in_row_bytes_n o_telling_lengths_n o_telling_ofLength_n o_telling_firstCode_n o_telling_firstPlace_n o_telling_given_n o_telling_codes_n o_telling_byCode_n o_row_n o_symbols_lengths_n o_symbols_ofLength_n o_symbols_firstCode_n o_symbols_firstPlace_n o_symbols_given_n o_symbols_codes_n o_symbols_byCode_n o_distances_lengths_n o_distances_ofLength_n o_distances_firstCode_n o_distances_firstPlace_n o_distances_given_n o_distances_codes_n o_distances_byCode_n o_unpacked_bytes_n o_in_all o_in_row_bytes_v o_in_taken o_telling_longest o_telling_lengths_v o_telling_ofLength_v o_telling_firstCode_v o_telling_firstPlace_v o_telling_given_v o_telling_codes_v o_telling_byCode_v o_row_v o_symbols_longest o_symbols_lengths_v o_symbols_ofLength_v o_symbols_firstCode_v o_symbols_firstPlace_v o_symbols_given_v o_symbols_codes_v o_symbols_byCode_v o_distances_longest o_distances_lengths_v o_distances_ofLength_v o_distances_firstCode_v o_distances_firstPlace_v o_distances_given_v o_distances_codes_v o_distances_byCode_v o_unpacked_size o_unpacked_bytes_v = q_readTold o_in_row_bytes_n o_telling_lengths_n o_telling_ofLength_n o_telling_firstCode_n o_telling_firstPlace_n o_telling_given_n o_telling_codes_n o_telling_byCode_n o_row_n o_symbols_lengths_n o_symbols_ofLength_n o_symbols_firstCode_n o_symbols_firstPlace_n o_symbols_given_n o_symbols_codes_n o_symbols_byCode_n o_distances_lengths_n o_distances_ofLength_n o_distances_firstCode_n o_distances_firstPlace_n o_distances_given_n o_distances_codes_n o_distances_byCode_n o_unpacked_bytes_n o_in_all o_in_row_bytes_v o_in_taken o_telling_longest o_telling_lengths_v o_telling_ofLength_v o_telling_firstCode_v o_telling_firstPlace_v o_telling_given_v o_telling_codes_v o_telling_byCode_v o_row_v o_symbols_longest o_symbols_lengths_v o_symbols_ofLength_v o_symbols_firstCode_v o_symbols_firstPlace_v o_symbols_given_v o_symbols_codes_v o_symbols_byCode_v o_distances_longest o_distances_lengths_v o_distances_ofLength_v o_distances_firstCode_v o_distances_firstPlace_v o_distances_given_v o_distances_codes_v o_distances_byCode_v o_unpacked_size o_unpacked_bytes_v := by
  unfold pX9_readTold q_readTold q_readCodes
  refine q_bindc fun u9 => q_itec (fun _ => q_itec (fun _ => ?_) (fun _ => q_itec (fun _ => q_bindc fun u13 => q_itec (fun _ => q_bindc fun u15 => q_told75 ..) (fun _ => q_told75 ..)) (fun _ => ?_))) (fun _ => ?_)
  · rw [Option.bind_some]; refine Eq.symm (q_thenF ?_); show ¬ (4 : Int32) = 0; decide
  · rw [Option.bind_some]; refine Eq.symm (q_thenF ?_); show ¬ (4 : Int32) = 0; decide
  · rw [Option.bind_some]; refine Eq.symm (q_thenF ?_); show ¬ (1 : Int32) = 0; decide
/-! ### a told block's codes: class and reference -/
section QG
variable {k N A B C D E Z : Nat} {v mv : Nat → Int32}
/-- the first places of a Codes object's rows are 0 -/
def q_z (fc fp : Nat → Int32) : Prop := fc 0 = 0 ∧ fp 0 = 0
theorem q_codes_z {n : Nat} {f : Nat → Nat} {L : Int32} {of fc fp c bc : Nat → Int32} (h : q_codes n f L of fc fp c bc) : q_z fc fp := by
  have z := h.2.1 0 (by omega)
  exact ⟨by rw [z.2.1]; rfl, by rw [z.2.2]; rfl⟩
set_option maxRecDepth 100000 in
theorem sf_readCodes {i : Nat} {tL sL dL : Int32} {tl tof tfc tfp tg tc tbc row sl sof sfc sfp sg sc sbc dl dof dfc dfp dg dc dbc LL LC RW SL DL : Nat → Int32}
    (hN : N ≤ 80000) (hk : k ≤ N) (hZ : k ≤ Z) (hr : ∀ j, j < k → ∃ t : Nat, t < 256 ∧ v j = yb t ∧ mv j = nI t) (hA : 288 ≤ A) (hB : 288 ≤ B) (hC : 19 ≤ C) (hC2 : C ≤ 80000) (hD : 19 ≤ D) (hE : 320 ≤ E) (hE2 : E ≤ 80000)
    (ht : q_z tfc tfp) (hs : q_z sfc sfp) (hd : q_z dfc dfp) (hi : i ≤ 8 * k) :
    ∃ (why : Int32) (i' : Nat) (tL' : Int32) (tl' tof' tfc' tfp' tg' tc' tbc' row' : Nat → Int32) (sL' : Int32) (sl' sof' sfc' sfp' sg' sc' sbc' : Nat → Int32) (dL' : Int32) (dl' dof' dfc' dfp' dg' dc' dbc' LL' LC' RW' SL' DL' : Nat → Int32) (fs fd : Nat → Nat),
      q_readCodes N 19 16 16 16 16 19 19 316 288 16 16 16 16 288 288 32 16 16 16 16 32 32 (nI (8 * k)) v (nI i) tL tl tof tfc tfp tg tc tbc row sL sl sof sfc sfp sg sc sbc dL dl dof dfc dfp dg dc dbc =
        some (why, nI i', tL', tl', tof', tfc', tfp', tg', tc', tbc', row', sL', sl', sof', sfc', sfp', sg', sc', sbc', dL', dl', dof', dfc', dfp', dg', dc', dbc') ∧
      pX11_toldCodes Z C D E A B (nI k) mv (nI i) 0 LL LC RW SL DL = some (nI i', why, LL', LC', RW', SL', DL') ∧ q_z tfc' tfp' ∧ q_z sfc' sfp' ∧ q_z dfc' dfp' ∧ i ≤ i' ∧ i' ≤ 8 * k ∧
      (∀ j, j < 288 → SL' j = nI (fs j) ∧ fs j ≤ 15) ∧ (∀ j, j < 288 → DL' j = nI (fd j) ∧ fd j ≤ 15) ∧ (why = 0 → q_codes 288 fs sL' sof' sfc' sfp' sc' sbc' ∧ q_codes 32 fd dL' dof' dfc' dfp' dc' dbc') := by
  have hm : ∀ j, j < k → ∃ t : Nat, t < 256 ∧ mv j = nI t := fun j hj => (hr j hj).elim (fun t q => ⟨t, q.1, q.2.2⟩)
  have hzero : ∀ (SL' DL' : Nat → Int32), (∀ j, j < 288 → SL' j = nI 0 ∧ DL' j = nI 0) → (∀ j, j < 288 → SL' j = nI ((fun _ => 0) j) ∧ (fun _ : Nat => 0) j ≤ 15) ∧ (∀ j, j < 288 → DL' j = nI ((fun _ => 0) j) ∧ (fun _ : Nat => 0) j ≤ 15) := fun SL' DL' h => ⟨fun j hj => ⟨(h j hj).1, Nat.zero_le 15⟩, fun j hj => ⟨(h j hj).2, Nat.zero_le 15⟩⟩
  unfold q_readCodes pX11_toldCodes
  rw [show (14 : Int32) = nI 14 from rfl, sf_number hN hk hr (b := 14) (by omega) hi, show (5 : Int32) = nI 5 from rfl, sf_tk (mv := mv) hZ (by omega) hm (b := 5) (by omega) hi]
  by_cases c : i + 14 ≤ 8 * k
  · rw [if_pos c, if_pos (show i + 5 ≤ 8 * k by omega), Option.bind_some, Option.bind_some]
    dsimp only
    rw [sf_tk (mv := mv) hZ (by omega) hm (b := 5) (i := i + 5) (by omega) (by omega), if_pos (show i + 5 + 5 ≤ 8 * k by omega), Option.bind_some]
    dsimp only
    rw [show (4 : Int32) = nI 4 from rfl, sf_tk (mv := mv) hZ (by omega) hm (b := 4) (i := i + 5 + 5) (by omega) (by omega), if_pos (show i + 5 + 5 + 4 ≤ 8 * k by omega), Option.bind_some]
    dsimp only
    have n1 := q_num_lt mv i 5
    have n2 := q_num_lt mv (i + 5) 5
    have n3 := q_num_lt mv (i + 5 + 5) 4
    have n4 : q_num mv i 14 = q_num mv i 5 + 32 * q_num mv (i + 5) 5 + 1024 * q_num mv (i + 5 + 5) 4 := by
      have a1 := q_num_add (mv := mv) i 10 4
      have a2 := q_num_add (mv := mv) i 5 5
      have p1 : (2 : Nat) ^ 10 = 1024 := by decide
      have p2 : (2 : Nat) ^ 5 = 32 := by decide
      rw [p1] at a1
      rw [p2] at a2
      rw [a1, a2]
    have p2 : (2 : Nat) ^ 5 = 32 := by decide
    have p3 : (2 : Nat) ^ 4 = 16 := by decide
    rw [p2] at n1 n2
    rw [p3] at n3
    have x1 : nI (q_num mv i 14) &&& (31 : Int32) = nI (q_num mv i 5) := by
      rw [pk_andN (by omega) 5 (by decide)]
      congr 1
      omega
    have x2 : (nI (q_num mv i 14) >>> (nI 5 &&& 31)) &&& (31 : Int32) = nI (q_num mv (i + 5) 5) := by
      rw [pk_shrN (by omega) (nI 5 &&& 31) 5 (by decide), pk_andN (by omega) 5 (by decide)]
      congr 1
      omega
    have x3 : nI (q_num mv i 14) >>> ((10 : Int32) &&& 31) = nI (q_num mv (i + 5 + 5) 4) := by
      rw [pk_shrN (by omega) ((10 : Int32) &&& 31) 10 (by decide)]
      congr 1
      omega
    have n14 : q_num mv i 14 < 2 ^ 31 := by omega
    rw [x1, x2, x3]
    generalize q_num mv i 5 = a at n1 ⊢
    generalize q_num mv (i + 5) 5 = b at n2 ⊢
    generalize q_num mv (i + 5 + 5) 4 = cc at n3 ⊢
    have hi14 : i + 5 + 5 + 4 = i + 14 := by omega
    rw [hi14, if_pos (nI_pos' n14), show (257 : Int32) = nI 257 from rfl, show (286 : Int32) = nI 286 from rfl, show (1 : Int32) = nI 1 from rfl, show (30 : Int32) = nI 30 from rfl,
      show nI 257 + nI a = nI (257 + a) from nI_add _ _, show nI a + nI 257 = nI (257 + a) from (nI_add _ _).trans (congrArg nI (Nat.add_comm a 257)), show nI 1 + nI b = nI (1 + b) from nI_add _ _, show nI b + nI 1 = nI (1 + b) from (nI_add _ _).trans (congrArg nI (Nat.add_comm b 1)), show nI 4 + nI cc = nI (4 + cc) from nI_add _ _, show nI cc + nI 4 = nI (4 + cc) from (nI_add _ _).trans (congrArg nI (Nat.add_comm cc 4))]
    rw [qf_lt (by omega) (by omega), qf_lt (by omega) (by omega)]
    by_cases c1 : 286 < 257 + a
    · rw [if_pos c1, if_pos c1]
      obtain ⟨LL', LC', SL', DL', q1, q2⟩ := sf_t45F (Z := Z) (C := C) (D := D) (E := E) (A := A) (B := B) (mv := mv) (S := nI k) (LL := LL) (LC := LC) (RW := RW) (SL := SL) (DL := DL) (p := nI (i + 14)) (g := 4) (x1 := nI (257 + a)) (x2 := nI (1 + b)) (x3 := nI (4 + cc)) (t := 1) sf_can1 (by decide) hA hB hC hC2 hD
      refine ⟨4, i + 14, _, _, _, _, _, _, _, _, _, _, _, _, _, _, _, _, _, _, _, _, _, _, _, _, _, LL', LC', RW, SL', DL', fun _ => 0, fun _ => 0, rfl, q1, ht, hs, hd, by omega, c, (hzero SL' DL' q2).1, (hzero SL' DL' q2).2, fun z => absurd z (by decide)⟩
    rw [if_neg c1, if_neg c1, qf_le (by omega) (by omega), qf_le (by omega) (by omega)]
    by_cases c2 : 1 + b ≤ 30
    · rw [if_pos c2, if_pos c2]
      obtain ⟨w1, i1, tL1, tl1, tof1, tfc1, tfp1, tg1, tc1, tbc1, e1, e2, e3, e4, e5, e6⟩ := sf_telling (Z := Z) (C := C) (D := D) (E := E) (A := A) (B := B) (LL := LL) (RW := RW) (SL := SL) (DL := DL) (LC := LC) (x1 := nI (257 + a)) (x2 := nI (1 + b)) (n := 4 + cc) (i := i + 14) (lc := tl) (of := tof) (fcv := tfc) (fpv := tfp) (gv := tg) (cv := tc) (bc := tbc) (L := tL) hN hk hZ hr (by omega) hA hB hC hC2 hD ht.1 ht.2 c
      rw [e1, Option.bind_some]
      dsimp only
      rcases e6 with ⟨rfl, f, LL1, LC1, f1, f2, f3, f4⟩ | ⟨hw, LL1, LC1, SL1, DL1, q1, q2⟩
      · rw [if_pos rfl, nI_add, f4, nI_add]
        have hF : 317 < fb_F := by unfold fb_F; omega
        obtain ⟨w2, i2, row2, g1, g2, g3, g4⟩ := sf_lensL (n := 19) (Z := Z) (C := C) (D := D) (E := E) (A := A) (B := B) (mv := mv) (SL := SL) (DL := DL) (x1 := nI (257 + a)) (x2 := nI (1 + b)) hN hk hZ hr hC hD f2 f3 f1 hE hE2 (all := 257 + a + (1 + b)) (by omega) hA hB 317 fb_F fb_F i1 0 0 row RW (by omega) hF hF e5 (by omega) (by omega) (fun z hz => absurd hz (Nat.not_lt_zero z))
        rw [nI_0] at g1 g4
        have g1' : pX9_readLengths 16 16 16 19 N 316 tL1 tfc1 tof1 tfp1 tbc1 (nI (8 * k)) v (nI (257 + a + (1 + b))) (nI i1) row = some (w2, nI i2, row2) := g1
        rw [g1', Option.bind_some]
        dsimp only
        unfold q_readCodes_b75
        rcases g4 with ⟨rfl, rm2, h1, h2⟩ | ⟨hw2, rm2, SL2, DL2, q1, q2⟩
        · rw [if_pos rfl, h1]
          have hrr : ∃ r : Nat → Nat, ∀ z, z < 257 + a + (1 + b) → row2 z = nI (r z) ∧ rm2 z = nI (r z) ∧ r z ≤ 15 := by
            refine ⟨fun z => (row2 z).toNatClampNeg, fun z hz => ?_⟩
            obtain ⟨y1, t, y2, y3⟩ := h2 z hz
            have : (row2 z).toNatClampNeg = t := by rw [y3, nI_clamp (by omega)]
            dsimp only
            rw [this]
            exact ⟨y3, by rw [← y1]; exact y3, y2⟩
          obtain ⟨r, hrr⟩ := hrr
          obtain ⟨gg, SL3, DL3, s1, s2, s3⟩ := sf_t350L (E := E) (A := A) (B := B) (p := nI i2) (LL := LL1) (LC := LC1) (RW := rm2) (S := 257 + a) (T := 1 + b) (r := r) hA hB (by omega) hE2 (fun z hz => ⟨(hrr z hz).2.1, (hrr z hz).2.2⟩) 288 fb_F 0 SL DL (by omega) (by omega) (fun j hj => absurd hj (Nat.not_lt_zero j))
          rw [nI_0] at s1
          rw [s1]
          obtain ⟨sl4, v1, v2⟩ := sf_tell (n := 288) (S := 0) (T := 257 + a) (lv := sl) (rw_ := row2) (r := r) (by omega) (by omega) (by omega) (fun z hz => ⟨(hrr z (by omega)).1, (hrr z (by omega)).2.2⟩)
          have hq0 : ∀ j, q_ls (257 + a) (fun z => r (0 + z)) j = q_ls (257 + a) r j := by
            intro j
            unfold q_ls
            by_cases q : j < 257 + a
            · rw [if_pos q, if_pos q]; dsimp only; rw [Nat.zero_add]
            · rw [if_neg q, if_neg q]
          have v2' : ∀ j, j < 288 → sl4 j = nI (q_ls (257 + a) r j) ∧ q_ls (257 + a) r j ≤ 15 := fun j hj => by rw [← hq0 j]; exact v2 j hj
          obtain ⟨dl4, v3, v4⟩ := sf_tell (n := 32) (S := 257 + a) (T := 1 + b) (lv := dl) (rw_ := row2) (r := r) (by omega) (by omega) (by omega) (fun z hz => ⟨(hrr z hz).1, (hrr z hz).2.2⟩)
          obtain ⟨sL5, sof5, sfc5, sfp5, sg5, sc5, sbc5, y1, y2⟩ := sf_assign (N := 288) (lv := sl4) (of := sof) (fcv := sfc) (fpv := sfp) (gv := sg) (cv := sc) (bc := sbc) (f := q_ls (257 + a) r) (by omega) v2' hs.1 hs.2
          obtain ⟨dL5, dof5, dfc5, dfp5, dg5, dc5, dbc5, y3, y4⟩ := sf_assign (N := 32) (lv := dl4) (of := dof) (fcv := dfc) (fpv := dfp) (gv := dg) (cv := dc) (bc := dbc) (f := q_ls (1 + b) (fun z => r (257 + a + z))) (by omega) v4 hd.1 hd.2
          have hfd : ∀ j, 30 ≤ j → q_ls (1 + b) (fun z => r (257 + a + z)) j = 0 := by
            intro j hj
            unfold q_ls
            rw [if_neg (by omega)]
          obtain ⟨ru, z1, z2⟩ := sf_usable (fs := q_ls (257 + a) r) (fd := q_ls (1 + b) (fun z => r (257 + a + z))) (sl := sl4) (sof := sof5) (dof := dof5) v2' (fun l hl => (y2.2.1 l hl).1) (hfd 30 (by omega)) (hfd 31 (by omega)) (fun j hj => (v4 j hj).2) (fun l hl => (y4.2.1 l hl).1)
          rw [nI_0] at v1
          rw [v1, Option.bind_some, y1, Option.bind_some, v3, Option.bind_some, y3, Option.bind_some]
          dsimp only
          rw [y2.1, y4.1, z1, Option.bind_some]
          have hls : ∀ j, j < 288 → SL3 j = nI (q_ls (257 + a) r j) ∧ q_ls (257 + a) r j ≤ 15 := fun j hj => ⟨(s2 j hj).1, (v2' j hj).2⟩
          have hld : ∀ j, j < 288 → DL3 j = nI (q_ls (1 + b) (fun z => r (257 + a + z)) j) ∧ q_ls (1 + b) (fun z => r (257 + a + z)) j ≤ 15 := fun j hj => ⟨(s2 j hj).2, by
            by_cases q : j < 32
            · exact (v4 j q).2
            · rw [hfd j (by omega)]; omega⟩
          by_cases q : ru = 0
          · have hg : gg = 4 := (s3.2 rfl).2 (z2.mp q)
            rw [if_pos q, hg]
            exact ⟨4, i2, _, _, _, _, _, _, _, _, _, _, _, _, _, _, _, _, _, _, _, _, _, _, _, _, _, _, _, _, _, _, _, _, rfl, rfl, ⟨e2, e3⟩, q_codes_z y2, q_codes_z y4, by omega, g3, hls, hld, fun z => absurd z (by decide)⟩
          · have hg : gg = 0 := (s3.2 rfl).1 (Classical.byContradiction (fun w => q (z2.mpr w)))
            rw [if_neg q, hg]
            exact ⟨0, i2, _, _, _, _, _, _, _, _, _, _, _, _, _, _, _, _, _, _, _, _, _, _, _, _, _, _, _, _, _, _, _, _, rfl, rfl, ⟨e2, e3⟩, q_codes_z y2, q_codes_z y4, by omega, g3, hls, hld, fun _ => ⟨by rw [← y2.1]; exact y2, by rw [← y4.1]; exact y4⟩⟩
        · rw [if_neg hw2, q1]
          exact ⟨w2, i2, _, _, _, _, _, _, _, _, _, _, _, _, _, _, _, _, _, _, _, _, _, _, _, _, _, _, _, _, _, _, fun _ => 0, fun _ => 0, rfl, rfl, ⟨e2, e3⟩, hs, hd, by omega, g3, (hzero SL2 DL2 q2).1, (hzero SL2 DL2 q2).2, fun z => absurd z hw2⟩
      · unfold q_readCodes_b75
        rw [if_neg hw, if_neg hw, q1]
        exact ⟨w1, i1, _, _, _, _, _, _, _, _, _, _, _, _, _, _, _, _, _, _, _, _, _, _, _, _, _, _, _, _, _, _, fun _ => 0, fun _ => 0, rfl, rfl, ⟨e2, e3⟩, hs, hd, by omega, e5, (hzero SL1 DL1 q2).1, (hzero SL1 DL1 q2).2, fun z => absurd z hw⟩
    · rw [if_neg c2, if_neg c2]
      obtain ⟨LL', LC', SL', DL', q1, q2⟩ := sf_t45F (Z := Z) (C := C) (D := D) (E := E) (A := A) (B := B) (mv := mv) (S := nI k) (LL := LL) (LC := LC) (RW := RW) (SL := SL) (DL := DL) (p := nI (i + 14)) (g := 4) (x1 := nI (257 + a)) (x2 := nI (1 + b)) (x3 := nI (4 + cc)) (t := 1) sf_can1 (by decide) hA hB hC hC2 hD
      refine ⟨4, i + 14, _, _, _, _, _, _, _, _, _, _, _, _, _, _, _, _, _, _, _, _, _, _, _, _, _, LL', LC', RW, SL', DL', fun _ => 0, fun _ => 0, rfl, q1, ht, hs, hd, by omega, c, (hzero SL' DL' q2).1, (hzero SL' DL' q2).2, fun z => absurd z (by decide)⟩
  · -- the bytes end
    have hend : ∀ (x1 x2 x3 t : Int32), ∃ LL' LC' SL' DL', pX11_toldCodes_b45 Z C D E A B (nI k) mv (nI (8 * k)) 1 LL LC RW SL DL x1 x2 x3 t = some (nI (8 * k), 1, LL', LC', RW, SL', DL') ∧ ∀ j, j < 288 → SL' j = nI 0 ∧ DL' j = nI 0 := fun x1 x2 x3 t => sf_t45F (sf_canF (by decide)) (by decide) hA hB hC hC2 hD
    have hend2 : ∀ (a b c : Int32), ∃ LL' LC' SL' DL', (if (286 : Int32) < a + 257 then pX11_toldCodes_b45 Z C D E A B (nI k) mv (nI (8 * k)) 1 LL LC RW SL DL (a + 257) (b + 1) (c + 4) 1 else if b + 1 ≤ 30 then pX11_toldCodes_b45 Z C D E A B (nI k) mv (nI (8 * k)) 1 LL LC RW SL DL (a + 257) (b + 1) (c + 4) 0 else pX11_toldCodes_b45 Z C D E A B (nI k) mv (nI (8 * k)) 1 LL LC RW SL DL (a + 257) (b + 1) (c + 4) 1) = some (nI (8 * k), 1, LL', LC', RW, SL', DL') ∧ ∀ j, j < 288 → SL' j = nI 0 ∧ DL' j = nI 0 := by
      intro a b c
      by_cases q1 : (286 : Int32) < a + 257
      · rw [if_pos q1]; exact hend _ _ _ _
      · rw [if_neg q1]
        by_cases q2 : b + 1 ≤ 30
        · rw [if_pos q2]; exact hend _ _ _ _
        · rw [if_neg q2]; exact hend _ _ _ _
    rw [if_neg c, Option.bind_some]
    dsimp only
    rw [if_neg (by decide)]
    have fin : ∀ X : Option (Int32 × Int32 × (Nat → Int32) × (Nat → Int32) × (Nat → Int32) × (Nat → Int32) × (Nat → Int32)), (∃ LL' LC' SL' DL', X = some (nI (8 * k), 1, LL', LC', RW, SL', DL') ∧ ∀ j, j < 288 → SL' j = nI 0 ∧ DL' j = nI 0) →
        ∃ (why : Int32) (i' : Nat) (tL' : Int32) (tl' tof' tfc' tfp' tg' tc' tbc' row' : Nat → Int32) (sL' : Int32) (sl' sof' sfc' sfp' sg' sc' sbc' : Nat → Int32) (dL' : Int32) (dl' dof' dfc' dfp' dg' dc' dbc' LL' LC' RW' SL' DL' : Nat → Int32) (fs fd : Nat → Nat),
      some ((1 : Int32), nI (8 * k), tL, tl, tof, tfc, tfp, tg, tc, tbc, row, sL, sl, sof, sfc, sfp, sg, sc, sbc, dL, dl, dof, dfc, dfp, dg, dc, dbc) =
        some (why, nI i', tL', tl', tof', tfc', tfp', tg', tc', tbc', row', sL', sl', sof', sfc', sfp', sg', sc', sbc', dL', dl', dof', dfc', dfp', dg', dc', dbc') ∧
      X = some (nI i', why, LL', LC', RW', SL', DL') ∧ q_z tfc' tfp' ∧ q_z sfc' sfp' ∧ q_z dfc' dfp' ∧ i ≤ i' ∧ i' ≤ 8 * k ∧
      (∀ j, j < 288 → SL' j = nI (fs j) ∧ fs j ≤ 15) ∧ (∀ j, j < 288 → DL' j = nI (fd j) ∧ fd j ≤ 15) ∧ (why = 0 → q_codes 288 fs sL' sof' sfc' sfp' sc' sbc' ∧ q_codes 32 fd dL' dof' dfc' dfp' dc' dbc') := by
      rintro X ⟨LL', LC', SL', DL', q1, q2⟩
      exact ⟨1, 8 * k, _, _, _, _, _, _, _, _, _, _, _, _, _, _, _, _, _, _, _, _, _, _, _, _, _, LL', LC', RW, SL', DL', fun _ => 0, fun _ => 0, rfl, q1, ht, hs, hd, by omega, by omega, (hzero SL' DL' q2).1, (hzero SL' DL' q2).2, fun z => absurd z (by decide)⟩
    refine fin _ ?_
    by_cases c1 : i + 5 ≤ 8 * k
    · rw [if_pos c1, Option.bind_some]
      dsimp only
      rw [sf_tk (mv := mv) hZ (by omega) hm (b := 5) (i := i + 5) (by omega) c1]
      by_cases c2 : i + 5 + 5 ≤ 8 * k
      · rw [if_pos c2, Option.bind_some]
        dsimp only
        rw [show (4 : Int32) = nI 4 from rfl, sf_tk (mv := mv) hZ (by omega) hm (b := 4) (i := i + 5 + 5) (by omega) c2, if_neg (by omega), Option.bind_some]
        exact hend2 _ _ _
      · rw [if_neg c2, Option.bind_some]
        dsimp only
        rw [show (4 : Int32) = nI 4 from rfl, sf_tkF (b := 4) (by decide), Option.bind_some]
        exact hend2 _ _ _
    · rw [if_neg c1, Option.bind_some]
      dsimp only
      rw [sf_tkF (b := 5) (by decide), Option.bind_some]
      dsimp only
      rw [show (4 : Int32) = nI 4 from rfl, sf_tkF (b := 4) (by decide), Option.bind_some]
      exact hend2 _ _ _
end QG
