def fX5_addEight_p14 (n : Nat) (tp_size : Int32) (x1 : Int64)  : Nat → (Nat → Int32) → Int32 → Option (Int32 × (Nat → Int32) × Int32)
  | 0, _, _ => none
  | k + 1, tp_bytes, x3 =>
    (if (8 : Int32) ≤ x3 then
    nm (tp_size + (8 : Int32)) (fun v2 => some ((1 : Int32), tp_bytes, v2))
     else
    aw (tp_size + x3) 400 tp_bytes (vp_nar .byte (((x1 >>> (((56 : Int32) - ((8 : Int32) * x3)).toInt64 &&& 63)).toInt32).toInt8.toInt32)) (fun f3 => fX5_addEight_p14 n tp_size x1 k f3 (x3 + 1)))
def fX5_addEight (n : Nat) (tp_bytes : Nat → Int32) (tp_size : Int32) (x1 : Int64) : Option (Int32 × (Nat → Int32) × Int32) :=
(if tp_size ≤ (392 : Int32) then
fX5_addEight_p14 n tp_size x1 n tp_bytes (0 : Int32)
 else
some ((0 : Int32), tp_bytes, tp_size))
def fX8_feed (n : Nat) (tp_bytes : Nat → Int32) (tp_size : Int32) (x1 : Int64) : Option (Int32 × (Nat → Int32) × Int32) :=
bd3 (fX5_addEight n tp_bytes tp_size x1) (fun v1 f2 v3 => (if v1 = 0 then
some ((-3 : Int32), f2, v3)
 else
some (v3, f2, v3)))
def fX8_end (n : Nat) (tp_size : Int32) (x1 : Int32) : Option (Int32 × Int32) :=
(if x1 < 0 then
some ((-1 : Int32), tp_size)
 else
(if x1 ≤ tp_size then
some (tp_size, x1)
 else
some ((-1 : Int32), tp_size)))
def fX8_fault (n : Nat) (ww_latestFault : Int32)  : Option (Int32) :=
some ww_latestFault
def fX7_isWord (n : Nat) (to_words : Int32) (x1 : Int32) : Option (Int32) :=
(if x1 < 0 then
some (0 : Int32)
 else
(if to_words ≤ x1 then
some (0 : Int32)
 else
some (1 : Int32)))
def fX3_markAt (n : Nat)  (x0 : Int64) (x2 : Int32) : Option (Int32) :=
(if x2 < 0 then
some (-4 : Int32)
 else
(if x2 < (8 : Int32) then
nm ((((x0.toUInt64 >>> (((5 : Int32) * x2).toInt64.toUInt64 &&& Int64.toUInt64 63)).toInt64).toInt32) &&& (31 : Int32)) (fun v3 => (if v3 = 0 then
some (-4 : Int32)
 else
some (v3 - (1 : Int32))))
 else
some (-4 : Int32)))
def fX3_length_p2 (n : Nat) (x0 : Int64)  : Nat → Int32 → Option (Int32)
  | 0, _ => none
  | k + 1, x2 =>
    (if (8 : Int32) ≤ x2 then
    some x2
     else
    bd1 (fX3_markAt n x0 x2) (fun v2 => (if v2 = (-4 : Int32) then
    some x2
     else
    fX3_length_p2 n x0 k (x2 + 1))))
def fX3_length (n : Nat)  (x0 : Int64) : Option (Int32) :=
fX3_length_p2 n x0 n (0 : Int32)
def fX3_heights_p10 (n : Nat) (x0 : Int64) (x3 : Int32)  : Nat → Int32 → Int32 → Option (Int32)
  | 0, _, _ => none
  | k + 1, x2, x4 =>
    (if x3 ≤ x4 then
    some x2
     else
    bd1 (fX3_markAt n x0 x4) (fun v2 => (if (16 : Int32) ≤ v2 then
    fX3_heights_p10 n x0 x3 k x2 (x4 + 1)
     else
    fX3_heights_p10 n x0 x3 k (x2 + 1) (x4 + 1))))
def fX3_heights (n : Nat)  (x0 : Int64) : Option (Int32) :=
bd1 (fX3_length n x0) (fun v1 => fX3_heights_p10 n x0 v1 n (0 : Int32) (0 : Int32))
def fX8_isIn (n : Nat)  (x0 : Int32) (x1 : Int32) : Option (Int32) :=
(if ((x0 >>> (x1 &&& 31)) &&& (1 : Int32)) = 0 then
some (0 : Int32)
 else
some (1 : Int32))
def fX7_asksWith_p4 (n : Nat) (to_asks : Nat → Int32) (to_askCount : Int32) (x1 : Int32)  : Nat → Int32 → Int32 → Option (Int32)
  | 0, _, _ => none
  | k + 1, x2, x3 =>
    (if to_askCount ≤ x3 then
    some x2
     else
    ar x3 6 to_asks (fun v2 => bd1 (fX8_isIn n v2 x1) (fun v3 => (if v3 = 0 then
    fX7_asksWith_p4 n to_asks to_askCount x1 k x2 (x3 + 1)
     else
    fX7_asksWith_p4 n to_asks to_askCount x1 k (x2 + 1) (x3 + 1)))))
def fX7_asksWith (n : Nat) (to_asks : Nat → Int32) (to_askCount : Int32) (x1 : Int32) : Option (Int32) :=
fX7_asksWith_p4 n to_asks to_askCount x1 n (0 : Int32) (0 : Int32)
def fX8_orBad (n : Nat)  (x0 : Int32) : Option (Int32) :=
(if x0 = (-4 : Int32) then
some (-1 : Int32)
 else
some x0)
def fX8_word (n : Nat) (to_spelled : Nat → Int32) (to_rows : Nat → Int64) (to_asks : Nat → Int32) (to_words : Int32) (to_askCount : Int32) (x1 : Int32) (x2 : Int32) : Option (Int32) :=
bd1 (fX7_isWord n to_words x1) (fun v1 => (if v1 = 0 then
some (-1 : Int32)
 else
(if x2 = 0 then
ar x1 16 to_spelled (fun v4 => some v4)
 else
(if x2 = 1 then
ar x1 96 to_rows (fun v6 => bd1 (fX3_length n v6) (fun v7 => some v7))
 else
(if x2 = 2 then
ar x1 96 to_rows (fun v9 => bd1 (fX3_heights n v9) (fun v10 => some v10))
 else
(if x2 = 3 then
bd1 (fX7_asksWith n to_asks to_askCount x1) (fun v12 => some v12)
 else
(if (10 : Int32) ≤ x2 then
ar x1 96 to_rows (fun v14 => bd1 (fX3_markAt n v14 (x2 - (10 : Int32))) (fun v15 => bd1 (fX8_orBad n v15) (fun v16 => some v16)))
 else
some (-1 : Int32))))))))
def fX7_isAsk (n : Nat) (to_askCount : Int32) (x1 : Int32) : Option (Int32) :=
(if x1 < 0 then
some (0 : Int32)
 else
(if to_askCount ≤ x1 then
some (0 : Int32)
 else
some (1 : Int32)))
def fJ6_bitCount_0f7a4 (n : Nat)  (x0 : Int32) : Option (Int32) :=
nm (x0 - (((x0.toUInt32 >>> ((1 : Int32).toUInt32 &&& Int32.toUInt32 31)).toInt32) &&& (1431655765 : Int32))) (fun v1 => nm ((v1 &&& (858993459 : Int32)) + (((v1.toUInt32 >>> ((2 : Int32).toUInt32 &&& Int32.toUInt32 31)).toInt32) &&& (858993459 : Int32))) (fun v2 => nm ((v2 + ((v2.toUInt32 >>> ((4 : Int32).toUInt32 &&& Int32.toUInt32 31)).toInt32)) &&& (252645135 : Int32)) (fun v3 => nm (v3 + ((v3.toUInt32 >>> ((8 : Int32).toUInt32 &&& Int32.toUInt32 31)).toInt32)) (fun v4 => nm (v4 + ((v4.toUInt32 >>> ((16 : Int32).toUInt32 &&& Int32.toUInt32 31)).toInt32)) (fun v5 => some (v5 &&& (63 : Int32)))))))
def fX8_ask (n : Nat) (to_asks : Nat → Int32) (to_askCount : Int32) (x1 : Int32) (x2 : Int32) : Option (Int32) :=
bd1 (fX7_isAsk n to_askCount x1) (fun v1 => (if v1 = 0 then
some (-1 : Int32)
 else
(if x2 < 0 then
some (-1 : Int32)
 else
(if x2 ≤ (1 : Int32) then
(if x2 = 0 then
ar x1 6 to_asks (fun v7 => bd1 (fJ6_bitCount_0f7a4 n v7) (fun v8 => some v8))
 else
ar x1 6 to_asks (fun v6 => some v6))
 else
some (-1 : Int32)))))
def fX8_isBlur (n : Nat)  (x0 : Int32) : Option (Int32) :=
(if x0 < 0 then
some (0 : Int32)
 else
(if (6 : Int32) ≤ x0 then
some (0 : Int32)
 else
some (1 : Int32)))
def fX7_rowAt (n : Nat) (to_rows : Nat → Int64) (x1 : Int32) (x2 : Int32) : Option (Int64) :=
ar ((x1 * (16 : Int32)) + x2) 96 to_rows (fun v1 => some v1)
def fX8_blurred (n : Nat) (to_rows : Nat → Int64) (to_words : Int32) (x1 : Int32) (x2 : Int32) (x3 : Int32) : Option (Int32) :=
bd1 (fX7_isWord n to_words x1) (fun v1 => (if v1 = 0 then
some (-1 : Int32)
 else
bd1 (fX8_isBlur n x2) (fun v3 => (if v3 = 0 then
some (-1 : Int32)
 else
(if 0 ≤ x3 then
bd1 (fX7_rowAt n to_rows x2 x1) (fun v6 => bd1 (fX3_markAt n v6 x3) (fun v7 => some v7))
 else
some (-1 : Int32))))))
def fX7_areAlike (n : Nat) (to_rows : Nat → Int64) (x1 : Int32) (x2 : Int32) (x3 : Int32) : Option (Int32) :=
bd1 (fX7_rowAt n to_rows x3 x1) (fun v1 => bd1 (fX7_rowAt n to_rows x3 x2) (fun v2 => (if (lg_cmp v1 v2) = 0 then
some (1 : Int32)
 else
some (0 : Int32))))
def fX8_apart (n : Nat) (to_rows : Nat → Int64) (to_words : Int32) (x1 : Int32) (x2 : Int32) (x3 : Int32) : Option (Int32) :=
bd1 (fX7_isWord n to_words x1) (fun v1 => (if v1 = 0 then
some (-1 : Int32)
 else
bd1 (fX7_isWord n to_words x2) (fun v3 => (if v3 = 0 then
some (-1 : Int32)
 else
bd1 (fX8_isBlur n x3) (fun v5 => (if v5 = 0 then
some (-1 : Int32)
 else
bd1 (fX7_areAlike n to_rows x1 x2 x3) (fun v7 => (if v7 = 0 then
some (1 : Int32)
 else
some (0 : Int32)))))))))
def fX8_until_p26 (n : Nat) (to_rows : Nat → Int64) (x1 : Int32) (x2 : Int32)  : Nat → Int32 → Option (Int32)
  | 0, _ => none
  | k + 1, x3 =>
    (if (6 : Int32) ≤ x3 then
    some (-4 : Int32)
     else
    bd1 (fX7_areAlike n to_rows x1 x2 x3) (fun v2 => (if v2 = 0 then
    fX8_until_p26 n to_rows x1 x2 k (x3 + 1)
     else
    some x3)))
def fX8_until (n : Nat) (to_rows : Nat → Int64) (to_words : Int32) (x1 : Int32) (x2 : Int32) : Option (Int32) :=
bd1 (fX7_isWord n to_words x1) (fun v1 => (if v1 = 0 then
some (-1 : Int32)
 else
bd1 (fX7_isWord n to_words x2) (fun v3 => (if v3 = 0 then
some (-1 : Int32)
 else
fX8_until_p26 n to_rows x1 x2 n (0 : Int32)))))
def fX7_allWords (n : Nat) (to_words : Int32)  : Option (Int32) :=
some (((1 : Int32) <<< (to_words &&& 31)) - (1 : Int32))
def fX7_alikeTo (n : Nat) (to_alike : Nat → Int32) (x1 : Int32) (x2 : Int32) : Option (Int32) :=
ar ((x2 * (16 : Int32)) + x1) 96 to_alike (fun v1 => some v1)
def fX7_cutOf_p5 (n : Nat) (to_alike : Nat → Int32) (to_words : Int32) (x1 : Int32) (x2 : Int32)  : Nat → Int32 → Int32 → Option (Int32)
  | 0, _, _ => none
  | k + 1, x3, x4 =>
    (if to_words ≤ x4 then
    some x3
     else
    bd1 (fX8_isIn n x1 x4) (fun v2 => (if v2 = 0 then
    fX7_cutOf_p5 n to_alike to_words x1 x2 k x3 (x4 + 1)
     else
    bd1 (fX7_alikeTo n to_alike x4 x2) (fun v4 => (if (v4 &&& x3) = 0 then
    nm (x3 ||| ((1 : Int32) <<< (x4 &&& 31))) (fun v6 => fX7_cutOf_p5 n to_alike to_words x1 x2 k v6 (x4 + 1))
     else
    fX7_cutOf_p5 n to_alike to_words x1 x2 k x3 (x4 + 1))))))
def fX7_cutOf (n : Nat) (to_alike : Nat → Int32) (to_words : Int32) (x1 : Int32) (x2 : Int32) : Option (Int32) :=
fX7_cutOf_p5 n to_alike to_words x1 x2 n (0 : Int32) (0 : Int32)
def fX7_alikePairs_p5 (n : Nat) (to_alike : Nat → Int32) (to_words : Int32) (x1 : Int32) (x2 : Int32)  : Nat → Int32 → Int32 → Option (Int32)
  | 0, _, _ => none
  | k + 1, x3, x4 =>
    (if to_words ≤ x4 then
    some (x3 / (2 : Int32))
     else
    bd1 (fX8_isIn n x1 x4) (fun v2 => (if v2 = 0 then
    fX7_alikePairs_p5 n to_alike to_words x1 x2 k x3 (x4 + 1)
     else
    bd1 (fX7_alikeTo n to_alike x4 x2) (fun v4 => bd1 (fJ6_bitCount_0f7a4 n (v4 &&& x1)) (fun v5 => nm (x3 + (v5 - (1 : Int32))) (fun v6 => fX7_alikePairs_p5 n to_alike to_words x1 x2 k v6 (x4 + 1)))))))
def fX7_alikePairs (n : Nat) (to_alike : Nat → Int32) (to_words : Int32) (x1 : Int32) (x2 : Int32) : Option (Int32) :=
fX7_alikePairs_p5 n to_alike to_words x1 x2 n (0 : Int32) (0 : Int32)
def fX8_cut_p62 (n : Nat) (to_alike : Nat → Int32) (to_words : Int32) (x2 : Int32) (x3 : Int32) (s0 : Int32)  : Option (Int32) :=
(if x3 = 0 then
bd1 (fX7_cutOf n to_alike to_words s0 x2) (fun v2 => bd1 (fJ6_bitCount_0f7a4 n v2) (fun v3 => some v3))
 else
(if x3 = 1 then
bd1 (fX7_cutOf n to_alike to_words s0 x2) (fun v5 => some v5)
 else
(if x3 = 2 then
bd1 (fX7_alikePairs n to_alike to_words s0 x2) (fun v7 => some v7)
 else
some (-1 : Int32))))
def fX8_cut_p29 (n : Nat) (to_alike : Nat → Int32) (to_asks : Nat → Int32) (to_words : Int32) (x1 : Int32) (x2 : Int32) (x3 : Int32) (x4 : Int32)   : Option (Int32) :=
bd1 (fX8_isBlur n x2) (fun v1 => (if v1 = 0 then
some (-1 : Int32)
 else
(if x4 = 0 then
ar x1 6 to_asks (fun v4 => fX8_cut_p62 n to_alike to_words x2 x3 v4)
 else
bd1 (fX7_allWords n to_words) (fun v5 => fX8_cut_p62 n to_alike to_words x2 x3 v5))))
def fX8_cut (n : Nat) (to_alike : Nat → Int32) (to_asks : Nat → Int32) (to_words : Int32) (to_askCount : Int32) (x1 : Int32) (x2 : Int32) (x3 : Int32) : Option (Int32) :=
(if x1 = (-4 : Int32) then
(if (1 : Int32) = 0 then
bd1 (fX7_isAsk n to_askCount x1) (fun v6 => (if v6 = 0 then
some (-1 : Int32)
 else
fX8_cut_p29 n to_alike to_asks to_words x1 x2 x3 (1 : Int32)))
 else
fX8_cut_p29 n to_alike to_asks to_words x1 x2 x3 (1 : Int32))
 else
(if (0 : Int32) = 0 then
bd1 (fX7_isAsk n to_askCount x1) (fun v3 => (if v3 = 0 then
some (-1 : Int32)
 else
fX8_cut_p29 n to_alike to_asks to_words x1 x2 x3 (0 : Int32)))
 else
fX8_cut_p29 n to_alike to_asks to_words x1 x2 x3 (0 : Int32)))
def fX4_isSheet (n : Nat)  (x0 : Int32) : Option (Int32) :=
(if x0 < 0 then
some (0 : Int32)
 else
(if (4 : Int32) ≤ x0 then
some (0 : Int32)
 else
some (1 : Int32)))
def fX4_isLane (n : Nat)  (x0 : Int32) : Option (Int32) :=
(if x0 < 0 then
some (0 : Int32)
 else
(if (2 : Int32) < x0 then
some (0 : Int32)
 else
some (1 : Int32)))
def fX4_faultOfRow (n : Nat) (sh_lanes : Nat → Int32) (sh_sizes : Nat → Int32) (x1 : Int32) (x2 : Int32) (x3 : Int32) (x4 : Int32) : Option (Int32) :=
ar x1 4 sh_sizes (fun v1 => (if v1 = (-1 : Int32) then
some (1 : Int32)
 else
ar x1 4 sh_lanes (fun v3 => (if v3 = x2 then
(if x4 ≤ 0 then
(if (0 : Int32) = 0 then
some (0 : Int32)
 else
some (2 : Int32))
 else
(if x3 < 0 then
(if (1 : Int32) = 0 then
some (0 : Int32)
 else
some (2 : Int32))
 else
ar x1 4 sh_sizes (fun v9 => (if x3 ≤ (v9 - x4) then
(if (0 : Int32) = 0 then
some (0 : Int32)
 else
some (2 : Int32))
 else
(if (1 : Int32) = 0 then
some (0 : Int32)
 else
some (2 : Int32))))))
 else
some (3 : Int32)))))
def fX4_cellAt (n : Nat) (sh_cells : Nat → Int32) (x1 : Int32) (x2 : Int32) : Option (Int32) :=
ar ((x1 * (60 : Int32)) + x2) 240 sh_cells (fun v1 => some v1)
def fX3_isMark (n : Nat)  (x0 : Int32) : Option (Int32) :=
(if x0 < 0 then
some (0 : Int32)
 else
(if (20 : Int32) < x0 then
some (0 : Int32)
 else
some (1 : Int32)))
def fX3_with (n : Nat)  (x0 : Int64) (x2 : Int32) (x3 : Int32) : Option (Int64) :=
some (x0 ||| (((x3 + (1 : Int32)).toInt64) <<< (((5 : Int32) * x2).toInt64 &&& 63)))
def fX7_withRow_p6 (n : Nat) (to_rows : Nat → Int64) (to_words : Int32) (x1 : Int32) (x2 : Int64)  : Nat → Int32 → Int32 → Option (Int32)
  | 0, _, _ => none
  | k + 1, x4, x5 =>
    (if to_words ≤ x5 then
    some x4
     else
    bd1 (fX7_rowAt n to_rows x1 x5) (fun v2 => (if (lg_cmp v2 x2) = 0 then
    nm (x4 ||| ((1 : Int32) <<< (x5 &&& 31))) (fun v4 => fX7_withRow_p6 n to_rows to_words x1 x2 k v4 (x5 + 1))
     else
    fX7_withRow_p6 n to_rows to_words x1 x2 k x4 (x5 + 1))))
def fX7_withRow (n : Nat) (to_rows : Nat → Int64) (to_words : Int32) (x1 : Int32) (x2 : Int64) : Option (Int32) :=
fX7_withRow_p6 n to_rows to_words x1 x2 n (0 : Int32) (0 : Int32)
def fX7_meantBy (n : Nat) (to_rows : Nat → Int64) (to_asks : Nat → Int32) (to_words : Int32) (x1 : Int32) (x2 : Int32) (x3 : Int64) : Option (Int32) :=
ar x1 6 to_asks (fun v1 => bd1 (fX7_withRow n to_rows to_words x2 x3) (fun v2 => some (v1 &&& v2)))
def fX8_means_p80 (n : Nat) (sh_cells : Nat → Int32) (to_rows : Nat → Int64) (to_asks : Nat → Int32) (to_words : Int32) (x1 : Int32) (x2 : Int32) (x3 : Int32) (x5 : Int32) (x6 : Int32)  : Nat → Int64 → Int32 → Option (Int32)
  | 0, _, _ => none
  | k + 1, x8, x10 =>
    (if x6 ≤ x10 then
    bd1 (fX7_meantBy n to_rows to_asks to_words x1 x2 x8) (fun v2 => some v2)
     else
    bd1 (fX4_cellAt n sh_cells x3 (x5 + x10)) (fun v3 => bd1 (fX3_isMark n v3) (fun v4 => (if v4 = 0 then
    some (0 : Int32)
     else
    bd1 (fX3_with n x8 x10 v3) (fun v6 => fX8_means_p80 n sh_cells to_rows to_asks to_words x1 x2 x3 x5 x6 k v6 (x10 + 1))))))
def fX8_means (n : Nat) (sh_lanes : Nat → Int32) (sh_sizes : Nat → Int32) (sh_cells : Nat → Int32) (to_rows : Nat → Int64) (to_asks : Nat → Int32) (to_words : Int32) (to_askCount : Int32) (x1 : Int32) (x2 : Int32) (x3 : Int32) (x4 : Int32) (x5 : Int32) (x6 : Int32) : Option (Int32) :=
bd1 (fX7_isAsk n to_askCount x1) (fun v1 => (if v1 = 0 then
some (-1 : Int32)
 else
bd1 (fX8_isBlur n x2) (fun v3 => (if v3 = 0 then
some (-1 : Int32)
 else
bd1 (fX4_isSheet n x3) (fun v5 => (if v5 = 0 then
some (-1 : Int32)
 else
bd1 (fX4_isLane n x4) (fun v7 => (if v7 = 0 then
some (-1 : Int32)
 else
(if x6 < 0 then
some (-1 : Int32)
 else
(if x6 ≤ (8 : Int32) then
bd1 (fX4_faultOfRow n sh_lanes sh_sizes x3 x4 x5 x6) (fun v11 => (if v11 = 0 then
fX8_means_p80 n sh_cells to_rows to_asks to_words x1 x2 x3 x5 x6 n (0 : Int64) (0 : Int32)
 else
some ((-10 : Int32) - v11)))
 else
some (-1 : Int32)))))))))))
def fX7_fits (n : Nat) (to_asks : Nat → Int32) (to_words : Int32) (to_askCount : Int32) (x1 : Int32) (x2 : Int32) : Option (Int32) :=
bd1 (fX7_isAsk n to_askCount x1) (fun v1 => (if v1 = 0 then
some (0 : Int32)
 else
bd1 (fX7_isWord n to_words x2) (fun v3 => (if v3 = 0 then
some (0 : Int32)
 else
ar x1 6 to_asks (fun v5 => bd1 (fX8_isIn n v5 x2) (fun v6 => (if v6 = 0 then
some (0 : Int32)
 else
some (1 : Int32))))))))
def fX7_heardAs (n : Nat) (to_alike : Nat → Int32) (to_asks : Nat → Int32) (x1 : Int32) (x2 : Int32) (x3 : Int32) : Option (Int32) :=
ar x1 6 to_asks (fun v1 => bd1 (fX7_alikeTo n to_alike x2 x3) (fun v2 => some (v1 &&& v2)))
def fX8_both (n : Nat) (to_alike : Nat → Int32) (to_asks : Nat → Int32) (to_words : Int32) (to_askCount : Int32) (x1 : Int32) (x2 : Int32) (x3 : Int32) (x4 : Int32) : Option (Int32) :=
bd1 (fX7_fits n to_asks to_words to_askCount x1 x2) (fun v1 => (if v1 = 0 then
some (-1 : Int32)
 else
bd1 (fX8_isBlur n x3) (fun v3 => (if v3 = 0 then
some (-1 : Int32)
 else
bd1 (fX8_isBlur n x4) (fun v5 => (if v5 = 0 then
some (-1 : Int32)
 else
bd1 (fX7_heardAs n to_alike to_asks x1 x2 x3) (fun v7 => bd1 (fX7_heardAs n to_alike to_asks x1 x2 x4) (fun v8 => some (v7 &&& v8)))))))))
def fX7_isSure (n : Nat) (to_alike : Nat → Int32) (to_asks : Nat → Int32) (x1 : Int32) (x2 : Int32) (x3 : Int32) : Option (Int32) :=
bd1 (fX7_heardAs n to_alike to_asks x1 x2 x3) (fun v1 => bd1 (fJ6_bitCount_0f7a4 n v1) (fun v2 => (if v2 = (1 : Int32) then
some (1 : Int32)
 else
some (0 : Int32))))
def fX8_sure_p16 (n : Nat) (to_alike : Nat → Int32) (to_asks : Nat → Int32) (x1 : Int32) (x2 : Int32)  : Nat → Int32 → Option (Int32)
  | 0, _ => none
  | k + 1, x3 =>
    (if x3 < 0 then
    some (-4 : Int32)
     else
    bd1 (fX7_isSure n to_alike to_asks x1 x2 x3) (fun v2 => (if v2 = 0 then
    fX8_sure_p16 n to_alike to_asks x1 x2 k (x3 + (-1))
     else
    some x3)))
def fX8_sure (n : Nat) (to_alike : Nat → Int32) (to_asks : Nat → Int32) (to_words : Int32) (to_askCount : Int32) (x1 : Int32) (x2 : Int32) : Option (Int32) :=
bd1 (fX7_fits n to_asks to_words to_askCount x1 x2) (fun v1 => (if v1 = 0 then
some (-1 : Int32)
 else
fX8_sure_p16 n to_alike to_asks x1 x2 n (5 : Int32)))
def fX8_isMeasure (n : Nat)  (x0 : Int32) : Option (Int32) :=
(if x0 < 0 then
some (0 : Int32)
 else
(if (100 : Int32) ≤ x0 then
some (0 : Int32)
 else
some (1 : Int32)))
def fX1_addPlace (n : Nat) (la_xs : Nat → Int32) (la_ys : Nat → Int32) (la_heights : Nat → Int32) (la_places : Int32) (x1 : Int32) (x2 : Int32) (x3 : Int32) : Option (Int32 × (Nat → Int32) × (Nat → Int32) × (Nat → Int32) × Int32) :=
(if la_places < (10 : Int32) then
aw la_places 10 la_xs x1 (fun f2 => aw la_places 10 la_ys x2 (fun f3 => aw la_places 10 la_heights x3 (fun f4 => nm (la_places + (1 : Int32)) (fun v5 => some ((1 : Int32), f2, f3, f4, v5)))))
 else
some ((0 : Int32), la_xs, la_ys, la_heights, la_places))
def fX8_place (n : Nat) (la_xs : Nat → Int32) (la_ys : Nat → Int32) (la_heights : Nat → Int32) (la_places : Int32) (x1 : Int32) (x2 : Int32) (x3 : Int32) : Option (Int32 × (Nat → Int32) × (Nat → Int32) × (Nat → Int32) × Int32) :=
bd1 (fX8_isMeasure n x1) (fun v1 => (if v1 = 0 then
some ((-1 : Int32), la_xs, la_ys, la_heights, la_places)
 else
bd1 (fX8_isMeasure n x2) (fun v3 => (if v3 = 0 then
some ((-1 : Int32), la_xs, la_ys, la_heights, la_places)
 else
bd1 (fX8_isMeasure n x3) (fun v5 => (if v5 = 0 then
some ((-1 : Int32), la_xs, la_ys, la_heights, la_places)
 else
bd5 (fX1_addPlace n la_xs la_ys la_heights la_places x1 x2 x3) (fun v7 f8 f9 f10 v11 => (if v7 = 0 then
some ((-3 : Int32), f8, f9, f10, v11)
 else
some (v11 - (1 : Int32), f8, f9, f10, v11)))))))))
def fX1_addRidge (n : Nat) (la_ridgeXs : Nat → Int32) (la_ridgeHeights : Nat → Int32) (la_ridges : Int32) (x1 : Int32) (x2 : Int32) : Option (Int32 × (Nat → Int32) × (Nat → Int32) × Int32) :=
(if la_ridges < (6 : Int32) then
aw la_ridges 6 la_ridgeXs x1 (fun f2 => aw la_ridges 6 la_ridgeHeights x2 (fun f3 => nm (la_ridges + (1 : Int32)) (fun v4 => some ((1 : Int32), f2, f3, v4))))
 else
some ((0 : Int32), la_ridgeXs, la_ridgeHeights, la_ridges))
def fX8_ridge (n : Nat) (la_ridgeXs : Nat → Int32) (la_ridgeHeights : Nat → Int32) (la_ridges : Int32) (x1 : Int32) (x2 : Int32) : Option (Int32 × (Nat → Int32) × (Nat → Int32) × Int32) :=
bd1 (fX8_isMeasure n x1) (fun v1 => (if v1 = 0 then
some ((-1 : Int32), la_ridgeXs, la_ridgeHeights, la_ridges)
 else
bd1 (fX8_isMeasure n x2) (fun v3 => (if v3 = 0 then
some ((-1 : Int32), la_ridgeXs, la_ridgeHeights, la_ridges)
 else
bd4 (fX1_addRidge n la_ridgeXs la_ridgeHeights la_ridges x1 x2) (fun v5 f6 f7 v8 => (if v5 = 0 then
some ((-3 : Int32), f6, f7, v8)
 else
some (v8, f6, f7, v8)))))))
def fX4_renew_p17 (n : Nat) (sh_lanes : Nat → Int32) (sh_sizes : Nat → Int32) (x1 : Int32) (x3 : Int32)  : Nat → (Nat → Int32) → Int32 → Option ((Nat → Int32) × (Nat → Int32) × (Nat → Int32))
  | 0, _, _ => none
  | k + 1, sh_cells, x4 =>
    (if x3 ≤ x4 then
    some (sh_lanes, sh_sizes, sh_cells)
     else
    aw ((x1 * (60 : Int32)) + x4) 240 sh_cells (0 : Int32) (fun f2 => fX4_renew_p17 n sh_lanes sh_sizes x1 x3 k f2 (x4 + 1)))
def fX4_renew (n : Nat) (sh_lanes : Nat → Int32) (sh_sizes : Nat → Int32) (sh_cells : Nat → Int32) (x1 : Int32) (x2 : Int32) (x3 : Int32) : Option ((Nat → Int32) × (Nat → Int32) × (Nat → Int32)) :=
aw x1 4 sh_lanes x2 (fun f1 => aw x1 4 sh_sizes x3 (fun f2 => fX4_renew_p17 n f1 f2 x1 x3 n sh_cells (0 : Int32)))
def fX8_sheet (n : Nat) (sh_lanes : Nat → Int32) (sh_sizes : Nat → Int32) (sh_cells : Nat → Int32) (x1 : Int32) (x2 : Int32) (x3 : Int32) : Option (Int32 × (Nat → Int32) × (Nat → Int32) × (Nat → Int32)) :=
bd1 (fX4_isSheet n x1) (fun v1 => (if v1 = 0 then
some ((-1 : Int32), sh_lanes, sh_sizes, sh_cells)
 else
bd1 (fX4_isLane n x2) (fun v3 => (if v3 = 0 then
some ((-1 : Int32), sh_lanes, sh_sizes, sh_cells)
 else
(if x3 ≤ (60 : Int32) then
(if 0 ≤ x3 then
bd3 (fX4_renew n sh_lanes sh_sizes sh_cells x1 x2 x3) (fun f7 f8 f9 => some ((1 : Int32), f7, f8, f9))
 else
some ((-14 : Int32), sh_lanes, sh_sizes, sh_cells))
 else
some ((-1 : Int32), sh_lanes, sh_sizes, sh_cells))))))
def fX4_put (n : Nat) (sh_lanes : Nat → Int32) (sh_cells : Nat → Int32) (x1 : Int32) (x2 : Int32) (x3 : Int32) : Option ((Nat → Int32)) :=
ar x1 4 sh_lanes (fun v1 => (if v1 = 0 then
nm (x3.toInt8.toInt32) (fun v8 => aw ((x1 * (60 : Int32)) + x2) 240 sh_cells v8 (fun f9 => some f9))
 else
ar x1 4 sh_lanes (fun v3 => (if v3 = (1 : Int32) then
nm (x3.toInt16.toInt32) (fun v6 => aw ((x1 * (60 : Int32)) + x2) 240 sh_cells v6 (fun f7 => some f7))
 else
aw ((x1 * (60 : Int32)) + x2) 240 sh_cells x3 (fun f5 => some f5)))))
def fX8_lay (n : Nat) (sh_lanes : Nat → Int32) (sh_sizes : Nat → Int32) (sh_cells : Nat → Int32) (x1 : Int32) (x2 : Int32) (x3 : Int32) : Option (Int32 × (Nat → Int32)) :=
bd1 (fX4_isSheet n x1) (fun v1 => (if v1 = 0 then
some ((-1 : Int32), sh_cells)
 else
ar x1 4 sh_lanes (fun v3 => bd1 (fX4_faultOfRow n sh_lanes sh_sizes x1 v3 x2 (1 : Int32)) (fun v4 => (if v4 = 0 then
bd1 (fX4_put n sh_lanes sh_cells x1 x2 x3) (fun f6 => some ((1 : Int32), f6))
 else
some ((-10 : Int32) - v4, sh_cells))))))
def fX8_isHour (n : Nat)  (x0 : Int32) : Option (Int32) :=
(if x0 < 0 then
some (0 : Int32)
 else
(if (24 : Int32) ≤ x0 then
some (0 : Int32)
 else
some (1 : Int32)))
def fX4_windAt (n : Nat) (sh_lanes : Nat → Int32) (sh_sizes : Nat → Int32) (sh_cells : Nat → Int32) (x1 : Int32) : Option (Int32) :=
bd1 (fX4_faultOfRow n sh_lanes sh_sizes (0 : Int32) (0 : Int32) x1 (1 : Int32)) (fun v1 => (if v1 = 0 then
bd1 (fX4_cellAt n sh_cells (0 : Int32) x1) (fun v3 => nm ((if v3 < (2 : Int32) then v3 else (2 : Int32))) (fun v4 => nm ((if (-2 : Int32) < v4 then v4 else (-2 : Int32))) (fun v5 => some v5)))
 else
some (9 : Int32)))
def fX4_faultOfWind (n : Nat) (sh_lanes : Nat → Int32) (sh_sizes : Nat → Int32) (x1 : Int32) : Option (Int32) :=
bd1 (fX4_faultOfRow n sh_lanes sh_sizes (0 : Int32) (0 : Int32) x1 (1 : Int32)) (fun v1 => some v1)
def fX8_wind (n : Nat) (sh_lanes : Nat → Int32) (sh_sizes : Nat → Int32) (sh_cells : Nat → Int32) (x1 : Int32) (x2 : Int32) : Option (Int32) :=
bd1 (fX8_isHour n x1) (fun v1 => (if v1 = 0 then
some (-10 : Int32)
 else
(if x2 < 0 then
some (-10 : Int32)
 else
(if x2 ≤ (1 : Int32) then
(if x2 = 0 then
bd1 (fX4_windAt n sh_lanes sh_sizes sh_cells x1) (fun v7 => some v7)
 else
bd1 (fX4_faultOfWind n sh_lanes sh_sizes x1) (fun v6 => some v6))
 else
some (-10 : Int32)))))
def fX1_isPlace (n : Nat) (la_places : Int32) (x1 : Int32) : Option (Int32) :=
(if x1 < 0 then
some (0 : Int32)
 else
(if la_places ≤ x1 then
some (0 : Int32)
 else
some (1 : Int32)))
def fJ6_signum_0f7a4 (n : Nat)  (x0 : Int32) : Option (Int32) :=
some ((x0 >>> ((31 : Int32) &&& 31)) ||| (((-x0).toUInt32 >>> ((31 : Int32).toUInt32 &&& Int32.toUInt32 31)).toInt32))
def fX1_blurOfRidges_p94 (n : Nat) (la_heights : Nat → Int32) (la_ridgeXs : Nat → Int32) (la_ridgeHeights : Nat → Int32) (la_ridges : Int32) (x1 : Int32) (x2 : Int32) (x3 : Int32) (x4 : Int32) (x6 : Int32) (s0 : Int32) (s1 : Int32) (rec39 : Int32 → Int32 → Option (Int32)) : Option (Int32) :=
nm (s0 + s1) (fun v1 => ar x6 6 la_ridgeHeights (fun v2 => ar x2 10 la_heights (fun v3 => (if v2 ≤ v3 then
nm (v1 + (0 : Int32)) (fun v5 => rec39 v5 (x6 + 1))
 else
nm (v1 + (1 : Int32)) (fun v6 => rec39 v6 (x6 + 1))))))
def fX1_blurOfRidges_p39 (n : Nat) (la_heights : Nat → Int32) (la_ridgeXs : Nat → Int32) (la_ridgeHeights : Nat → Int32) (la_ridges : Int32) (x1 : Int32) (x2 : Int32) (x3 : Int32) (x4 : Int32)  : Nat → Int32 → Int32 → Option (Int32)
  | 0, _, _ => none
  | k + 1, x5, x6 =>
    (if la_ridges ≤ x6 then
    some x5
     else
    ar x6 6 la_ridgeXs (fun v2 => (if v2 ≤ x3 then
    fX1_blurOfRidges_p39 n la_heights la_ridgeXs la_ridgeHeights la_ridges x1 x2 x3 x4 k x5 (x6 + 1)
     else
    ar x6 6 la_ridgeXs (fun v4 => (if x4 < v4 then
    fX1_blurOfRidges_p39 n la_heights la_ridgeXs la_ridgeHeights la_ridges x1 x2 x3 x4 k x5 (x6 + 1)
     else
    ar x6 6 la_ridgeHeights (fun v6 => ar x1 10 la_heights (fun v7 => (if v6 ≤ v7 then
    fX1_blurOfRidges_p94 n la_heights la_ridgeXs la_ridgeHeights la_ridges x1 x2 x3 x4 x6 x5 (0 : Int32) (fX1_blurOfRidges_p39 n la_heights la_ridgeXs la_ridgeHeights la_ridges x1 x2 x3 x4 k)
     else
    fX1_blurOfRidges_p94 n la_heights la_ridgeXs la_ridgeHeights la_ridges x1 x2 x3 x4 x6 x5 (1 : Int32) (fX1_blurOfRidges_p39 n la_heights la_ridgeXs la_ridgeHeights la_ridges x1 x2 x3 x4 k)))))))))
def fX1_blurOfRidges (n : Nat) (la_xs : Nat → Int32) (la_heights : Nat → Int32) (la_ridgeXs : Nat → Int32) (la_ridgeHeights : Nat → Int32) (la_ridges : Int32) (x1 : Int32) (x2 : Int32) : Option (Int32) :=
ar x1 10 la_xs (fun v1 => ar x2 10 la_xs (fun v2 => nm ((if v2 < v1 then v2 else v1)) (fun v3 => ar x1 10 la_xs (fun v4 => ar x2 10 la_xs (fun v5 => nm ((if v4 < v5 then v5 else v4)) (fun v6 => fX1_blurOfRidges_p39 n la_heights la_ridgeXs la_ridgeHeights la_ridges x1 x2 v3 v6 n (0 : Int32) (0 : Int32)))))))
def fX1_blurFrom_p82 (n : Nat) (la_xs : Nat → Int32) (la_heights : Nat → Int32) (la_ridgeXs : Nat → Int32) (la_ridgeHeights : Nat → Int32) (la_ridges : Int32) (x1 : Int32) (x2 : Int32) (x4 : Int32) (s0 : Int32)  : Option (Int32) :=
bd1 (fX1_blurOfRidges n la_xs la_heights la_ridgeXs la_ridgeHeights la_ridges x1 x2) (fun v1 => nm ((if (0 : Int32) < (((x4 / (20 : Int32)) + v1) + s0) then (((x4 / (20 : Int32)) + v1) + s0) else (0 : Int32))) (fun v2 => some v2))
def fX1_blurFrom (n : Nat) (sh_lanes : Nat → Int32) (sh_sizes : Nat → Int32) (sh_cells : Nat → Int32) (la_xs : Nat → Int32) (la_ys : Nat → Int32) (la_heights : Nat → Int32) (la_ridgeXs : Nat → Int32) (la_ridgeHeights : Nat → Int32) (la_ridges : Int32) (x1 : Int32) (x2 : Int32) (x3 : Int32) : Option (Int32) :=
(if x1 = x2 then
some (0 : Int32)
 else
ar x1 10 la_xs (fun v2 => ar x2 10 la_xs (fun v3 => nm ((if 0 ≤ (v2 - v3) then (v2 - v3) else 0 - (v2 - v3))) (fun v4 => ar x1 10 la_ys (fun v5 => ar x2 10 la_ys (fun v6 => nm ((if 0 ≤ (v5 - v6) then (v5 - v6) else 0 - (v5 - v6))) (fun v7 => nm (v4 + v7) (fun v8 => bd1 (fX4_windAt n sh_lanes sh_sizes sh_cells x3) (fun v9 => (if v9 = (9 : Int32) then
fX1_blurFrom_p82 n la_xs la_heights la_ridgeXs la_ridgeHeights la_ridges x1 x2 v8 (2 : Int32)
 else
ar x1 10 la_xs (fun v11 => ar x2 10 la_xs (fun v12 => bd1 (fJ6_signum_0f7a4 n (v11 - v12)) (fun v13 => fX1_blurFrom_p82 n la_xs la_heights la_ridgeXs la_ridgeHeights la_ridges x1 x2 v8 (v13 * v9))))))))))))))
def fX8_blur (n : Nat) (sh_lanes : Nat → Int32) (sh_sizes : Nat → Int32) (sh_cells : Nat → Int32) (la_xs : Nat → Int32) (la_ys : Nat → Int32) (la_heights : Nat → Int32) (la_ridgeXs : Nat → Int32) (la_ridgeHeights : Nat → Int32) (la_places : Int32) (la_ridges : Int32) (x1 : Int32) (x2 : Int32) (x3 : Int32) : Option (Int32) :=
bd1 (fX1_isPlace n la_places x1) (fun v1 => (if v1 = 0 then
some (-1 : Int32)
 else
bd1 (fX1_isPlace n la_places x2) (fun v3 => (if v3 = 0 then
some (-1 : Int32)
 else
bd1 (fX8_isHour n x3) (fun v5 => (if v5 = 0 then
some (-1 : Int32)
 else
bd1 (fX1_blurFrom n sh_lanes sh_sizes sh_cells la_xs la_ys la_heights la_ridgeXs la_ridgeHeights la_ridges x1 x2 x3) (fun v7 => some v7)))))))
def fX1_hearersOf_p5 (n : Nat) (sh_lanes : Nat → Int32) (sh_sizes : Nat → Int32) (sh_cells : Nat → Int32) (la_xs : Nat → Int32) (la_ys : Nat → Int32) (la_heights : Nat → Int32) (la_ridgeXs : Nat → Int32) (la_ridgeHeights : Nat → Int32) (la_places : Int32) (la_ridges : Int32) (x1 : Int32) (x2 : Int32)  : Nat → Int32 → Int32 → Option (Int32)
  | 0, _, _ => none
  | k + 1, x3, x4 =>
    (if la_places ≤ x4 then
    some x3
     else
    (if x4 = x1 then
    fX1_hearersOf_p5 n sh_lanes sh_sizes sh_cells la_xs la_ys la_heights la_ridgeXs la_ridgeHeights la_places la_ridges x1 x2 k x3 (x4 + 1)
     else
    bd1 (fX1_blurFrom n sh_lanes sh_sizes sh_cells la_xs la_ys la_heights la_ridgeXs la_ridgeHeights la_ridges x1 x4 x2) (fun v3 => (if (5 : Int32) < v3 then
    fX1_hearersOf_p5 n sh_lanes sh_sizes sh_cells la_xs la_ys la_heights la_ridgeXs la_ridgeHeights la_places la_ridges x1 x2 k x3 (x4 + 1)
     else
    nm (x3 ||| ((1 : Int32) <<< (x4 &&& 31))) (fun v5 => fX1_hearersOf_p5 n sh_lanes sh_sizes sh_cells la_xs la_ys la_heights la_ridgeXs la_ridgeHeights la_places la_ridges x1 x2 k v5 (x4 + 1))))))
def fX1_hearersOf (n : Nat) (sh_lanes : Nat → Int32) (sh_sizes : Nat → Int32) (sh_cells : Nat → Int32) (la_xs : Nat → Int32) (la_ys : Nat → Int32) (la_heights : Nat → Int32) (la_ridgeXs : Nat → Int32) (la_ridgeHeights : Nat → Int32) (la_places : Int32) (la_ridges : Int32) (x1 : Int32) (x2 : Int32) : Option (Int32) :=
fX1_hearersOf_p5 n sh_lanes sh_sizes sh_cells la_xs la_ys la_heights la_ridgeXs la_ridgeHeights la_places la_ridges x1 x2 n (0 : Int32) (0 : Int32)
def fX1_heardFrom_p5 (n : Nat) (sh_lanes : Nat → Int32) (sh_sizes : Nat → Int32) (sh_cells : Nat → Int32) (la_xs : Nat → Int32) (la_ys : Nat → Int32) (la_heights : Nat → Int32) (la_ridgeXs : Nat → Int32) (la_ridgeHeights : Nat → Int32) (la_places : Int32) (la_ridges : Int32) (x1 : Int32) (x2 : Int32)  : Nat → Int32 → Int32 → Option (Int32)
  | 0, _, _ => none
  | k + 1, x3, x4 =>
    (if la_places ≤ x4 then
    some x3
     else
    (if x4 = x1 then
    fX1_heardFrom_p5 n sh_lanes sh_sizes sh_cells la_xs la_ys la_heights la_ridgeXs la_ridgeHeights la_places la_ridges x1 x2 k x3 (x4 + 1)
     else
    bd1 (fX1_blurFrom n sh_lanes sh_sizes sh_cells la_xs la_ys la_heights la_ridgeXs la_ridgeHeights la_ridges x4 x1 x2) (fun v3 => (if (5 : Int32) < v3 then
    fX1_heardFrom_p5 n sh_lanes sh_sizes sh_cells la_xs la_ys la_heights la_ridgeXs la_ridgeHeights la_places la_ridges x1 x2 k x3 (x4 + 1)
     else
    nm (x3 ||| ((1 : Int32) <<< (x4 &&& 31))) (fun v5 => fX1_heardFrom_p5 n sh_lanes sh_sizes sh_cells la_xs la_ys la_heights la_ridgeXs la_ridgeHeights la_places la_ridges x1 x2 k v5 (x4 + 1))))))
def fX1_heardFrom (n : Nat) (sh_lanes : Nat → Int32) (sh_sizes : Nat → Int32) (sh_cells : Nat → Int32) (la_xs : Nat → Int32) (la_ys : Nat → Int32) (la_heights : Nat → Int32) (la_ridgeXs : Nat → Int32) (la_ridgeHeights : Nat → Int32) (la_places : Int32) (la_ridges : Int32) (x1 : Int32) (x2 : Int32) : Option (Int32) :=
fX1_heardFrom_p5 n sh_lanes sh_sizes sh_cells la_xs la_ys la_heights la_ridgeXs la_ridgeHeights la_places la_ridges x1 x2 n (0 : Int32) (0 : Int32)
def fX8_hears (n : Nat) (sh_lanes : Nat → Int32) (sh_sizes : Nat → Int32) (sh_cells : Nat → Int32) (la_xs : Nat → Int32) (la_ys : Nat → Int32) (la_heights : Nat → Int32) (la_ridgeXs : Nat → Int32) (la_ridgeHeights : Nat → Int32) (la_places : Int32) (la_ridges : Int32) (x1 : Int32) (x2 : Int32) (x3 : Int32) : Option (Int32) :=
bd1 (fX1_isPlace n la_places x1) (fun v1 => (if v1 = 0 then
some (-1 : Int32)
 else
bd1 (fX8_isHour n x2) (fun v3 => (if v3 = 0 then
some (-1 : Int32)
 else
(if x3 = 0 then
bd1 (fX1_hearersOf n sh_lanes sh_sizes sh_cells la_xs la_ys la_heights la_ridgeXs la_ridgeHeights la_places la_ridges x1 x2) (fun v6 => bd1 (fJ6_bitCount_0f7a4 n v6) (fun v7 => some v7))
 else
(if x3 = 1 then
bd1 (fX1_heardFrom n sh_lanes sh_sizes sh_cells la_xs la_ys la_heights la_ridgeXs la_ridgeHeights la_places la_ridges x1 x2) (fun v9 => bd1 (fJ6_bitCount_0f7a4 n v9) (fun v10 => some v10))
 else
(if x3 = 2 then
bd1 (fX1_hearersOf n sh_lanes sh_sizes sh_cells la_xs la_ys la_heights la_ridgeXs la_ridgeHeights la_places la_ridges x1 x2) (fun v12 => some v12)
 else
some (-1 : Int32))))))))
def fX1_measureBlurs_p12 (n : Nat) (sh_lanes : Nat → Int32) (sh_sizes : Nat → Int32) (sh_cells : Nat → Int32) (la_xs : Nat → Int32) (la_ys : Nat → Int32) (la_heights : Nat → Int32) (la_ridgeXs : Nat → Int32) (la_ridgeHeights : Nat → Int32) (la_places : Int32) (la_ridges : Int32) (x1 : Int32) (x2 : Int32) (rec2 : (Nat → Int32) → Int32 → Option ((Nat → Int32))) : Nat → (Nat → Int32) → Int32 → Option ((Nat → Int32))
  | 0, _, _ => none
  | k + 1, la_blurs, x3 =>
    (if la_places ≤ x3 then
    rec2 la_blurs (x2 + 1)
     else
    bd1 (fX1_blurFrom n sh_lanes sh_sizes sh_cells la_xs la_ys la_heights la_ridgeXs la_ridgeHeights la_ridges x2 x3 x1) (fun v2 => aw ((x2 * (10 : Int32)) + x3) 100 la_blurs v2 (fun f3 => fX1_measureBlurs_p12 n sh_lanes sh_sizes sh_cells la_xs la_ys la_heights la_ridgeXs la_ridgeHeights la_places la_ridges x1 x2 rec2 k f3 (x3 + 1))))
def fX1_measureBlurs_p2 (n : Nat) (sh_lanes : Nat → Int32) (sh_sizes : Nat → Int32) (sh_cells : Nat → Int32) (la_xs : Nat → Int32) (la_ys : Nat → Int32) (la_heights : Nat → Int32) (la_ridgeXs : Nat → Int32) (la_ridgeHeights : Nat → Int32) (la_places : Int32) (la_ridges : Int32) (x1 : Int32)  : Nat → (Nat → Int32) → Int32 → Option ((Nat → Int32))
  | 0, _, _ => none
  | k + 1, la_blurs, x2 =>
    (if la_places ≤ x2 then
    some la_blurs
     else
    fX1_measureBlurs_p12 n sh_lanes sh_sizes sh_cells la_xs la_ys la_heights la_ridgeXs la_ridgeHeights la_places la_ridges x1 x2 (fX1_measureBlurs_p2 n sh_lanes sh_sizes sh_cells la_xs la_ys la_heights la_ridgeXs la_ridgeHeights la_places la_ridges x1 k) n la_blurs (0 : Int32))
def fX1_measureBlurs (n : Nat) (sh_lanes : Nat → Int32) (sh_sizes : Nat → Int32) (sh_cells : Nat → Int32) (la_xs : Nat → Int32) (la_ys : Nat → Int32) (la_heights : Nat → Int32) (la_ridgeXs : Nat → Int32) (la_ridgeHeights : Nat → Int32) (la_blurs : Nat → Int32) (la_places : Int32) (la_ridges : Int32) (x1 : Int32) : Option ((Nat → Int32)) :=
fX1_measureBlurs_p2 n sh_lanes sh_sizes sh_cells la_xs la_ys la_heights la_ridgeXs la_ridgeHeights la_places la_ridges x1 n la_blurs (0 : Int32)
def fX1_nextOnWay_p3 (n : Nat) (la_blurs : Nat → Int32) (la_steps : Nat → Int32) (la_places : Int32) (x1 : Int32) (x2 : Int32) (x3 : Int32)  : Nat → Int32 → Option (Int32)
  | 0, _ => none
  | k + 1, x4 =>
    (if la_places ≤ x4 then
    some (-4 : Int32)
     else
    ar x4 10 la_steps (fun v2 => (if v2 = x2 then
    ar ((x1 * (10 : Int32)) + x4) 100 la_blurs (fun v4 => (if x3 < v4 then
    fX1_nextOnWay_p3 n la_blurs la_steps la_places x1 x2 x3 k (x4 + 1)
     else
    some x4))
     else
    fX1_nextOnWay_p3 n la_blurs la_steps la_places x1 x2 x3 k (x4 + 1))))
def fX1_nextOnWay (n : Nat) (la_blurs : Nat → Int32) (la_steps : Nat → Int32) (la_places : Int32) (x1 : Int32) (x2 : Int32) (x3 : Int32) : Option (Int32) :=
fX1_nextOnWay_p3 n la_blurs la_steps la_places x1 x2 x3 n (0 : Int32)
def fX1_countSteps_p28 (n : Nat) (la_blurs : Nat → Int32) (la_places : Int32) (x2 : Int32) (x3 : Int32) (rec17 : (Nat → Int32) → Int32 → Option ((Nat → Int32))) : Nat → (Nat → Int32) → Int32 → Option ((Nat → Int32))
  | 0, _, _ => none
  | k + 1, la_steps, x4 =>
    (if la_places ≤ x4 then
    rec17 la_steps (x3 + 1)
     else
    ar x4 10 la_steps (fun v2 => (if v2 = (-1 : Int32) then
    bd1 (fX1_nextOnWay n la_blurs la_steps la_places x4 (x3 - (1 : Int32)) x2) (fun v4 => (if v4 = (-4 : Int32) then
    fX1_countSteps_p28 n la_blurs la_places x2 x3 rec17 k la_steps (x4 + 1)
     else
    aw x4 10 la_steps x3 (fun f6 => fX1_countSteps_p28 n la_blurs la_places x2 x3 rec17 k f6 (x4 + 1))))
     else
    fX1_countSteps_p28 n la_blurs la_places x2 x3 rec17 k la_steps (x4 + 1))))
def fX1_countSteps_p17 (n : Nat) (la_blurs : Nat → Int32) (la_places : Int32) (x2 : Int32)  : Nat → (Nat → Int32) → Int32 → Option ((Nat → Int32))
  | 0, _, _ => none
  | k + 1, la_steps, x3 =>
    (if la_places ≤ x3 then
    some la_steps
     else
    fX1_countSteps_p28 n la_blurs la_places x2 x3 (fX1_countSteps_p17 n la_blurs la_places x2 k) n la_steps (0 : Int32))
def fX1_countSteps (n : Nat) (la_blurs : Nat → Int32) (la_steps : Nat → Int32) (la_places : Int32) (x1 : Int32) (x2 : Int32) : Option ((Nat → Int32)) :=
bd1 (fJ7_fill_53178 n 10 la_steps (-1 : Int32)) (fun f1 => aw x1 10 f1 (0 : Int32) (fun f2 => fX1_countSteps_p17 n la_blurs la_places x2 n f2 (1 : Int32)))
def fX1_walkWay_p24 (n : Nat) (la_blurs : Nat → Int32) (la_steps : Nat → Int32) (la_places : Int32) (la_wayLength : Int32) (x2 : Int32)  : Nat → (Nat → Int32) → Int32 → Int32 → Option ((Nat → Int32) × Int32)
  | 0, _, _, _ => none
  | k + 1, la_way, x3, x4 =>
    (if la_wayLength ≤ x4 then
    some (la_way, la_wayLength)
     else
    bd1 (fX1_nextOnWay n la_blurs la_steps la_places x3 ((la_wayLength - (1 : Int32)) - x4) x2) (fun v2 => (if v2 = (-4 : Int32) then
    aw x4 10 la_way x3 (fun f5 => fX1_walkWay_p24 n la_blurs la_steps la_places la_wayLength x2 k f5 x3 (x4 + 1))
     else
    aw x4 10 la_way v2 (fun f4 => fX1_walkWay_p24 n la_blurs la_steps la_places la_wayLength x2 k f4 v2 (x4 + 1)))))
def fX1_walkWay (n : Nat) (la_way : Nat → Int32) (la_blurs : Nat → Int32) (la_steps : Nat → Int32) (la_places : Int32) (la_wayLength : Int32) (x1 : Int32) (x2 : Int32) : Option ((Nat → Int32) × Int32) :=
ar x1 10 la_steps (fun v1 => nm (v1 + (1 : Int32)) (fun v2 => aw (0 : Int32) 10 la_way x1 (fun f3 => fX1_walkWay_p24 n la_blurs la_steps la_places v2 x2 n f3 x1 (1 : Int32))))
def fX1_findWay_p8 (n : Nat) (la_way : Nat → Int32) (la_blurs : Nat → Int32) (la_places : Int32) (la_wayBlur : Int32) (la_wayLength : Int32) (x1 : Int32) (x2 : Int32)  : Nat → (Nat → Int32) → Int32 → Option (Int32 × (Nat → Int32) × (Nat → Int32) × (Nat → Int32) × Int32 × Int32)
  | 0, _, _ => none
  | k + 1, la_steps, x4 =>
    (if (5 : Int32) < x4 then
    some ((0 : Int32), la_way, la_blurs, la_steps, la_wayBlur, la_wayLength)
     else
    bd1 (fX1_countSteps n la_blurs la_steps la_places x2 x4) (fun f2 => ar x1 10 f2 (fun v3 => (if v3 = (-1 : Int32) then
    fX1_findWay_p8 n la_way la_blurs la_places la_wayBlur la_wayLength x1 x2 k f2 (x4 + 1)
     else
    bd2 (fX1_walkWay n la_way la_blurs f2 la_places la_wayLength x1 x4) (fun f5 v6 => some ((1 : Int32), f5, la_blurs, f2, x4, v6))))))
def fX1_findWay (n : Nat) (sh_lanes : Nat → Int32) (sh_sizes : Nat → Int32) (sh_cells : Nat → Int32) (la_xs : Nat → Int32) (la_ys : Nat → Int32) (la_heights : Nat → Int32) (la_ridgeXs : Nat → Int32) (la_ridgeHeights : Nat → Int32) (la_way : Nat → Int32) (la_blurs : Nat → Int32) (la_steps : Nat → Int32) (la_places : Int32) (la_ridges : Int32) (la_wayBlur : Int32) (la_wayLength : Int32) (x1 : Int32) (x2 : Int32) (x3 : Int32) : Option (Int32 × (Nat → Int32) × (Nat → Int32) × (Nat → Int32) × Int32 × Int32) :=
bd1 (fX1_measureBlurs n sh_lanes sh_sizes sh_cells la_xs la_ys la_heights la_ridgeXs la_ridgeHeights la_blurs la_places la_ridges x3) (fun f1 => fX1_findWay_p8 n la_way f1 la_places la_wayBlur la_wayLength x1 x2 n la_steps (0 : Int32))
def fX8_way_p56 (n : Nat) (sh_lanes : Nat → Int32) (sh_sizes : Nat → Int32) (sh_cells : Nat → Int32) (la_xs : Nat → Int32) (la_ys : Nat → Int32) (la_heights : Nat → Int32) (la_ridgeXs : Nat → Int32) (la_ridgeHeights : Nat → Int32) (la_way : Nat → Int32) (la_blurs : Nat → Int32) (la_steps : Nat → Int32) (la_places : Int32) (la_ridges : Int32) (la_wayBlur : Int32) (la_wayLength : Int32) (x1 : Int32) (x2 : Int32) (x3 : Int32) (x4 : Int32)   : Option (Int32 × (Nat → Int32) × (Nat → Int32) × (Nat → Int32) × Int32 × Int32) :=
bd6 (fX1_findWay n sh_lanes sh_sizes sh_cells la_xs la_ys la_heights la_ridgeXs la_ridgeHeights la_way la_blurs la_steps la_places la_ridges la_wayBlur la_wayLength x1 x2 x3) (fun v1 f2 f3 f4 v5 v6 => (if v1 = 0 then
some ((-4 : Int32), f2, f3, f4, v5, v6)
 else
(if x4 = 0 then
some (v5, f2, f3, f4, v5, v6)
 else
(if x4 = (1 : Int32) then
some (v6, f2, f3, f4, v5, v6)
 else
(if v6 ≤ (x4 - (10 : Int32)) then
some ((-4 : Int32), f2, f3, f4, v5, v6)
 else
ar (x4 - (10 : Int32)) 10 f2 (fun v11 => some (v11, f2, f3, f4, v5, v6)))))))
def fX8_way (n : Nat) (sh_lanes : Nat → Int32) (sh_sizes : Nat → Int32) (sh_cells : Nat → Int32) (la_xs : Nat → Int32) (la_ys : Nat → Int32) (la_heights : Nat → Int32) (la_ridgeXs : Nat → Int32) (la_ridgeHeights : Nat → Int32) (la_way : Nat → Int32) (la_blurs : Nat → Int32) (la_steps : Nat → Int32) (la_places : Int32) (la_ridges : Int32) (la_wayBlur : Int32) (la_wayLength : Int32) (x1 : Int32) (x2 : Int32) (x3 : Int32) (x4 : Int32) : Option (Int32 × (Nat → Int32) × (Nat → Int32) × (Nat → Int32) × Int32 × Int32) :=
bd1 (fX1_isPlace n la_places x1) (fun v1 => (if v1 = 0 then
some ((-1 : Int32), la_way, la_blurs, la_steps, la_wayBlur, la_wayLength)
 else
bd1 (fX1_isPlace n la_places x2) (fun v3 => (if v3 = 0 then
some ((-1 : Int32), la_way, la_blurs, la_steps, la_wayBlur, la_wayLength)
 else
(if x1 = x2 then
some ((-1 : Int32), la_way, la_blurs, la_steps, la_wayBlur, la_wayLength)
 else
bd1 (fX8_isHour n x3) (fun v6 => (if v6 = 0 then
some ((-1 : Int32), la_way, la_blurs, la_steps, la_wayBlur, la_wayLength)
 else
(if x4 < 0 then
some ((-1 : Int32), la_way, la_blurs, la_steps, la_wayBlur, la_wayLength)
 else
(if x4 ≤ (1 : Int32) then
fX8_way_p56 n sh_lanes sh_sizes sh_cells la_xs la_ys la_heights la_ridgeXs la_ridgeHeights la_way la_blurs la_steps la_places la_ridges la_wayBlur la_wayLength x1 x2 x3 x4
 else
(if (10 : Int32) ≤ x4 then
fX8_way_p56 n sh_lanes sh_sizes sh_cells la_xs la_ys la_heights la_ridgeXs la_ridgeHeights la_way la_blurs la_steps la_places la_ridges la_wayBlur la_wayLength x1 x2 x3 x4
 else
some ((-1 : Int32), la_way, la_blurs, la_steps, la_wayBlur, la_wayLength)))))))))))
def fX8_isTime (n : Nat)  (x0 : Int32) (x1 : Int32) : Option (Int32) :=
(if x0 < 0 then
some (0 : Int32)
 else
(if (100 : Int32) ≤ x0 then
some (0 : Int32)
 else
bd1 (fX8_isHour n x1) (fun v3 => (if v3 = 0 then
some (0 : Int32)
 else
some (1 : Int32)))))
def fX0_isCall (n : Nat) (bk_size : Int32) (x1 : Int32) : Option (Int32) :=
(if x1 < 0 then
some (0 : Int32)
 else
(if bk_size ≤ x1 then
some (0 : Int32)
 else
some (1 : Int32)))
def fX0_isRepeat (n : Nat) (bk_firsts : Nat → Int32) (x1 : Int32) : Option (Int32) :=
ar x1 30 bk_firsts (fun v1 => (if v1 = x1 then
some (0 : Int32)
 else
some (1 : Int32)))
def fX0_mayRepeat (n : Nat) (bk_froms : Nat → Int32) (bk_asks : Nat → Int32) (bk_words : Nat → Int32) (bk_firsts : Nat → Int32) (bk_size : Int32) (x1 : Int32) (x2 : Int32) (x3 : Int32) (x4 : Int32) : Option (Int32) :=
bd1 (fX0_isCall n bk_size x1) (fun v1 => (if v1 = 0 then
some (0 : Int32)
 else
bd1 (fX0_isRepeat n bk_firsts x1) (fun v3 => (if v3 = 0 then
ar x1 30 bk_froms (fun v5 => (if v5 = x2 then
ar x1 30 bk_asks (fun v7 => (if v7 = x3 then
ar x1 30 bk_words (fun v9 => (if v9 = x4 then
some (1 : Int32)
 else
some (0 : Int32)))
 else
some (0 : Int32)))
 else
some (0 : Int32)))
 else
some (0 : Int32)))))
def fX8_timeOf (n : Nat)  (x0 : Int32) (x1 : Int32) : Option (Int32) :=
some ((x0 * (24 : Int32)) + x1)
def fX0_add (n : Nat) (bk_times : Nat → Int32) (bk_froms : Nat → Int32) (bk_asks : Nat → Int32) (bk_words : Nat → Int32) (bk_firsts : Nat → Int32) (bk_size : Int32) (x1 : Int32) (x2 : Int32) (x3 : Int32) (x4 : Int32) (x5 : Int32) : Option ((Nat → Int32) × (Nat → Int32) × (Nat → Int32) × (Nat → Int32) × (Nat → Int32) × Int32) :=
aw bk_size 30 bk_times x1 (fun f1 => aw bk_size 30 bk_froms x2 (fun f2 => aw bk_size 30 bk_asks x3 (fun f3 => aw bk_size 30 bk_words x4 (fun f4 => (if x5 = (-4 : Int32) then
aw bk_size 30 bk_firsts bk_size (fun f8 => nm (bk_size + (1 : Int32)) (fun v9 => some (f1, f2, f3, f4, f8, v9)))
 else
aw bk_size 30 bk_firsts x5 (fun f6 => nm (bk_size + (1 : Int32)) (fun v7 => some (f1, f2, f3, f4, f6, v7))))))))
def fX8_call_p103 (n : Nat) (bk_times : Nat → Int32) (bk_froms : Nat → Int32) (bk_asks : Nat → Int32) (bk_words : Nat → Int32) (bk_firsts : Nat → Int32) (bk_size : Int32) (x3 : Int32) (x4 : Int32) (x5 : Int32) (x6 : Int32) (x7 : Int32)   : Option (Int32 × (Nat → Int32) × (Nat → Int32) × (Nat → Int32) × (Nat → Int32) × (Nat → Int32) × Int32) :=
(if bk_size < (30 : Int32) then
bd6 (fX0_add n bk_times bk_froms bk_asks bk_words bk_firsts bk_size x7 x3 x4 x5 x6) (fun f2 f3 f4 f5 f6 v7 => some (v7 - (1 : Int32), f2, f3, f4, f5, f6, v7))
 else
some ((-3 : Int32), bk_times, bk_froms, bk_asks, bk_words, bk_firsts, bk_size))
def fX8_call_p61 (n : Nat) (bk_times : Nat → Int32) (bk_froms : Nat → Int32) (bk_asks : Nat → Int32) (bk_words : Nat → Int32) (bk_firsts : Nat → Int32) (bk_size : Int32) (x1 : Int32) (x2 : Int32) (x3 : Int32) (x4 : Int32) (x5 : Int32) (x6 : Int32)   : Option (Int32 × (Nat → Int32) × (Nat → Int32) × (Nat → Int32) × (Nat → Int32) × (Nat → Int32) × Int32) :=
bd1 (fX8_timeOf n x1 x2) (fun v1 => (if bk_size ≤ 0 then
fX8_call_p103 n bk_times bk_froms bk_asks bk_words bk_firsts bk_size x3 x4 x5 x6 v1
 else
ar (bk_size - (1 : Int32)) 30 bk_times (fun v3 => (if v3 ≤ v1 then
fX8_call_p103 n bk_times bk_froms bk_asks bk_words bk_firsts bk_size x3 x4 x5 x6 v1
 else
some ((-2 : Int32), bk_times, bk_froms, bk_asks, bk_words, bk_firsts, bk_size)))))
def fX8_call (n : Nat) (la_places : Int32) (bk_times : Nat → Int32) (bk_froms : Nat → Int32) (bk_asks : Nat → Int32) (bk_words : Nat → Int32) (bk_firsts : Nat → Int32) (bk_size : Int32) (to_asks : Nat → Int32) (to_words : Int32) (to_askCount : Int32) (x1 : Int32) (x2 : Int32) (x3 : Int32) (x4 : Int32) (x5 : Int32) (x6 : Int32) : Option (Int32 × (Nat → Int32) × (Nat → Int32) × (Nat → Int32) × (Nat → Int32) × (Nat → Int32) × Int32) :=
bd1 (fX8_isTime n x1 x2) (fun v1 => (if v1 = 0 then
some ((-1 : Int32), bk_times, bk_froms, bk_asks, bk_words, bk_firsts, bk_size)
 else
bd1 (fX1_isPlace n la_places x3) (fun v3 => (if v3 = 0 then
some ((-1 : Int32), bk_times, bk_froms, bk_asks, bk_words, bk_firsts, bk_size)
 else
bd1 (fX7_fits n to_asks to_words to_askCount x4 x5) (fun v5 => (if v5 = 0 then
some ((-1 : Int32), bk_times, bk_froms, bk_asks, bk_words, bk_firsts, bk_size)
 else
(if x6 = (-4 : Int32) then
fX8_call_p61 n bk_times bk_froms bk_asks bk_words bk_firsts bk_size x1 x2 x3 x4 x5 x6
 else
bd1 (fX0_mayRepeat n bk_froms bk_asks bk_words bk_firsts bk_size x6 x3 x4 x5) (fun v8 => (if v8 = 0 then
some ((-1 : Int32), bk_times, bk_froms, bk_asks, bk_words, bk_firsts, bk_size)
 else
fX8_call_p61 n bk_times bk_froms bk_asks bk_words bk_firsts bk_size x1 x2 x3 x4 x5 x6)))))))))
def fX0_isFalse (n : Nat) (bk_firsts : Nat → Int32) (bk_lies : Nat → Int32) (x1 : Int32) : Option (Int32) :=
ar x1 30 bk_firsts (fun v1 => ar v1 30 bk_lies (fun v2 => rb v2 (some v2)))
def fX0_heardBy (n : Nat) (sh_lanes : Nat → Int32) (sh_sizes : Nat → Int32) (sh_cells : Nat → Int32) (la_xs : Nat → Int32) (la_ys : Nat → Int32) (la_heights : Nat → Int32) (la_ridgeXs : Nat → Int32) (la_ridgeHeights : Nat → Int32) (la_ridges : Int32) (bk_times : Nat → Int32) (bk_froms : Nat → Int32) (bk_asks : Nat → Int32) (bk_words : Nat → Int32) (to_alike : Nat → Int32) (to_asks : Nat → Int32) (x1 : Int32) (x2 : Int32) : Option (Int32) :=
ar x2 30 bk_froms (fun v1 => (if v1 = x1 then
some (-1 : Int32)
 else
ar x2 30 bk_froms (fun v3 => ar x2 30 bk_times (fun v4 => bd1 (fX1_blurFrom n sh_lanes sh_sizes sh_cells la_xs la_ys la_heights la_ridgeXs la_ridgeHeights la_ridges v3 x1 (v4 - v4 / (24 : Int32) * (24 : Int32))) (fun v5 => (if v5 ≤ (5 : Int32) then
ar x2 30 bk_asks (fun v7 => ar x2 30 bk_words (fun v8 => bd1 (fX7_heardAs n to_alike to_asks v7 v8 v5) (fun v9 => some v9)))
 else
some (-1 : Int32)))))))
def fX0_isOneWord (n : Nat)  (x0 : Int32) : Option (Int32) :=
(if x0 = (-1 : Int32) then
some (0 : Int32)
 else
bd1 (fJ6_bitCount_0f7a4 n x0) (fun v2 => (if v2 = (1 : Int32) then
some (1 : Int32)
 else
some (0 : Int32))))
def fX0_sureHearers_p5 (n : Nat) (sh_lanes : Nat → Int32) (sh_sizes : Nat → Int32) (sh_cells : Nat → Int32) (la_xs : Nat → Int32) (la_ys : Nat → Int32) (la_heights : Nat → Int32) (la_ridgeXs : Nat → Int32) (la_ridgeHeights : Nat → Int32) (la_places : Int32) (la_ridges : Int32) (bk_times : Nat → Int32) (bk_froms : Nat → Int32) (bk_asks : Nat → Int32) (bk_words : Nat → Int32) (to_alike : Nat → Int32) (to_asks : Nat → Int32) (x1 : Int32)  : Nat → Int32 → Int32 → Option (Int32)
  | 0, _, _ => none
  | k + 1, x3, x4 =>
    (if la_places ≤ x4 then
    some x3
     else
    bd1 (fX0_heardBy n sh_lanes sh_sizes sh_cells la_xs la_ys la_heights la_ridgeXs la_ridgeHeights la_ridges bk_times bk_froms bk_asks bk_words to_alike to_asks x4 x1) (fun v2 => bd1 (fX0_isOneWord n v2) (fun v3 => (if v3 = 0 then
    fX0_sureHearers_p5 n sh_lanes sh_sizes sh_cells la_xs la_ys la_heights la_ridgeXs la_ridgeHeights la_places la_ridges bk_times bk_froms bk_asks bk_words to_alike to_asks x1 k x3 (x4 + 1)
     else
    fX0_sureHearers_p5 n sh_lanes sh_sizes sh_cells la_xs la_ys la_heights la_ridgeXs la_ridgeHeights la_places la_ridges bk_times bk_froms bk_asks bk_words to_alike to_asks x1 k (x3 + 1) (x4 + 1)))))
def fX0_sureHearers (n : Nat) (sh_lanes : Nat → Int32) (sh_sizes : Nat → Int32) (sh_cells : Nat → Int32) (la_xs : Nat → Int32) (la_ys : Nat → Int32) (la_heights : Nat → Int32) (la_ridgeXs : Nat → Int32) (la_ridgeHeights : Nat → Int32) (la_places : Int32) (la_ridges : Int32) (bk_times : Nat → Int32) (bk_froms : Nat → Int32) (bk_asks : Nat → Int32) (bk_words : Nat → Int32) (to_alike : Nat → Int32) (to_asks : Nat → Int32) (x1 : Int32) : Option (Int32) :=
fX0_sureHearers_p5 n sh_lanes sh_sizes sh_cells la_xs la_ys la_heights la_ridgeXs la_ridgeHeights la_places la_ridges bk_times bk_froms bk_asks bk_words to_alike to_asks x1 n (0 : Int32) (0 : Int32)
def fX8_callOf (n : Nat) (sh_lanes : Nat → Int32) (sh_sizes : Nat → Int32) (sh_cells : Nat → Int32) (la_xs : Nat → Int32) (la_ys : Nat → Int32) (la_heights : Nat → Int32) (la_ridgeXs : Nat → Int32) (la_ridgeHeights : Nat → Int32) (la_places : Int32) (la_ridges : Int32) (bk_times : Nat → Int32) (bk_froms : Nat → Int32) (bk_asks : Nat → Int32) (bk_words : Nat → Int32) (bk_firsts : Nat → Int32) (bk_lies : Nat → Int32) (bk_size : Int32) (to_alike : Nat → Int32) (to_asks : Nat → Int32) (x1 : Int32) (x2 : Int32) : Option (Int32) :=
bd1 (fX0_isCall n bk_size x1) (fun v1 => (if v1 = 0 then
some (-1 : Int32)
 else
(if x2 = 0 then
ar x1 30 bk_times (fun v4 => some (v4 / (24 : Int32)))
 else
(if x2 = 1 then
ar x1 30 bk_times (fun v6 => some (v6 - v6 / (24 : Int32) * (24 : Int32)))
 else
(if x2 = 2 then
ar x1 30 bk_froms (fun v8 => some v8)
 else
(if x2 = 3 then
ar x1 30 bk_asks (fun v10 => some v10)
 else
(if x2 = 4 then
ar x1 30 bk_words (fun v12 => some v12)
 else
(if x2 = 5 then
ar x1 30 bk_firsts (fun v14 => (if v14 = x1 then
some (-4 : Int32)
 else
ar x1 30 bk_firsts (fun v16 => some v16)))
 else
(if x2 = 6 then
bd1 (fX0_isFalse n bk_firsts bk_lies x1) (fun v18 => (if v18 = 0 then
some (0 : Int32)
 else
some (1 : Int32)))
 else
(if x2 = 7 then
ar x1 30 bk_froms (fun v21 => ar x1 30 bk_times (fun v22 => bd1 (fX1_hearersOf n sh_lanes sh_sizes sh_cells la_xs la_ys la_heights la_ridgeXs la_ridgeHeights la_places la_ridges v21 (v22 - v22 / (24 : Int32) * (24 : Int32))) (fun v23 => bd1 (fJ6_bitCount_0f7a4 n v23) (fun v24 => some v24))))
 else
(if x2 = 8 then
bd1 (fX0_sureHearers n sh_lanes sh_sizes sh_cells la_xs la_ys la_heights la_ridgeXs la_ridgeHeights la_places la_ridges bk_times bk_froms bk_asks bk_words to_alike to_asks x1) (fun v26 => some v26)
 else
some (-1 : Int32))))))))))))
def fX8_lie (n : Nat) (bk_firsts : Nat → Int32) (bk_lies : Nat → Int32) (bk_size : Int32) (x1 : Int32) (x2 : Int32) : Option (Int32 × (Nat → Int32)) :=
bd1 (fX0_isCall n bk_size x1) (fun v1 => (if v1 = 0 then
some ((-1 : Int32), bk_lies)
 else
bd1 (fX0_isRepeat n bk_firsts x1) (fun v3 => (if v3 = 0 then
bd1 (fX0_isFalse n bk_firsts bk_lies x1) (fun v5 => (if v5 = 0 then
aw x1 30 bk_lies (vp_nar .boolean x2) (fun f7 => some ((0 : Int32), f7))
 else
aw x1 30 bk_lies (vp_nar .boolean x2) (fun f8 => some ((1 : Int32), f8))))
 else
some ((-2 : Int32), bk_lies)))))
def fX0_callsUpTo_p2 (n : Nat) (bk_times : Nat → Int32) (bk_size : Int32) (x1 : Int32)  : Nat → Int32 → Option (Int32)
  | 0, _ => none
  | k + 1, x2 =>
    (if bk_size ≤ x2 then
    some x2
     else
    ar x2 30 bk_times (fun v2 => (if x1 < v2 then
    some x2
     else
    fX0_callsUpTo_p2 n bk_times bk_size x1 k (x2 + 1))))
def fX0_callsUpTo (n : Nat) (bk_times : Nat → Int32) (bk_size : Int32) (x1 : Int32) : Option (Int32) :=
fX0_callsUpTo_p2 n bk_times bk_size x1 n (0 : Int32)
def fX0_heldFrom_p6 (n : Nat) (sh_lanes : Nat → Int32) (sh_sizes : Nat → Int32) (sh_cells : Nat → Int32) (la_xs : Nat → Int32) (la_ys : Nat → Int32) (la_heights : Nat → Int32) (la_ridgeXs : Nat → Int32) (la_ridgeHeights : Nat → Int32) (la_ridges : Int32) (bk_times : Nat → Int32) (bk_froms : Nat → Int32) (bk_asks : Nat → Int32) (bk_words : Nat → Int32) (bk_firsts : Nat → Int32) (to_alike : Nat → Int32) (to_asks : Nat → Int32) (x1 : Int32) (x2 : Int32) (x3 : Int32)  : Nat → Int32 → Int32 → Option (Int32)
  | 0, _, _ => none
  | k + 1, x5, x6 =>
    (if x3 ≤ x6 then
    (if x5 = (-1 : Int32) then
    some (-4 : Int32)
     else
    some x5)
     else
    ar x6 30 bk_firsts (fun v3 => (if v3 = x2 then
    bd1 (fX0_heardBy n sh_lanes sh_sizes sh_cells la_xs la_ys la_heights la_ridgeXs la_ridgeHeights la_ridges bk_times bk_froms bk_asks bk_words to_alike to_asks x1 x6) (fun v5 => nm (x5 &&& v5) (fun v6 => fX0_heldFrom_p6 n sh_lanes sh_sizes sh_cells la_xs la_ys la_heights la_ridgeXs la_ridgeHeights la_ridges bk_times bk_froms bk_asks bk_words bk_firsts to_alike to_asks x1 x2 x3 k v6 (x6 + 1)))
     else
    fX0_heldFrom_p6 n sh_lanes sh_sizes sh_cells la_xs la_ys la_heights la_ridgeXs la_ridgeHeights la_ridges bk_times bk_froms bk_asks bk_words bk_firsts to_alike to_asks x1 x2 x3 k x5 (x6 + 1))))
def fX0_heldFrom (n : Nat) (sh_lanes : Nat → Int32) (sh_sizes : Nat → Int32) (sh_cells : Nat → Int32) (la_xs : Nat → Int32) (la_ys : Nat → Int32) (la_heights : Nat → Int32) (la_ridgeXs : Nat → Int32) (la_ridgeHeights : Nat → Int32) (la_ridges : Int32) (bk_times : Nat → Int32) (bk_froms : Nat → Int32) (bk_asks : Nat → Int32) (bk_words : Nat → Int32) (bk_firsts : Nat → Int32) (to_alike : Nat → Int32) (to_asks : Nat → Int32) (x1 : Int32) (x2 : Int32) (x3 : Int32) : Option (Int32) :=
fX0_heldFrom_p6 n sh_lanes sh_sizes sh_cells la_xs la_ys la_heights la_ridgeXs la_ridgeHeights la_ridges bk_times bk_froms bk_asks bk_words bk_firsts to_alike to_asks x1 x2 x3 n (-1 : Int32) x2
def fX8_has (n : Nat) (sh_lanes : Nat → Int32) (sh_sizes : Nat → Int32) (sh_cells : Nat → Int32) (la_xs : Nat → Int32) (la_ys : Nat → Int32) (la_heights : Nat → Int32) (la_ridgeXs : Nat → Int32) (la_ridgeHeights : Nat → Int32) (la_places : Int32) (la_ridges : Int32) (bk_times : Nat → Int32) (bk_froms : Nat → Int32) (bk_asks : Nat → Int32) (bk_words : Nat → Int32) (bk_firsts : Nat → Int32) (bk_size : Int32) (to_alike : Nat → Int32) (to_asks : Nat → Int32) (x1 : Int32) (x2 : Int32) (x3 : Int32) (x4 : Int32) : Option (Int32) :=
bd1 (fX1_isPlace n la_places x1) (fun v1 => (if v1 = 0 then
some (-1 : Int32)
 else
bd1 (fX0_isCall n bk_size x2) (fun v3 => (if v3 = 0 then
some (-1 : Int32)
 else
bd1 (fX8_isTime n x3 x4) (fun v5 => (if v5 = 0 then
some (-1 : Int32)
 else
bd1 (fX0_isRepeat n bk_firsts x2) (fun v7 => (if v7 = 0 then
bd1 (fX8_timeOf n x3 x4) (fun v9 => bd1 (fX0_callsUpTo n bk_times bk_size v9) (fun v10 => bd1 (fX0_heldFrom n sh_lanes sh_sizes sh_cells la_xs la_ys la_heights la_ridgeXs la_ridgeHeights la_ridges bk_times bk_froms bk_asks bk_words bk_firsts to_alike to_asks x1 x2 v10) (fun v11 => some v11)))
 else
some (-2 : Int32)))))))))
def fX0_settlesWord (n : Nat) (sh_lanes : Nat → Int32) (sh_sizes : Nat → Int32) (sh_cells : Nat → Int32) (la_xs : Nat → Int32) (la_ys : Nat → Int32) (la_heights : Nat → Int32) (la_ridgeXs : Nat → Int32) (la_ridgeHeights : Nat → Int32) (la_ridges : Int32) (bk_times : Nat → Int32) (bk_froms : Nat → Int32) (bk_asks : Nat → Int32) (bk_words : Nat → Int32) (bk_firsts : Nat → Int32) (bk_lies : Nat → Int32) (bk_held : Nat → Int32) (to_alike : Nat → Int32) (to_asks : Nat → Int32) (x1 : Int32) (x2 : Int32) : Option (Int32 × (Nat → Int32)) :=
bd1 (fX0_isFalse n bk_firsts bk_lies x2) (fun v1 => (if v1 = 0 then
ar x2 30 bk_froms (fun v3 => (if v3 = x1 then
some ((1 : Int32), bk_held)
 else
ar x2 30 bk_firsts (fun v5 => ar v5 30 bk_held (fun v6 => bd1 (fX0_heardBy n sh_lanes sh_sizes sh_cells la_xs la_ys la_heights la_ridgeXs la_ridgeHeights la_ridges bk_times bk_froms bk_asks bk_words to_alike to_asks x1 x2) (fun v7 => aw v5 30 bk_held (v6 &&& v7) (fun f8 => ar v5 30 f8 (fun v9 => bd1 (fX0_isOneWord n v9) (fun v10 => rb v10 (some (v10, f8))))))))))
 else
some ((0 : Int32), bk_held)))
def fX0_knownTo_p14 (n : Nat) (sh_lanes : Nat → Int32) (sh_sizes : Nat → Int32) (sh_cells : Nat → Int32) (la_xs : Nat → Int32) (la_ys : Nat → Int32) (la_heights : Nat → Int32) (la_ridgeXs : Nat → Int32) (la_ridgeHeights : Nat → Int32) (la_ridges : Int32) (bk_times : Nat → Int32) (bk_froms : Nat → Int32) (bk_asks : Nat → Int32) (bk_words : Nat → Int32) (bk_firsts : Nat → Int32) (bk_lies : Nat → Int32) (to_alike : Nat → Int32) (to_asks : Nat → Int32) (x1 : Int32) (x2 : Int32) (x3 : Int32)  : Nat → (Nat → Int32) → Int32 → Int32 → Option (Int32 × (Nat → Int32))
  | 0, _, _, _ => none
  | k + 1, bk_held, x5, x6 =>
    (if x3 ≤ x6 then
    some (x5, bk_held)
     else
    ar x6 30 bk_asks (fun v2 => (if v2 = x2 then
    bd2 (fX0_settlesWord n sh_lanes sh_sizes sh_cells la_xs la_ys la_heights la_ridgeXs la_ridgeHeights la_ridges bk_times bk_froms bk_asks bk_words bk_firsts bk_lies bk_held to_alike to_asks x1 x6) (fun v4 f5 => (if v4 = 0 then
    fX0_knownTo_p14 n sh_lanes sh_sizes sh_cells la_xs la_ys la_heights la_ridgeXs la_ridgeHeights la_ridges bk_times bk_froms bk_asks bk_words bk_firsts bk_lies to_alike to_asks x1 x2 x3 k f5 x5 (x6 + 1)
     else
    ar x6 30 bk_words (fun v7 => nm (x5 ||| ((1 : Int32) <<< (v7 &&& 31))) (fun v8 => fX0_knownTo_p14 n sh_lanes sh_sizes sh_cells la_xs la_ys la_heights la_ridgeXs la_ridgeHeights la_ridges bk_times bk_froms bk_asks bk_words bk_firsts bk_lies to_alike to_asks x1 x2 x3 k f5 v8 (x6 + 1)))))
     else
    fX0_knownTo_p14 n sh_lanes sh_sizes sh_cells la_xs la_ys la_heights la_ridgeXs la_ridgeHeights la_ridges bk_times bk_froms bk_asks bk_words bk_firsts bk_lies to_alike to_asks x1 x2 x3 k bk_held x5 (x6 + 1))))
def fX0_knownTo (n : Nat) (sh_lanes : Nat → Int32) (sh_sizes : Nat → Int32) (sh_cells : Nat → Int32) (la_xs : Nat → Int32) (la_ys : Nat → Int32) (la_heights : Nat → Int32) (la_ridgeXs : Nat → Int32) (la_ridgeHeights : Nat → Int32) (la_ridges : Int32) (bk_times : Nat → Int32) (bk_froms : Nat → Int32) (bk_asks : Nat → Int32) (bk_words : Nat → Int32) (bk_firsts : Nat → Int32) (bk_lies : Nat → Int32) (bk_held : Nat → Int32) (to_alike : Nat → Int32) (to_asks : Nat → Int32) (x1 : Int32) (x2 : Int32) (x3 : Int32) : Option (Int32 × (Nat → Int32)) :=
bd1 (fJ7_fill_53178 n 30 bk_held (-1 : Int32)) (fun f1 => fX0_knownTo_p14 n sh_lanes sh_sizes sh_cells la_xs la_ys la_heights la_ridgeXs la_ridgeHeights la_ridges bk_times bk_froms bk_asks bk_words bk_firsts bk_lies to_alike to_asks x1 x2 x3 n f1 (0 : Int32) (0 : Int32))
def fX8_knows (n : Nat) (sh_lanes : Nat → Int32) (sh_sizes : Nat → Int32) (sh_cells : Nat → Int32) (la_xs : Nat → Int32) (la_ys : Nat → Int32) (la_heights : Nat → Int32) (la_ridgeXs : Nat → Int32) (la_ridgeHeights : Nat → Int32) (la_places : Int32) (la_ridges : Int32) (bk_times : Nat → Int32) (bk_froms : Nat → Int32) (bk_asks : Nat → Int32) (bk_words : Nat → Int32) (bk_firsts : Nat → Int32) (bk_lies : Nat → Int32) (bk_held : Nat → Int32) (bk_size : Int32) (to_alike : Nat → Int32) (to_asks : Nat → Int32) (to_askCount : Int32) (x1 : Int32) (x2 : Int32) (x3 : Int32) (x4 : Int32) : Option (Int32 × (Nat → Int32)) :=
bd1 (fX1_isPlace n la_places x1) (fun v1 => (if v1 = 0 then
some ((-1 : Int32), bk_held)
 else
bd1 (fX7_isAsk n to_askCount x2) (fun v3 => (if v3 = 0 then
some ((-1 : Int32), bk_held)
 else
bd1 (fX8_isTime n x3 x4) (fun v5 => (if v5 = 0 then
some ((-1 : Int32), bk_held)
 else
bd1 (fX8_timeOf n x3 x4) (fun v7 => bd1 (fX0_callsUpTo n bk_times bk_size v7) (fun v8 => bd2 (fX0_knownTo n sh_lanes sh_sizes sh_cells la_xs la_ys la_heights la_ridgeXs la_ridgeHeights la_ridges bk_times bk_froms bk_asks bk_words bk_firsts bk_lies bk_held to_alike to_asks x1 x2 v8) (fun v9 f10 => some (v9, f10))))))))))
def fX0_firstKnown_p11 (n : Nat) (sh_lanes : Nat → Int32) (sh_sizes : Nat → Int32) (sh_cells : Nat → Int32) (la_xs : Nat → Int32) (la_ys : Nat → Int32) (la_heights : Nat → Int32) (la_ridgeXs : Nat → Int32) (la_ridgeHeights : Nat → Int32) (la_ridges : Int32) (bk_times : Nat → Int32) (bk_froms : Nat → Int32) (bk_asks : Nat → Int32) (bk_words : Nat → Int32) (bk_firsts : Nat → Int32) (bk_lies : Nat → Int32) (bk_size : Int32) (to_alike : Nat → Int32) (to_asks : Nat → Int32) (x1 : Int32) (x2 : Int32) (x3 : Int32)  : Nat → (Nat → Int32) → Int32 → Option (Int32 × (Nat → Int32))
  | 0, _, _ => none
  | k + 1, bk_held, x5 =>
    (if bk_size ≤ x5 then
    some ((-4 : Int32), bk_held)
     else
    ar x5 30 bk_asks (fun v2 => (if v2 = x2 then
    ar x5 30 bk_words (fun v4 => (if v4 = x3 then
    bd2 (fX0_settlesWord n sh_lanes sh_sizes sh_cells la_xs la_ys la_heights la_ridgeXs la_ridgeHeights la_ridges bk_times bk_froms bk_asks bk_words bk_firsts bk_lies bk_held to_alike to_asks x1 x5) (fun v6 f7 => (if v6 = 0 then
    fX0_firstKnown_p11 n sh_lanes sh_sizes sh_cells la_xs la_ys la_heights la_ridgeXs la_ridgeHeights la_ridges bk_times bk_froms bk_asks bk_words bk_firsts bk_lies bk_size to_alike to_asks x1 x2 x3 k f7 (x5 + 1)
     else
    some (x5, f7)))
     else
    fX0_firstKnown_p11 n sh_lanes sh_sizes sh_cells la_xs la_ys la_heights la_ridgeXs la_ridgeHeights la_ridges bk_times bk_froms bk_asks bk_words bk_firsts bk_lies bk_size to_alike to_asks x1 x2 x3 k bk_held (x5 + 1)))
     else
    fX0_firstKnown_p11 n sh_lanes sh_sizes sh_cells la_xs la_ys la_heights la_ridgeXs la_ridgeHeights la_ridges bk_times bk_froms bk_asks bk_words bk_firsts bk_lies bk_size to_alike to_asks x1 x2 x3 k bk_held (x5 + 1))))
def fX0_firstKnown (n : Nat) (sh_lanes : Nat → Int32) (sh_sizes : Nat → Int32) (sh_cells : Nat → Int32) (la_xs : Nat → Int32) (la_ys : Nat → Int32) (la_heights : Nat → Int32) (la_ridgeXs : Nat → Int32) (la_ridgeHeights : Nat → Int32) (la_ridges : Int32) (bk_times : Nat → Int32) (bk_froms : Nat → Int32) (bk_asks : Nat → Int32) (bk_words : Nat → Int32) (bk_firsts : Nat → Int32) (bk_lies : Nat → Int32) (bk_held : Nat → Int32) (bk_size : Int32) (to_alike : Nat → Int32) (to_asks : Nat → Int32) (x1 : Int32) (x2 : Int32) (x3 : Int32) : Option (Int32 × (Nat → Int32)) :=
bd1 (fJ7_fill_53178 n 30 bk_held (-1 : Int32)) (fun f1 => fX0_firstKnown_p11 n sh_lanes sh_sizes sh_cells la_xs la_ys la_heights la_ridgeXs la_ridgeHeights la_ridges bk_times bk_froms bk_asks bk_words bk_firsts bk_lies bk_size to_alike to_asks x1 x2 x3 n f1 (0 : Int32))
def fX8_since (n : Nat) (sh_lanes : Nat → Int32) (sh_sizes : Nat → Int32) (sh_cells : Nat → Int32) (la_xs : Nat → Int32) (la_ys : Nat → Int32) (la_heights : Nat → Int32) (la_ridgeXs : Nat → Int32) (la_ridgeHeights : Nat → Int32) (la_places : Int32) (la_ridges : Int32) (bk_times : Nat → Int32) (bk_froms : Nat → Int32) (bk_asks : Nat → Int32) (bk_words : Nat → Int32) (bk_firsts : Nat → Int32) (bk_lies : Nat → Int32) (bk_held : Nat → Int32) (bk_size : Int32) (to_alike : Nat → Int32) (to_asks : Nat → Int32) (to_words : Int32) (to_askCount : Int32) (x1 : Int32) (x2 : Int32) (x3 : Int32) : Option (Int32 × (Nat → Int32)) :=
bd1 (fX1_isPlace n la_places x1) (fun v1 => (if v1 = 0 then
some ((-1 : Int32), bk_held)
 else
bd1 (fX7_fits n to_asks to_words to_askCount x2 x3) (fun v3 => (if v3 = 0 then
some ((-1 : Int32), bk_held)
 else
bd2 (fX0_firstKnown n sh_lanes sh_sizes sh_cells la_xs la_ys la_heights la_ridgeXs la_ridgeHeights la_ridges bk_times bk_froms bk_asks bk_words bk_firsts bk_lies bk_held bk_size to_alike to_asks x1 x2 x3) (fun v5 f6 => some (v5, f6))))))
def fX8_spread_p55 (n : Nat) (sh_lanes : Nat → Int32) (sh_sizes : Nat → Int32) (sh_cells : Nat → Int32) (la_xs : Nat → Int32) (la_ys : Nat → Int32) (la_heights : Nat → Int32) (la_ridgeXs : Nat → Int32) (la_ridgeHeights : Nat → Int32) (la_places : Int32) (la_ridges : Int32) (bk_times : Nat → Int32) (bk_froms : Nat → Int32) (bk_asks : Nat → Int32) (bk_words : Nat → Int32) (bk_firsts : Nat → Int32) (bk_lies : Nat → Int32) (to_alike : Nat → Int32) (to_asks : Nat → Int32) (x1 : Int32) (x2 : Int32) (x5 : Int32) (x6 : Int32)  : Nat → (Nat → Int32) → Int32 → Int32 → Option (Int32 × (Nat → Int32))
  | 0, _, _, _ => none
  | k + 1, bk_held, x7, x8 =>
    (if la_places ≤ x8 then
    (if x5 = 0 then
    bd1 (fJ6_bitCount_0f7a4 n x7) (fun v3 => some (v3, bk_held))
     else
    some (x7, bk_held))
     else
    bd2 (fX0_knownTo n sh_lanes sh_sizes sh_cells la_xs la_ys la_heights la_ridgeXs la_ridgeHeights la_ridges bk_times bk_froms bk_asks bk_words bk_firsts bk_lies bk_held to_alike to_asks x8 x1 x6) (fun v4 f5 => bd1 (fX8_isIn n v4 x2) (fun v6 => (if v6 = 0 then
    fX8_spread_p55 n sh_lanes sh_sizes sh_cells la_xs la_ys la_heights la_ridgeXs la_ridgeHeights la_places la_ridges bk_times bk_froms bk_asks bk_words bk_firsts bk_lies to_alike to_asks x1 x2 x5 x6 k f5 x7 (x8 + 1)
     else
    nm (x7 ||| ((1 : Int32) <<< (x8 &&& 31))) (fun v8 => fX8_spread_p55 n sh_lanes sh_sizes sh_cells la_xs la_ys la_heights la_ridgeXs la_ridgeHeights la_places la_ridges bk_times bk_froms bk_asks bk_words bk_firsts bk_lies to_alike to_asks x1 x2 x5 x6 k f5 v8 (x8 + 1))))))
def fX8_spread (n : Nat) (sh_lanes : Nat → Int32) (sh_sizes : Nat → Int32) (sh_cells : Nat → Int32) (la_xs : Nat → Int32) (la_ys : Nat → Int32) (la_heights : Nat → Int32) (la_ridgeXs : Nat → Int32) (la_ridgeHeights : Nat → Int32) (la_places : Int32) (la_ridges : Int32) (bk_times : Nat → Int32) (bk_froms : Nat → Int32) (bk_asks : Nat → Int32) (bk_words : Nat → Int32) (bk_firsts : Nat → Int32) (bk_lies : Nat → Int32) (bk_held : Nat → Int32) (bk_size : Int32) (to_alike : Nat → Int32) (to_asks : Nat → Int32) (to_words : Int32) (to_askCount : Int32) (x1 : Int32) (x2 : Int32) (x3 : Int32) (x4 : Int32) (x5 : Int32) : Option (Int32 × (Nat → Int32)) :=
bd1 (fX7_fits n to_asks to_words to_askCount x1 x2) (fun v1 => (if v1 = 0 then
some ((-1 : Int32), bk_held)
 else
bd1 (fX8_isTime n x3 x4) (fun v3 => (if v3 = 0 then
some ((-1 : Int32), bk_held)
 else
(if x5 < 0 then
some ((-1 : Int32), bk_held)
 else
(if x5 ≤ (1 : Int32) then
bd1 (fX8_timeOf n x3 x4) (fun v7 => bd1 (fX0_callsUpTo n bk_times bk_size v7) (fun v8 => fX8_spread_p55 n sh_lanes sh_sizes sh_cells la_xs la_ys la_heights la_ridgeXs la_ridgeHeights la_places la_ridges bk_times bk_froms bk_asks bk_words bk_firsts bk_lies to_alike to_asks x1 x2 x5 v8 n bk_held (0 : Int32) (0 : Int32)))
 else
some ((-1 : Int32), bk_held)))))))
def fX8_child (n : Nat) (nu_size : Int32)  : Option (Int32 × Int32) :=
(if nu_size < (4 : Int32) then
nm (nu_size + (1 : Int32)) (fun v2 => some (v2 - (1 : Int32), v2))
 else
some ((-3 : Int32), nu_size))
def fX2_isChild (n : Nat) (nu_size : Int32) (x1 : Int32) : Option (Int32) :=
(if x1 < 0 then
some (0 : Int32)
 else
(if nu_size ≤ x1 then
some (0 : Int32)
 else
some (1 : Int32)))
def fX2_teach (n : Nat) (nu_learned : Nat → Int32) (x1 : Int32) (x2 : Int32) (x3 : Int32) : Option (Int32 × (Nat → Int32)) :=
nm (x1 * (16 : Int32)) (fun v1 => ar (v1 + x2) 64 nu_learned (fun v2 => bd1 (fX8_isIn n v2 x3) (fun v3 => (if v3 = 0 then
ar (v1 + x2) 64 nu_learned (fun v5 => aw (v1 + x2) 64 nu_learned (v5 ||| ((1 : Int32) <<< (x3 &&& 31))) (fun f6 => ar (v1 + x3) 64 f6 (fun v7 => aw (v1 + x3) 64 f6 (v7 ||| ((1 : Int32) <<< (x2 &&& 31))) (fun f8 => some ((1 : Int32), f8)))))
 else
some ((0 : Int32), nu_learned)))))
def fX8_learn (n : Nat) (nu_learned : Nat → Int32) (nu_size : Int32) (to_words : Int32) (x1 : Int32) (x2 : Int32) (x3 : Int32) : Option (Int32 × (Nat → Int32)) :=
bd1 (fX2_isChild n nu_size x1) (fun v1 => (if v1 = 0 then
some ((-1 : Int32), nu_learned)
 else
bd1 (fX7_isWord n to_words x2) (fun v3 => (if v3 = 0 then
some ((-1 : Int32), nu_learned)
 else
bd1 (fX7_isWord n to_words x3) (fun v5 => (if v5 = 0 then
some ((-1 : Int32), nu_learned)
 else
(if x2 = x3 then
some ((-1 : Int32), nu_learned)
 else
bd2 (fX2_teach n nu_learned x1 x2 x3) (fun v8 f9 => (if v8 = 0 then
some ((0 : Int32), f9)
 else
some ((1 : Int32), f9))))))))))
def fX2_learnedPairs_p4 (n : Nat) (nu_learned : Nat → Int32) (x1 : Int32)  : Nat → Int32 → Int32 → Option (Int32)
  | 0, _, _ => none
  | k + 1, x2, x3 =>
    (if (16 : Int32) ≤ x3 then
    some (x2 / (2 : Int32))
     else
    ar ((x1 * (16 : Int32)) + x3) 64 nu_learned (fun v2 => bd1 (fJ6_bitCount_0f7a4 n v2) (fun v3 => nm (x2 + v3) (fun v4 => fX2_learnedPairs_p4 n nu_learned x1 k v4 (x3 + 1)))))
def fX2_learnedPairs (n : Nat) (nu_learned : Nat → Int32) (x1 : Int32) : Option (Int32) :=
fX2_learnedPairs_p4 n nu_learned x1 n (0 : Int32) (0 : Int32)
def fX2_confusedWith (n : Nat) (nu_learned : Nat → Int32) (to_near : Nat → Int32) (x1 : Int32) (x2 : Int32) : Option (Int32) :=
ar x2 16 to_near (fun v1 => ar ((x1 * (16 : Int32)) + x2) 64 nu_learned (fun v2 => some (v1 &&& (v2 ^^^ (-1 : Int32)))))
def fX2_confusedPairs_p6 (n : Nat) (nu_learned : Nat → Int32) (to_near : Nat → Int32) (to_words : Int32) (x1 : Int32) (x2 : Int32)  : Nat → Int32 → Int32 → Option (Int32)
  | 0, _, _ => none
  | k + 1, x4, x5 =>
    (if to_words ≤ x5 then
    some (x4 / (2 : Int32))
     else
    bd1 (fX8_isIn n x2 x5) (fun v2 => (if v2 = 0 then
    fX2_confusedPairs_p6 n nu_learned to_near to_words x1 x2 k x4 (x5 + 1)
     else
    bd1 (fX2_confusedWith n nu_learned to_near x1 x5) (fun v4 => bd1 (fJ6_bitCount_0f7a4 n (v4 &&& x2)) (fun v5 => nm (x4 + v5) (fun v6 => fX2_confusedPairs_p6 n nu_learned to_near to_words x1 x2 k v6 (x5 + 1)))))))
def fX2_confusedPairs (n : Nat) (nu_learned : Nat → Int32) (to_near : Nat → Int32) (to_words : Int32) (x1 : Int32) (x2 : Int32) : Option (Int32) :=
fX2_confusedPairs_p6 n nu_learned to_near to_words x1 x2 n (0 : Int32) (0 : Int32)
def fX2_groupWith_p22 (n : Nat) (nu_learned : Nat → Int32) (to_near : Nat → Int32) (to_words : Int32) (x1 : Int32) (x4 : Int32) (x5 : Int32) (rec8 : Int32 → Int32 → Option (Int32)) : Nat → Int32 → Int32 → Option (Int32)
  | 0, _, _ => none
  | k + 1, x6, x7 =>
    (if to_words ≤ x7 then
    (if x6 = x4 then
    some x4
     else
    rec8 x6 (x5 + 1))
     else
    bd1 (fX8_isIn n x4 x7) (fun v3 => (if v3 = 0 then
    fX2_groupWith_p22 n nu_learned to_near to_words x1 x4 x5 rec8 k x6 (x7 + 1)
     else
    bd1 (fX2_confusedWith n nu_learned to_near x1 x7) (fun v5 => nm (x6 ||| v5) (fun v6 => fX2_groupWith_p22 n nu_learned to_near to_words x1 x4 x5 rec8 k v6 (x7 + 1))))))
def fX2_groupWith_p8 (n : Nat) (nu_learned : Nat → Int32) (to_near : Nat → Int32) (to_words : Int32) (x1 : Int32)  : Nat → Int32 → Int32 → Option (Int32)
  | 0, _, _ => none
  | k + 1, x4, x5 =>
    (if (16 : Int32) ≤ x5 then
    some x4
     else
    fX2_groupWith_p22 n nu_learned to_near to_words x1 x4 x5 (fX2_groupWith_p8 n nu_learned to_near to_words x1 k) n x4 (0 : Int32))
def fX2_groupWith (n : Nat) (nu_learned : Nat → Int32) (to_near : Nat → Int32) (to_words : Int32) (x1 : Int32) (x2 : Int32) : Option (Int32) :=
nm ((1 : Int32) <<< (x2 &&& 31)) (fun v1 => fX2_groupWith_p8 n nu_learned to_near to_words x1 n v1 (0 : Int32))
def fJ6_numberOfTrailingZeros_0f7a4_p62 (n : Nat) (x0 : Int32) (x1 : Int32)   : Option (Int32) :=
(if x0 ≤ (4 : Int32) then
some (x1 + ((x0.toUInt32 >>> ((1 : Int32).toUInt32 &&& Int32.toUInt32 31)).toInt32))
 else
nm ((x0.toUInt32 >>> ((2 : Int32).toUInt32 &&& Int32.toUInt32 31)).toInt32) (fun v2 => some ((x1 + 2) + ((v2.toUInt32 >>> ((1 : Int32).toUInt32 &&& Int32.toUInt32 31)).toInt32))))
def fJ6_numberOfTrailingZeros_0f7a4_p34 (n : Nat) (x0 : Int32) (x1 : Int32)   : Option (Int32) :=
(if x0 ≤ (256 : Int32) then
(if x0 ≤ (16 : Int32) then
fJ6_numberOfTrailingZeros_0f7a4_p62 n x0 x1
 else
nm ((x0.toUInt32 >>> ((4 : Int32).toUInt32 &&& Int32.toUInt32 31)).toInt32) (fun v3 => fJ6_numberOfTrailingZeros_0f7a4_p62 n v3 (x1 + 4)))
 else
nm ((x0.toUInt32 >>> ((8 : Int32).toUInt32 &&& Int32.toUInt32 31)).toInt32) (fun v4 => (if v4 ≤ (16 : Int32) then
fJ6_numberOfTrailingZeros_0f7a4_p62 n v4 (x1 + 8)
 else
nm ((v4.toUInt32 >>> ((4 : Int32).toUInt32 &&& Int32.toUInt32 31)).toInt32) (fun v6 => fJ6_numberOfTrailingZeros_0f7a4_p62 n v6 ((x1 + 8) + 4)))))
def fJ6_numberOfTrailingZeros_0f7a4 (n : Nat)  (x0 : Int32) : Option (Int32) :=
nm ((x0 ^^^ (-1 : Int32)) &&& (x0 - (1 : Int32))) (fun v1 => (if 0 < v1 then
(if v1 ≤ (65536 : Int32) then
fJ6_numberOfTrailingZeros_0f7a4_p34 n v1 (1 : Int32)
 else
nm ((v1.toUInt32 >>> ((16 : Int32).toUInt32 &&& Int32.toUInt32 31)).toInt32) (fun v4 => fJ6_numberOfTrailingZeros_0f7a4_p34 n v4 ((1 : Int32) + 16)))
 else
some (v1 &&& (32 : Int32))))
def fX2_groups_p5 (n : Nat) (nu_learned : Nat → Int32) (to_near : Nat → Int32) (to_words : Int32) (x1 : Int32)  : Nat → Int32 → Int32 → Option (Int32)
  | 0, _, _ => none
  | k + 1, x3, x4 =>
    (if to_words ≤ x4 then
    some x3
     else
    bd1 (fX2_groupWith n nu_learned to_near to_words x1 x4) (fun v2 => bd1 (fJ6_numberOfTrailingZeros_0f7a4 n v2) (fun v3 => (if v3 = x4 then
    fX2_groups_p5 n nu_learned to_near to_words x1 k (x3 + 1) (x4 + 1)
     else
    fX2_groups_p5 n nu_learned to_near to_words x1 k x3 (x4 + 1)))))
def fX2_groups (n : Nat) (nu_learned : Nat → Int32) (to_near : Nat → Int32) (to_words : Int32) (x1 : Int32) : Option (Int32) :=
fX2_groups_p5 n nu_learned to_near to_words x1 n (0 : Int32) (0 : Int32)
def fX2_greatestGroup_p5 (n : Nat) (nu_learned : Nat → Int32) (to_near : Nat → Int32) (to_words : Int32) (x1 : Int32)  : Nat → Int32 → Int32 → Option (Int32)
  | 0, _, _ => none
  | k + 1, x3, x4 =>
    (if to_words ≤ x4 then
    some x3
     else
    bd1 (fX2_groupWith n nu_learned to_near to_words x1 x4) (fun v2 => bd1 (fJ6_bitCount_0f7a4 n v2) (fun v3 => nm ((if x3 < v3 then v3 else x3)) (fun v4 => fX2_greatestGroup_p5 n nu_learned to_near to_words x1 k v4 (x4 + 1)))))
def fX2_greatestGroup (n : Nat) (nu_learned : Nat → Int32) (to_near : Nat → Int32) (to_words : Int32) (x1 : Int32) : Option (Int32) :=
fX2_greatestGroup_p5 n nu_learned to_near to_words x1 n (0 : Int32) (0 : Int32)
def fX8_childOf (n : Nat) (nu_learned : Nat → Int32) (nu_size : Int32) (to_near : Nat → Int32) (to_words : Int32) (x1 : Int32) (x2 : Int32) : Option (Int32) :=
bd1 (fX2_isChild n nu_size x1) (fun v1 => (if v1 = 0 then
some (-1 : Int32)
 else
(if x2 = 0 then
bd1 (fX2_learnedPairs n nu_learned x1) (fun v4 => some v4)
 else
(if x2 = 1 then
bd1 (fX7_allWords n to_words) (fun v6 => bd1 (fX2_confusedPairs n nu_learned to_near to_words x1 v6) (fun v7 => some v7))
 else
(if x2 = 2 then
bd1 (fX2_groups n nu_learned to_near to_words x1) (fun v9 => some v9)
 else
(if x2 = 3 then
bd1 (fX2_greatestGroup n nu_learned to_near to_words x1) (fun v11 => some v11)
 else
(if x2 < (10 : Int32) then
some (-1 : Int32)
 else
bd1 (fX7_isWord n to_words (x2 - (10 : Int32))) (fun v13 => (if v13 = 0 then
some (-1 : Int32)
 else
bd1 (fX2_groupWith n nu_learned to_near to_words x1 (x2 - (10 : Int32))) (fun v15 => bd1 (fJ6_numberOfTrailingZeros_0f7a4 n v15) (fun v16 => some v16)))))))))))
def fX8_lessons (n : Nat) (nu_learned : Nat → Int32) (nu_size : Int32) (to_near : Nat → Int32) (to_asks : Nat → Int32) (to_words : Int32) (to_askCount : Int32) (x1 : Int32) (x2 : Int32) : Option (Int32) :=
bd1 (fX2_isChild n nu_size x1) (fun v1 => (if v1 = 0 then
some (-1 : Int32)
 else
bd1 (fX7_isAsk n to_askCount x2) (fun v3 => (if v3 = 0 then
some (-1 : Int32)
 else
ar x2 6 to_asks (fun v5 => bd1 (fX2_confusedPairs n nu_learned to_near to_words x1 v5) (fun v6 => some v6))))))
def fX0_falseOnes_p4 (n : Nat) (bk_firsts : Nat → Int32) (bk_lies : Nat → Int32) (bk_size : Int32)  : Nat → Int32 → Int32 → Option (Int32)
  | 0, _, _ => none
  | k + 1, x1, x2 =>
    (if bk_size ≤ x2 then
    some x1
     else
    bd1 (fX0_isFalse n bk_firsts bk_lies x2) (fun v2 => (if v2 = 0 then
    fX0_falseOnes_p4 n bk_firsts bk_lies bk_size k x1 (x2 + 1)
     else
    fX0_falseOnes_p4 n bk_firsts bk_lies bk_size k (x1 + 1) (x2 + 1))))
def fX0_falseOnes (n : Nat) (bk_firsts : Nat → Int32) (bk_lies : Nat → Int32) (bk_size : Int32)  : Option (Int32) :=
fX0_falseOnes_p4 n bk_firsts bk_lies bk_size n (0 : Int32) (0 : Int32)
def fX8_count (n : Nat) (tp_size : Int32) (sh_sizes : Nat → Int32) (la_places : Int32) (la_ridges : Int32) (bk_firsts : Nat → Int32) (bk_lies : Nat → Int32) (bk_size : Int32) (nu_size : Int32) (to_letters : Int32) (to_words : Int32) (to_askCount : Int32) (x1 : Int32) : Option (Int32) :=
(if x1 = 0 then
some to_words
 else
(if x1 = 1 then
some to_askCount
 else
(if x1 = 2 then
some to_letters
 else
(if x1 = 3 then
some la_places
 else
(if x1 = 4 then
some la_ridges
 else
(if x1 = 5 then
some bk_size
 else
(if x1 = 6 then
bd1 (fX0_falseOnes n bk_firsts bk_lies bk_size) (fun v8 => some v8)
 else
(if x1 = 7 then
some nu_size
 else
(if x1 = 8 then
some tp_size
 else
(if x1 = 9 then
ar (0 : Int32) 4 sh_sizes (fun v12 => (if v12 = (-1 : Int32) then
some (-4 : Int32)
 else
ar (0 : Int32) 4 sh_sizes (fun v14 => some v14)))
 else
some (-1 : Int32)))))))))))
def fX7_forget (n : Nat) (dr_letterMarks : Nat → Int32) (dr_letters : Int32) (dr_words : Int32) (dr_askCount : Int32)  : Option ((Nat → Int32) × Int32 × Int32 × Int32) :=
bd1 (fJ7_fill_53178 n 26 dr_letterMarks (-1 : Int32)) (fun f1 => some (f1, (0 : Int32), (0 : Int32), (0 : Int32)))
def fX6_readToken_p107 (n : Nat) (tp_bytes : Nat → Int32) (tp_size : Int32) (rd_kind : Int32) (rd_start : Int32) (rd_number : Int32)  : Nat → Int32 → Option (Int32 × Int32 × Int32 × Int32)
  | 0, _ => none
  | k + 1, rd_at =>
    (if tp_size ≤ rd_at then
    some ((1 : Int32), rd_start, rd_at, rd_number)
     else
    ar rd_at 400 tp_bytes (fun v2 => (if v2 < (97 : Int32) then
    some ((1 : Int32), rd_start, rd_at, rd_number)
     else
    ar rd_at 400 tp_bytes (fun v4 => (if (122 : Int32) < v4 then
    some ((1 : Int32), rd_start, rd_at, rd_number)
     else
    nm (rd_at + (1 : Int32)) (fun v6 => fX6_readToken_p107 n tp_bytes tp_size rd_kind rd_start rd_number k v6))))))
def fX6_readToken_p284 (n : Nat) (rd_kind : Int32) (rd_start : Int32) (rd_at : Int32) (rd_number : Int32)   : Option (Int32 × Int32 × Int32 × Int32) :=
(if (rd_at - rd_start) ≤ (2 : Int32) then
some ((2 : Int32), rd_start, rd_at, rd_number)
 else
some ((5 : Int32), rd_start, rd_at, rd_number))
def fX6_readToken_p196 (n : Nat) (tp_bytes : Nat → Int32) (tp_size : Int32) (rd_kind : Int32) (rd_start : Int32)  : Nat → Int32 → Int32 → Option (Int32 × Int32 × Int32 × Int32)
  | 0, _, _ => none
  | k + 1, rd_at, rd_number =>
    (if tp_size ≤ rd_at then
    fX6_readToken_p284 n rd_kind rd_start rd_at rd_number
     else
    ar rd_at 400 tp_bytes (fun v2 => (if v2 < (48 : Int32) then
    fX6_readToken_p284 n rd_kind rd_start rd_at rd_number
     else
    ar rd_at 400 tp_bytes (fun v4 => (if (57 : Int32) < v4 then
    fX6_readToken_p284 n rd_kind rd_start rd_at rd_number
     else
    ar rd_at 400 tp_bytes (fun v6 => nm (((rd_number * (10 : Int32)) + v6) - (48 : Int32)) (fun v7 => nm (rd_at + (1 : Int32)) (fun v8 => fX6_readToken_p196 n tp_bytes tp_size rd_kind rd_start k v8 v7))))))))
def fX6_readToken_p309 (n : Nat) (rd_kind : Int32) (rd_start : Int32) (rd_at : Int32) (rd_number : Int32) (x1 : Int32)   : Option (Int32 × Int32 × Int32 × Int32) :=
(if x1 = (59 : Int32) then
some ((3 : Int32), rd_start, rd_at, rd_number)
 else
(if x1 = (44 : Int32) then
some ((4 : Int32), rd_start, rd_at, rd_number)
 else
some ((5 : Int32), rd_start, rd_at, rd_number)))
def fX6_readToken_p176 (n : Nat) (tp_bytes : Nat → Int32) (tp_size : Int32) (rd_kind : Int32) (rd_start : Int32) (rd_at : Int32) (rd_number : Int32) (x1 : Int32)   : Option (Int32 × Int32 × Int32 × Int32) :=
(if x1 < (48 : Int32) then
fX6_readToken_p309 n rd_kind rd_start rd_at rd_number x1
 else
(if (57 : Int32) < x1 then
fX6_readToken_p309 n rd_kind rd_start rd_at rd_number x1
 else
nm (x1 - (48 : Int32)) (fun v3 => fX6_readToken_p196 n tp_bytes tp_size rd_kind rd_start n rd_at v3)))
def fX6_readToken_p44 (n : Nat) (tp_bytes : Nat → Int32) (tp_size : Int32) (rd_kind : Int32) (rd_start : Int32) (rd_at : Int32) (rd_number : Int32)   : Option (Int32 × Int32 × Int32 × Int32) :=
(if rd_at < tp_size then
ar rd_at 400 tp_bytes (fun v2 => nm (rd_at + (1 : Int32)) (fun v3 => (if v2 < (97 : Int32) then
fX6_readToken_p176 n tp_bytes tp_size rd_kind rd_at v3 rd_number v2
 else
(if (122 : Int32) < v2 then
fX6_readToken_p176 n tp_bytes tp_size rd_kind rd_at v3 rd_number v2
 else
fX6_readToken_p107 n tp_bytes tp_size rd_kind rd_at rd_number n v3))))
 else
some ((0 : Int32), rd_at, rd_at, rd_number))
def fX6_readToken_p0 (n : Nat) (tp_bytes : Nat → Int32) (tp_size : Int32) (rd_kind : Int32) (rd_start : Int32) (rd_number : Int32)  : Nat → Int32 → Option (Int32 × Int32 × Int32 × Int32)
  | 0, _ => none
  | k + 1, rd_at =>
    (if tp_size ≤ rd_at then
    fX6_readToken_p44 n tp_bytes tp_size rd_kind rd_start rd_at rd_number
     else
    ar rd_at 400 tp_bytes (fun v2 => (if v2 = (32 : Int32) then
    nm (rd_at + (1 : Int32)) (fun v4 => fX6_readToken_p0 n tp_bytes tp_size rd_kind rd_start rd_number k v4)
     else
    fX6_readToken_p44 n tp_bytes tp_size rd_kind rd_start rd_at rd_number)))
def fX6_readToken (n : Nat) (tp_bytes : Nat → Int32) (tp_size : Int32) (rd_kind : Int32) (rd_start : Int32) (rd_at : Int32) (rd_number : Int32)  : Option (Int32 × Int32 × Int32 × Int32) :=
fX6_readToken_p0 n tp_bytes tp_size rd_kind rd_start rd_number n rd_at
def fX6_refuse (n : Nat) (rd_fault : Int32) (rd_faultPlace : Int32) (rd_kind : Int32) (rd_start : Int32) (x1 : Int32) : Option (Int32 × Int32 × Int32) :=
(if rd_kind = (5 : Int32) then
some ((0 : Int32), (1 : Int32), rd_start)
 else
some ((0 : Int32), x1, rd_start))
def fX6_spells_p20 (n : Nat) (tp_bytes : Nat → Int32) (rd_start : Int32) (sl : Nat) (sb : Nat → Int32)  : Nat → Int32 → Option (Int32)
  | 0, _ => none
  | k + 1, x2 =>
    (if (Int32.ofNat sl) ≤ x2 then
    some (1 : Int32)
     else
    ar (rd_start + x2) 400 tp_bytes (fun v2 => ar x2 sl sb (fun v3 => (if v2 = v3 then
    fX6_spells_p20 n tp_bytes rd_start sl sb k (x2 + 1)
     else
    some (0 : Int32)))))
def fX6_spells (n : Nat) (tp_bytes : Nat → Int32) (rd_start : Int32) (rd_at : Int32)  (sl : Nat) (sb : Nat → Int32) : Option (Int32) :=
(if (rd_at - rd_start) = (Int32.ofNat sl) then
fX6_spells_p20 n tp_bytes rd_start sl sb n (0 : Int32)
 else
some (0 : Int32))
def fX6_expect (n : Nat) (tp_bytes : Nat → Int32) (tp_size : Int32) (rd_fault : Int32) (rd_faultPlace : Int32) (rd_kind : Int32) (rd_start : Int32) (rd_at : Int32) (rd_number : Int32) (x1 : Int32) : Option (Int32 × Int32 × Int32 × Int32 × Int32 × Int32 × Int32) :=
bd4 (fX6_readToken n tp_bytes tp_size rd_kind rd_start rd_at rd_number) (fun v1 v2 v3 v4 => (if v1 = x1 then
some ((1 : Int32), rd_fault, rd_faultPlace, v1, v2, v3, v4)
 else
bd3 (fX6_refuse n rd_fault rd_faultPlace v1 v2 (2 : Int32)) (fun v6 v7 v8 => (if v6 = 0 then
some ((0 : Int32), v7, v8, v1, v2, v3, v4)
 else
some ((1 : Int32), v7, v8, v1, v2, v3, v4)))))
def fX6_letterAt (n : Nat) (tp_bytes : Nat → Int32) (x1 : Int32) : Option (Int32) :=
ar x1 400 tp_bytes (fun v1 => some (v1 - (97 : Int32)))
def fX6_readNewLetter (n : Nat) (tp_bytes : Nat → Int32) (tp_size : Int32) (rd_fault : Int32) (rd_faultPlace : Int32) (rd_kind : Int32) (rd_start : Int32) (rd_at : Int32) (rd_number : Int32) (dr_letterMarks : Nat → Int32)  : Option (Int32 × Int32 × Int32 × Int32 × Int32 × Int32 × Int32) :=
bd7 (fX6_expect n tp_bytes tp_size rd_fault rd_faultPlace rd_kind rd_start rd_at rd_number (1 : Int32)) (fun v1 v2 v3 v4 v5 v6 v7 => (if v1 = 0 then
some ((0 : Int32), v2, v3, v4, v5, v6, v7)
 else
(if (v6 - v5) = (1 : Int32) then
bd1 (fX6_letterAt n tp_bytes v5) (fun v10 => ar v10 26 dr_letterMarks (fun v11 => (if v11 = (-1 : Int32) then
some ((1 : Int32), v2, v3, v4, v5, v6, v7)
 else
bd3 (fX6_refuse n v2 v3 v4 v5 (4 : Int32)) (fun v13 v14 v15 => (if v13 = 0 then
some ((0 : Int32), v14, v15, v4, v5, v6, v7)
 else
some ((1 : Int32), v14, v15, v4, v5, v6, v7))))))
 else
bd3 (fX6_refuse n v2 v3 v4 v5 (2 : Int32)) (fun v17 v18 v19 => rb v17 (some (v17, v18, v19, v4, v5, v6, v7))))))
def fX7_tellLetter (n : Nat) (dr_letterMarks : Nat → Int32) (dr_letters : Int32) (x1 : Int32) (x2 : Int32) : Option ((Nat → Int32) × Int32) :=
aw x1 26 dr_letterMarks x2 (fun f1 => nm (dr_letters + (1 : Int32)) (fun v2 => some (f1, v2)))
def fX6_readNumberedLetter (n : Nat) (tp_bytes : Nat → Int32) (tp_size : Int32) (rd_fault : Int32) (rd_faultPlace : Int32) (rd_kind : Int32) (rd_start : Int32) (rd_at : Int32) (rd_number : Int32) (dr_letterMarks : Nat → Int32) (dr_letters : Int32) (x1 : Int32) (x2 : Int32) : Option (Int32 × Int32 × Int32 × Int32 × Int32 × Int32 × Int32 × (Nat → Int32) × Int32) :=
bd7 (fX6_readNewLetter n tp_bytes tp_size rd_fault rd_faultPlace rd_kind rd_start rd_at rd_number dr_letterMarks) (fun v1 v2 v3 v4 v5 v6 v7 => (if v1 = 0 then
some ((0 : Int32), v2, v3, v4, v5, v6, v7, dr_letterMarks, dr_letters)
 else
bd1 (fX6_letterAt n tp_bytes v5) (fun v9 => bd7 (fX6_expect n tp_bytes tp_size v2 v3 v4 v5 v6 v7 (2 : Int32)) (fun v10 v11 v12 v13 v14 v15 v16 => (if v10 = 0 then
some ((0 : Int32), v11, v12, v13, v14, v15, v16, dr_letterMarks, dr_letters)
 else
(if v16 < x2 then
bd2 (fX7_tellLetter n dr_letterMarks dr_letters v9 (x1 + v16)) (fun f19 v20 => bd7 (fX6_expect n tp_bytes tp_size v11 v12 v13 v14 v15 v16 (3 : Int32)) (fun v21 v22 v23 v24 v25 v26 v27 => rb v21 (some (v21, v22, v23, v24, v25, v26, v27, f19, v20))))
 else
bd3 (fX6_refuse n v11 v12 v13 v14 (3 : Int32)) (fun v28 v29 v30 => rb v28 (some (v28, v29, v30, v13, v14, v15, v16, dr_letterMarks, dr_letters)))))))))
def fX6_readPlainLetter (n : Nat) (tp_bytes : Nat → Int32) (tp_size : Int32) (rd_fault : Int32) (rd_faultPlace : Int32) (rd_kind : Int32) (rd_start : Int32) (rd_at : Int32) (rd_number : Int32) (dr_letterMarks : Nat → Int32) (dr_letters : Int32) (x1 : Int32) : Option (Int32 × Int32 × Int32 × Int32 × Int32 × Int32 × Int32 × (Nat → Int32) × Int32) :=
bd7 (fX6_readNewLetter n tp_bytes tp_size rd_fault rd_faultPlace rd_kind rd_start rd_at rd_number dr_letterMarks) (fun v1 v2 v3 v4 v5 v6 v7 => (if v1 = 0 then
some ((0 : Int32), v2, v3, v4, v5, v6, v7, dr_letterMarks, dr_letters)
 else
bd1 (fX6_letterAt n tp_bytes v5) (fun v9 => bd2 (fX7_tellLetter n dr_letterMarks dr_letters v9 x1) (fun f10 v11 => bd7 (fX6_expect n tp_bytes tp_size v2 v3 v4 v5 v6 v7 (3 : Int32)) (fun v12 v13 v14 v15 v16 v17 v18 => rb v12 (some (v12, v13, v14, v15, v16, v17, v18, f10, v11)))))))
def fX6_allLettersTold_p5 (n : Nat) (tp_bytes : Nat → Int32) (rd_at : Int32) (dr_letterMarks : Nat → Int32)  : Nat → Int32 → Option (Int32)
  | 0, _ => none
  | k + 1, x1 =>
    (if rd_at ≤ x1 then
    some (1 : Int32)
     else
    bd1 (fX6_letterAt n tp_bytes x1) (fun v2 => ar v2 26 dr_letterMarks (fun v3 => (if v3 = (-1 : Int32) then
    some (0 : Int32)
     else
    fX6_allLettersTold_p5 n tp_bytes rd_at dr_letterMarks k (x1 + 1)))))
def fX6_allLettersTold (n : Nat) (tp_bytes : Nat → Int32) (rd_start : Int32) (rd_at : Int32) (dr_letterMarks : Nat → Int32)  : Option (Int32) :=
fX6_allLettersTold_p5 n tp_bytes rd_at dr_letterMarks n rd_start
def fX6_nameRead_p7 (n : Nat) (tp_bytes : Nat → Int32) (rd_at : Int32)  : Nat → Int64 → Int32 → Option (Int64)
  | 0, _, _ => none
  | k + 1, x1, x3 =>
    (if rd_at ≤ x3 then
    some x1
     else
    bd1 (fX6_letterAt n tp_bytes x3) (fun v2 => nm (((x1 * (32 : Int64)) + v2.toInt64) + (1 : Int64)) (fun v3 => fX6_nameRead_p7 n tp_bytes rd_at k v3 (x3 + 1))))
def fX6_nameRead (n : Nat) (tp_bytes : Nat → Int32) (rd_start : Int32) (rd_at : Int32)  : Option (Int64) :=
fX6_nameRead_p7 n tp_bytes rd_at n (0 : Int64) rd_start
def fX7_hasName_p2 (n : Nat) (dr_names : Nat → Int64) (dr_words : Int32) (x1 : Int64)  : Nat → Int32 → Option (Int32)
  | 0, _ => none
  | k + 1, x3 =>
    (if dr_words ≤ x3 then
    some (0 : Int32)
     else
    ar x3 16 dr_names (fun v2 => (if (lg_cmp v2 x1) = 0 then
    some (1 : Int32)
     else
    fX7_hasName_p2 n dr_names dr_words x1 k (x3 + 1))))
def fX7_hasName (n : Nat) (dr_names : Nat → Int64) (dr_words : Int32) (x1 : Int64) : Option (Int32) :=
fX7_hasName_p2 n dr_names dr_words x1 n (0 : Int32)
def fX6_speechRead_p10 (n : Nat) (tp_bytes : Nat → Int32) (rd_at : Int32) (dr_letterMarks : Nat → Int32)  : Nat → Int64 → Int32 → Int32 → Option (Int64)
  | 0, _, _, _ => none
  | k + 1, x1, x3, x4 =>
    (if rd_at ≤ x4 then
    some x1
     else
    bd1 (fX6_letterAt n tp_bytes x4) (fun v2 => ar v2 26 dr_letterMarks (fun v3 => (if v3 = (-2 : Int32) then
    fX6_speechRead_p10 n tp_bytes rd_at dr_letterMarks k x1 x3 (x4 + 1)
     else
    bd1 (fX3_with n x1 x3 v3) (fun v5 => fX6_speechRead_p10 n tp_bytes rd_at dr_letterMarks k v5 (x3 + 1) (x4 + 1))))))
def fX6_speechRead (n : Nat) (tp_bytes : Nat → Int32) (rd_start : Int32) (rd_at : Int32) (dr_letterMarks : Nat → Int32)  : Option (Int64) :=
fX6_speechRead_p10 n tp_bytes rd_at dr_letterMarks n (0 : Int64) (0 : Int32) rd_start
def fX7_tellWord (n : Nat) (dr_names : Nat → Int64) (dr_spelled : Nat → Int32) (dr_rows : Nat → Int64) (dr_words : Int32) (x1 : Int64) (x3 : Int32) (x4 : Int64) : Option ((Nat → Int64) × (Nat → Int32) × (Nat → Int64) × Int32) :=
awL dr_words 16 dr_names x1 (fun f1 => aw dr_words 16 dr_spelled x3 (fun f2 => awL dr_words 96 dr_rows x4 (fun f3 => nm (dr_words + (1 : Int32)) (fun v4 => some (f1, f2, f3, v4)))))
def fX6_readWord (n : Nat) (tp_bytes : Nat → Int32) (tp_size : Int32) (rd_fault : Int32) (rd_faultPlace : Int32) (rd_kind : Int32) (rd_start : Int32) (rd_at : Int32) (rd_number : Int32) (dr_letterMarks : Nat → Int32) (dr_names : Nat → Int64) (dr_spelled : Nat → Int32) (dr_rows : Nat → Int64) (dr_words : Int32)  : Option (Int32 × Int32 × Int32 × Int32 × Int32 × Int32 × Int32 × (Nat → Int64) × (Nat → Int32) × (Nat → Int64) × Int32) :=
(if dr_words < (16 : Int32) then
bd7 (fX6_expect n tp_bytes tp_size rd_fault rd_faultPlace rd_kind rd_start rd_at rd_number (1 : Int32)) (fun v2 v3 v4 v5 v6 v7 v8 => (if v2 = 0 then
some ((0 : Int32), v3, v4, v5, v6, v7, v8, dr_names, dr_spelled, dr_rows, dr_words)
 else
(if (8 : Int32) < (v7 - v6) then
bd3 (fX6_refuse n v3 v4 v5 v6 (5 : Int32)) (fun v11 v12 v13 => rb v11 (some (v11, v12, v13, v5, v6, v7, v8, dr_names, dr_spelled, dr_rows, dr_words)))
 else
bd1 (fX6_allLettersTold n tp_bytes v6 v7 dr_letterMarks) (fun v14 => (if v14 = 0 then
bd3 (fX6_refuse n v3 v4 v5 v6 (5 : Int32)) (fun v34 v35 v36 => rb v34 (some (v34, v35, v36, v5, v6, v7, v8, dr_names, dr_spelled, dr_rows, dr_words)))
 else
bd1 (fX6_nameRead n tp_bytes v6 v7) (fun v16 => bd1 (fX7_hasName n dr_names dr_words v16) (fun v17 => (if v17 = 0 then
bd1 (fX6_speechRead n tp_bytes v6 v7 dr_letterMarks) (fun v19 => bd4 (fX7_tellWord n dr_names dr_spelled dr_rows dr_words v16 (v7 - v6) v19) (fun f20 f21 f22 v23 => bd7 (fX6_expect n tp_bytes tp_size v3 v4 v5 v6 v7 v8 (3 : Int32)) (fun v24 v25 v26 v27 v28 v29 v30 => rb v24 (some (v24, v25, v26, v27, v28, v29, v30, f20, f21, f22, v23)))))
 else
bd3 (fX6_refuse n v3 v4 v5 v6 (4 : Int32)) (fun v31 v32 v33 => rb v31 (some (v31, v32, v33, v5, v6, v7, v8, dr_names, dr_spelled, dr_rows, dr_words)))))))))))
 else
bd3 (fX6_refuse n rd_fault rd_faultPlace rd_kind rd_start (6 : Int32)) (fun v37 v38 v39 => rb v37 (some (v37, v38, v39, rd_kind, rd_start, rd_at, rd_number, dr_names, dr_spelled, dr_rows, dr_words))))
def fX7_tellAsk (n : Nat) (dr_asks : Nat → Int32) (dr_askCount : Int32) (x1 : Int32) : Option ((Nat → Int32) × Int32) :=
aw dr_askCount 6 dr_asks x1 (fun f1 => nm (dr_askCount + (1 : Int32)) (fun v2 => some (f1, v2)))
def fX6_readAsk_p23 (n : Nat) (tp_bytes : Nat → Int32) (tp_size : Int32) (dr_asks : Nat → Int32) (dr_words : Int32) (dr_askCount : Int32)  : Nat → Int32 → Int32 → Int32 → Int32 → Int32 → Int32 → Int32 → Int32 → Option (Int32 × Int32 × Int32 × Int32 × Int32 × Int32 × Int32 × (Nat → Int32) × Int32)
  | 0, _, _, _, _, _, _, _, _ => none
  | k + 1, rd_fault, rd_faultPlace, rd_kind, rd_start, rd_at, rd_number, x1, x2 =>
    (if (16 : Int32) < x2 then
    bd3 (fX6_refuse n rd_fault rd_faultPlace rd_kind rd_start (3 : Int32)) (fun v2 v3 v4 => rb v2 (some (v2, v3, v4, rd_kind, rd_start, rd_at, rd_number, dr_asks, dr_askCount)))
     else
    bd7 (fX6_expect n tp_bytes tp_size rd_fault rd_faultPlace rd_kind rd_start rd_at rd_number (2 : Int32)) (fun v5 v6 v7 v8 v9 v10 v11 => (if v5 = 0 then
    some ((0 : Int32), v6, v7, v8, v9, v10, v11, dr_asks, dr_askCount)
     else
    bd1 (fX7_isWord n dr_words v11) (fun v13 => (if v13 = 0 then
    bd3 (fX6_refuse n v6 v7 v8 v9 (3 : Int32)) (fun v15 v16 v17 => rb v15 (some (v15, v16, v17, v8, v9, v10, v11, dr_asks, dr_askCount)))
     else
    bd1 (fX8_isIn n x1 v11) (fun v18 => (if v18 = 0 then
    nm (x1 ||| ((1 : Int32) <<< (v11 &&& 31))) (fun v20 => bd4 (fX6_readToken n tp_bytes tp_size v8 v9 v10 v11) (fun v21 v22 v23 v24 => (if v21 = (3 : Int32) then
    bd2 (fX7_tellAsk n dr_asks dr_askCount v20) (fun f30 v31 => some ((1 : Int32), v6, v7, v21, v22, v23, v24, f30, v31))
     else
    (if v21 = (4 : Int32) then
    fX6_readAsk_p23 n tp_bytes tp_size dr_asks dr_words dr_askCount k v6 v7 v21 v22 v23 v24 v20 (x2 + 1)
     else
    bd3 (fX6_refuse n v6 v7 v21 v22 (2 : Int32)) (fun v27 v28 v29 => rb v27 (some (v27, v28, v29, v21, v22, v23, v24, dr_asks, dr_askCount)))))))
     else
    bd3 (fX6_refuse n v6 v7 v8 v9 (3 : Int32)) (fun v32 v33 v34 => rb v32 (some (v32, v33, v34, v8, v9, v10, v11, dr_asks, dr_askCount))))))))))
def fX6_readAsk (n : Nat) (tp_bytes : Nat → Int32) (tp_size : Int32) (rd_fault : Int32) (rd_faultPlace : Int32) (rd_kind : Int32) (rd_start : Int32) (rd_at : Int32) (rd_number : Int32) (dr_asks : Nat → Int32) (dr_words : Int32) (dr_askCount : Int32)  : Option (Int32 × Int32 × Int32 × Int32 × Int32 × Int32 × Int32 × (Nat → Int32) × Int32) :=
(if dr_askCount < (6 : Int32) then
fX6_readAsk_p23 n tp_bytes tp_size dr_asks dr_words dr_askCount n rd_fault rd_faultPlace rd_kind rd_start rd_at rd_number (0 : Int32) (0 : Int32)
 else
bd3 (fX6_refuse n rd_fault rd_faultPlace rd_kind rd_start (6 : Int32)) (fun v2 v3 v4 => rb v2 (some (v2, v3, v4, rd_kind, rd_start, rd_at, rd_number, dr_asks, dr_askCount))))
def fX6_readLine (n : Nat) (tp_bytes : Nat → Int32) (tp_size : Int32) (rd_fault : Int32) (rd_faultPlace : Int32) (rd_kind : Int32) (rd_start : Int32) (rd_at : Int32) (rd_number : Int32) (dr_letterMarks : Nat → Int32) (dr_names : Nat → Int64) (dr_spelled : Nat → Int32) (dr_rows : Nat → Int64) (dr_asks : Nat → Int32) (dr_letters : Int32) (dr_words : Int32) (dr_askCount : Int32)  : Option (Int32 × Int32 × Int32 × Int32 × Int32 × Int32 × Int32 × (Nat → Int32) × (Nat → Int64) × (Nat → Int32) × (Nat → Int64) × (Nat → Int32) × Int32 × Int32 × Int32) :=
(if rd_kind = (1 : Int32) then
bd1 (fX6_spells n tp_bytes rd_start rd_at (lenS 0) (chS 0)) (fun v2 => (if v2 = 0 then
bd1 (fX6_spells n tp_bytes rd_start rd_at (lenS 1) (chS 1)) (fun v4 => (if v4 = 0 then
bd1 (fX6_spells n tp_bytes rd_start rd_at (lenS 2) (chS 2)) (fun v6 => (if v6 = 0 then
bd1 (fX6_spells n tp_bytes rd_start rd_at (lenS 3) (chS 3)) (fun v8 => (if v8 = 0 then
bd1 (fX6_spells n tp_bytes rd_start rd_at (lenS 4) (chS 4)) (fun v10 => (if v10 = 0 then
bd1 (fX6_spells n tp_bytes rd_start rd_at (lenS 5) (chS 5)) (fun v12 => (if v12 = 0 then
bd3 (fX6_refuse n rd_fault rd_faultPlace rd_kind rd_start (2 : Int32)) (fun v14 v15 v16 => rb v14 (some (v14, v15, v16, rd_kind, rd_start, rd_at, rd_number, dr_letterMarks, dr_names, dr_spelled, dr_rows, dr_asks, dr_letters, dr_words, dr_askCount)))
 else
bd9 (fX6_readAsk n tp_bytes tp_size rd_fault rd_faultPlace rd_kind rd_start rd_at rd_number dr_asks dr_words dr_askCount) (fun v17 v18 v19 v20 v21 v22 v23 f24 v25 => rb v17 (some (v17, v18, v19, v20, v21, v22, v23, dr_letterMarks, dr_names, dr_spelled, dr_rows, f24, dr_letters, dr_words, v25)))))
 else
bd11 (fX6_readWord n tp_bytes tp_size rd_fault rd_faultPlace rd_kind rd_start rd_at rd_number dr_letterMarks dr_names dr_spelled dr_rows dr_words) (fun v26 v27 v28 v29 v30 v31 v32 f33 f34 f35 v36 => rb v26 (some (v26, v27, v28, v29, v30, v31, v32, dr_letterMarks, f33, f34, f35, dr_asks, dr_letters, v36, dr_askCount)))))
 else
bd9 (fX6_readPlainLetter n tp_bytes tp_size rd_fault rd_faultPlace rd_kind rd_start rd_at rd_number dr_letterMarks dr_letters (-2 : Int32)) (fun v37 v38 v39 v40 v41 v42 v43 f44 v45 => rb v37 (some (v37, v38, v39, v40, v41, v42, v43, f44, dr_names, dr_spelled, dr_rows, dr_asks, v45, dr_words, dr_askCount)))))
 else
bd9 (fX6_readPlainLetter n tp_bytes tp_size rd_fault rd_faultPlace rd_kind rd_start rd_at rd_number dr_letterMarks dr_letters (20 : Int32)) (fun v46 v47 v48 v49 v50 v51 v52 f53 v54 => rb v46 (some (v46, v47, v48, v49, v50, v51, v52, f53, dr_names, dr_spelled, dr_rows, dr_asks, v54, dr_words, dr_askCount)))))
 else
bd9 (fX6_readNumberedLetter n tp_bytes tp_size rd_fault rd_faultPlace rd_kind rd_start rd_at rd_number dr_letterMarks dr_letters (16 : Int32) (4 : Int32)) (fun v55 v56 v57 v58 v59 v60 v61 f62 v63 => rb v55 (some (v55, v56, v57, v58, v59, v60, v61, f62, dr_names, dr_spelled, dr_rows, dr_asks, v63, dr_words, dr_askCount)))))
 else
bd9 (fX6_readNumberedLetter n tp_bytes tp_size rd_fault rd_faultPlace rd_kind rd_start rd_at rd_number dr_letterMarks dr_letters (0 : Int32) (16 : Int32)) (fun v64 v65 v66 v67 v68 v69 v70 f71 v72 => rb v64 (some (v64, v65, v66, v67, v68, v69, v70, f71, dr_names, dr_spelled, dr_rows, dr_asks, v72, dr_words, dr_askCount)))))
 else
bd3 (fX6_refuse n rd_fault rd_faultPlace rd_kind rd_start (2 : Int32)) (fun v73 v74 v75 => rb v73 (some (v73, v74, v75, rd_kind, rd_start, rd_at, rd_number, dr_letterMarks, dr_names, dr_spelled, dr_rows, dr_asks, dr_letters, dr_words, dr_askCount))))
def fX6_readText_p24 (n : Nat) (tp_bytes : Nat → Int32) (tp_size : Int32)  : Nat → Int32 → Int32 → Int32 → Int32 → Int32 → Int32 → (Nat → Int32) → (Nat → Int64) → (Nat → Int32) → (Nat → Int64) → (Nat → Int32) → Int32 → Int32 → Int32 → Int32 → Option (Int32 × Int32 × Int32 × Int32 × Int32 × Int32 × Int32 × (Nat → Int32) × (Nat → Int64) × (Nat → Int32) × (Nat → Int64) × (Nat → Int32) × Int32 × Int32 × Int32)
  | 0, _, _, _, _, _, _, _, _, _, _, _, _, _, _, _ => none
  | k + 1, rd_fault, rd_faultPlace, rd_kind, rd_start, rd_at, rd_number, dr_letterMarks, dr_names, dr_spelled, dr_rows, dr_asks, dr_letters, dr_words, dr_askCount, x1 =>
    (if (400 : Int32) < x1 then
    bd3 (fX6_refuse n rd_fault rd_faultPlace rd_kind rd_start (2 : Int32)) (fun v2 v3 v4 => rb v2 (some (v2, v3, v4, rd_kind, rd_start, rd_at, rd_number, dr_letterMarks, dr_names, dr_spelled, dr_rows, dr_asks, dr_letters, dr_words, dr_askCount)))
     else
    bd4 (fX6_readToken n tp_bytes tp_size rd_kind rd_start rd_at rd_number) (fun v5 v6 v7 v8 => (if v5 = 0 then
    some ((1 : Int32), rd_fault, rd_faultPlace, v5, v6, v7, v8, dr_letterMarks, dr_names, dr_spelled, dr_rows, dr_asks, dr_letters, dr_words, dr_askCount)
     else
    bd15 (fX6_readLine n tp_bytes tp_size rd_fault rd_faultPlace v5 v6 v7 v8 dr_letterMarks dr_names dr_spelled dr_rows dr_asks dr_letters dr_words dr_askCount) (fun v10 v11 v12 v13 v14 v15 v16 f17 f18 f19 f20 f21 v22 v23 v24 => (if v10 = 0 then
    some ((0 : Int32), v11, v12, v13, v14, v15, v16, f17, f18, f19, f20, f21, v22, v23, v24)
     else
    fX6_readText_p24 n tp_bytes tp_size k v11 v12 v13 v14 v15 v16 f17 f18 f19 f20 f21 v22 v23 v24 (x1 + 1))))))
def fX6_readText (n : Nat) (tp_bytes : Nat → Int32) (tp_size : Int32) (rd_fault : Int32) (rd_faultPlace : Int32) (rd_kind : Int32) (rd_start : Int32) (rd_at : Int32) (rd_number : Int32) (dr_letterMarks : Nat → Int32) (dr_names : Nat → Int64) (dr_spelled : Nat → Int32) (dr_rows : Nat → Int64) (dr_asks : Nat → Int32) (dr_letters : Int32) (dr_words : Int32) (dr_askCount : Int32)  : Option (Int32 × Int32 × Int32 × Int32 × Int32 × Int32 × Int32 × (Nat → Int32) × (Nat → Int64) × (Nat → Int32) × (Nat → Int64) × (Nat → Int32) × Int32 × Int32 × Int32) :=
bd4 (fX7_forget n dr_letterMarks dr_letters dr_words dr_askCount) (fun f1 v2 v3 v4 => fX6_readText_p24 n tp_bytes tp_size n (0 : Int32) (0 : Int32) rd_kind rd_start (0 : Int32) rd_number f1 dr_names dr_spelled dr_rows dr_asks v2 v3 v4 (0 : Int32))
def fX3_blurMark (n : Nat)  (x0 : Int32) (x1 : Int32) : Option (Int32) :=
(if (16 : Int32) ≤ x0 then
(if x1 < (4 : Int32) then
(if x0 = (20 : Int32) then
(if (3 : Int32) ≤ x1 then
(if (0 : Int32) = 0 then
some (16 : Int32)
 else
some x0)
 else
(if (1 : Int32) = 0 then
some (16 : Int32)
 else
some x0))
 else
(if (2 : Int32) ≤ x1 then
(if (0 : Int32) = 0 then
some (16 : Int32)
 else
some x0)
 else
(if (1 : Int32) = 0 then
some (16 : Int32)
 else
some x0)))
 else
some (-4 : Int32))
 else
some (x0 >>> (x1 &&& 31)))
def fX3_blurRow_p54 (n : Nat) (x0 : Int64) (x2 : Int32) (x3 : Int64) (x5 : Int32) (x6 : Int32) (x7 : Int32) (x8 : Int32) (x9 : Int32) (s0 : Int32) (rec18 : Int64 → Int32 → Int32 → Int32 → Option (Int64)) : Option (Int64) :=
(if x9 = (-4 : Int32) then
rec18 x3 x5 x6 (x8 + 1)
 else
(if s0 = 0 then
bd1 (fX3_with n x3 x5 x9) (fun v3 => rec18 v3 (x5 + 1) x9 (x8 + 1))
 else
rec18 x3 x5 x6 (x8 + 1)))
def fX3_blurRow_p18 (n : Nat) (x0 : Int64) (x2 : Int32) (x7 : Int32)  : Nat → Int64 → Int32 → Int32 → Int32 → Option (Int64)
  | 0, _, _, _, _ => none
  | k + 1, x3, x5, x6, x8 =>
    (if x7 ≤ x8 then
    some x3
     else
    bd1 (fX3_markAt n x0 x8) (fun v2 => bd1 (fX3_blurMark n v2 x2) (fun v3 => (if x2 < (3 : Int32) then
    fX3_blurRow_p54 n x0 x2 x3 x5 x6 x7 x8 v3 (0 : Int32) (fX3_blurRow_p18 n x0 x2 x7 k)
     else
    (if v3 = x6 then
    fX3_blurRow_p54 n x0 x2 x3 x5 x6 x7 x8 v3 (1 : Int32) (fX3_blurRow_p18 n x0 x2 x7 k)
     else
    fX3_blurRow_p54 n x0 x2 x3 x5 x6 x7 x8 v3 (0 : Int32) (fX3_blurRow_p18 n x0 x2 x7 k))))))
def fX3_blurRow (n : Nat)  (x0 : Int64) (x2 : Int32) : Option (Int64) :=
bd1 (fX3_length n x0) (fun v1 => fX3_blurRow_p18 n x0 x2 v1 n (0 : Int64) (0 : Int32) (-4 : Int32) (0 : Int32))
def fX3_differInOne_p19 (n : Nat) (x0 : Int64) (x2 : Int64)  : Nat → Int32 → Int32 → Option (Int32)
  | 0, _, _ => none
  | k + 1, x4, x5 =>
    (if (8 : Int32) ≤ x5 then
    (if x4 = (1 : Int32) then
    some (1 : Int32)
     else
    some (0 : Int32))
     else
    bd1 (fX3_markAt n x0 x5) (fun v3 => bd1 (fX3_markAt n x2 x5) (fun v4 => (if v3 = v4 then
    fX3_differInOne_p19 n x0 x2 k x4 (x5 + 1)
     else
    fX3_differInOne_p19 n x0 x2 k (x4 + 1) (x5 + 1)))))
def fX3_differInOne (n : Nat)  (x0 : Int64) (x2 : Int64) : Option (Int32) :=
bd1 (fX3_length n x0) (fun v1 => bd1 (fX3_length n x2) (fun v2 => (if v1 = v2 then
fX3_differInOne_p19 n x0 x2 n (0 : Int32) (0 : Int32)
 else
some (0 : Int32))))
def fX7_differingInOneFrom_p4 (n : Nat) (to_rows : Nat → Int64) (to_words : Int32) (x1 : Int32)  : Nat → Int32 → Int32 → Option (Int32)
  | 0, _, _ => none
  | k + 1, x2, x3 =>
    (if to_words ≤ x3 then
    some x2
     else
    ar x3 96 to_rows (fun v2 => ar x1 96 to_rows (fun v3 => bd1 (fX3_differInOne n v2 v3) (fun v4 => (if v4 = 0 then
    fX7_differingInOneFrom_p4 n to_rows to_words x1 k x2 (x3 + 1)
     else
    nm (x2 ||| ((1 : Int32) <<< (x3 &&& 31))) (fun v6 => fX7_differingInOneFrom_p4 n to_rows to_words x1 k v6 (x3 + 1)))))))
def fX7_differingInOneFrom (n : Nat) (to_rows : Nat → Int64) (to_words : Int32) (x1 : Int32) : Option (Int32) :=
fX7_differingInOneFrom_p4 n to_rows to_words x1 n (0 : Int32) (0 : Int32)
def fX7_settle_p10 (n : Nat) (to_alike : Nat → Int32) (to_near : Nat → Int32) (to_words : Int32) (x1 : Int32) (rec2 : (Nat → Int64) → Int32 → Option ((Nat → Int64) × (Nat → Int32) × (Nat → Int32))) : Nat → (Nat → Int64) → Int32 → Option ((Nat → Int64) × (Nat → Int32) × (Nat → Int32))
  | 0, _, _ => none
  | k + 1, to_rows, x2 =>
    (if to_words ≤ x2 then
    rec2 to_rows (x1 + 1)
     else
    ar x2 96 to_rows (fun v2 => bd1 (fX3_blurRow n v2 x1) (fun v3 => awL ((x1 * (16 : Int32)) + x2) 96 to_rows v3 (fun f4 => fX7_settle_p10 n to_alike to_near to_words x1 rec2 k f4 (x2 + 1)))))
def fX7_settle_p61 (n : Nat) (to_rows : Nat → Int64) (to_near : Nat → Int32) (to_words : Int32) (x1 : Int32) (rec53 : (Nat → Int32) → Int32 → Option ((Nat → Int64) × (Nat → Int32) × (Nat → Int32))) : Nat → (Nat → Int32) → Int32 → Option ((Nat → Int64) × (Nat → Int32) × (Nat → Int32))
  | 0, _, _ => none
  | k + 1, to_alike, x2 =>
    (if to_words ≤ x2 then
    rec53 to_alike (x1 + 1)
     else
    bd1 (fX7_rowAt n to_rows x1 x2) (fun v2 => bd1 (fX7_withRow n to_rows to_words x1 v2) (fun v3 => aw ((x1 * (16 : Int32)) + x2) 96 to_alike v3 (fun f4 => fX7_settle_p61 n to_rows to_near to_words x1 rec53 k f4 (x2 + 1)))))
def fX7_settle_p105 (n : Nat) (to_rows : Nat → Int64) (to_alike : Nat → Int32) (to_words : Int32)  : Nat → (Nat → Int32) → Int32 → Option ((Nat → Int64) × (Nat → Int32) × (Nat → Int32))
  | 0, _, _ => none
  | k + 1, to_near, x1 =>
    (if to_words ≤ x1 then
    some (to_rows, to_alike, to_near)
     else
    bd1 (fX7_differingInOneFrom n to_rows to_words x1) (fun v2 => aw x1 16 to_near v2 (fun f3 => fX7_settle_p105 n to_rows to_alike to_words k f3 (x1 + 1))))
def fX7_settle_p53 (n : Nat) (to_rows : Nat → Int64) (to_near : Nat → Int32) (to_words : Int32)  : Nat → (Nat → Int32) → Int32 → Option ((Nat → Int64) × (Nat → Int32) × (Nat → Int32))
  | 0, _, _ => none
  | k + 1, to_alike, x1 =>
    (if (6 : Int32) ≤ x1 then
    fX7_settle_p105 n to_rows to_alike to_words n to_near (0 : Int32)
     else
    fX7_settle_p61 n to_rows to_near to_words x1 (fX7_settle_p53 n to_rows to_near to_words k) n to_alike (0 : Int32))
def fX7_settle_p2 (n : Nat) (to_alike : Nat → Int32) (to_near : Nat → Int32) (to_words : Int32)  : Nat → (Nat → Int64) → Int32 → Option ((Nat → Int64) × (Nat → Int32) × (Nat → Int32))
  | 0, _, _ => none
  | k + 1, to_rows, x1 =>
    (if (6 : Int32) ≤ x1 then
    fX7_settle_p53 n to_rows to_near to_words n to_alike (0 : Int32)
     else
    fX7_settle_p10 n to_alike to_near to_words x1 (fX7_settle_p2 n to_alike to_near to_words k) n to_rows (0 : Int32))
def fX7_settle (n : Nat) (to_rows : Nat → Int64) (to_alike : Nat → Int32) (to_near : Nat → Int32) (to_words : Int32)  : Option ((Nat → Int64) × (Nat → Int32) × (Nat → Int32)) :=
fX7_settle_p2 n to_alike to_near to_words n to_rows (1 : Int32)
def fX8_tongue (n : Nat) (ww_latestFault : Int32) (tp_bytes : Nat → Int32) (tp_size : Int32) (rd_fault : Int32) (rd_faultPlace : Int32) (rd_kind : Int32) (rd_start : Int32) (rd_at : Int32) (rd_number : Int32) (dr_letterMarks : Nat → Int32) (dr_names : Nat → Int64) (dr_spelled : Nat → Int32) (dr_rows : Nat → Int64) (dr_alike : Nat → Int32) (dr_near : Nat → Int32) (dr_asks : Nat → Int32) (dr_letters : Int32) (dr_words : Int32) (dr_askCount : Int32) (bk_size : Int32) (nu_size : Int32) (to_letterMarks : Nat → Int32) (to_names : Nat → Int64) (to_spelled : Nat → Int32) (to_rows : Nat → Int64) (to_alike : Nat → Int32) (to_near : Nat → Int32) (to_asks : Nat → Int32) (to_letters : Int32) (to_words : Int32) (to_askCount : Int32)  : Option (Int32 × Int32 × Int32 × Int32 × Int32 × Int32 × Int32 × Int32 × Int32 × (Nat → Int32) × (Nat → Int64) × (Nat → Int32) × (Nat → Int64) × (Nat → Int32) × (Nat → Int32) × (Nat → Int32) × Int32 × Int32 × Int32 × (Nat → Int32) × (Nat → Int64) × (Nat → Int32) × (Nat → Int64) × (Nat → Int32) × (Nat → Int32) × (Nat → Int32) × Int32 × Int32 × Int32) :=
(if 0 < bk_size then
some ((-2 : Int32), ww_latestFault, tp_size, rd_fault, rd_faultPlace, rd_kind, rd_start, rd_at, rd_number, dr_letterMarks, dr_names, dr_spelled, dr_rows, dr_alike, dr_near, dr_asks, dr_letters, dr_words, dr_askCount, to_letterMarks, to_names, to_spelled, to_rows, to_alike, to_near, to_asks, to_letters, to_words, to_askCount)
 else
(if nu_size ≤ 0 then
bd15 (fX6_readText n tp_bytes tp_size rd_fault rd_faultPlace rd_kind rd_start rd_at rd_number dr_letterMarks dr_names dr_spelled dr_rows dr_asks dr_letters dr_words dr_askCount) (fun v3 v4 v5 v6 v7 v8 v9 f10 f11 f12 f13 f14 v15 v16 v17 => (if v3 = 0 then
some ((-10 : Int32) - v5, v4, (0 : Int32), v4, v5, v6, v7, v8, v9, f10, f11, f12, f13, dr_alike, dr_near, f14, v15, v16, v17, to_letterMarks, to_names, to_spelled, to_rows, to_alike, to_near, to_asks, to_letters, to_words, to_askCount)
 else
bd3 (fX7_settle n f13 dr_alike dr_near v16) (fun f19 f20 f21 => some (v16, v4, (0 : Int32), v4, v5, v6, v7, v8, v9, to_letterMarks, to_names, to_spelled, to_rows, to_alike, to_near, to_asks, to_letters, to_words, to_askCount, f10, f11, f12, f19, f20, f21, f14, v15, v16, v17))))
 else
some ((-2 : Int32), ww_latestFault, tp_size, rd_fault, rd_faultPlace, rd_kind, rd_start, rd_at, rd_number, dr_letterMarks, dr_names, dr_spelled, dr_rows, dr_alike, dr_near, dr_asks, dr_letters, dr_words, dr_askCount, to_letterMarks, to_names, to_spelled, to_rows, to_alike, to_near, to_asks, to_letters, to_words, to_askCount)))
