def fX9_feed_p19 (n : Nat) (x1 : Int64)  : Nat → (Nat → Int32) → Int32 → Int32 → Option (Int32 × (Nat → Int32) × Int32)
  | 0, _, _, _ => none
  | k + 1, m_tape, m_taped, x3 =>
    (if x3 < 0 then
    some (m_taped, m_tape, m_taped)
     else
    aw m_taped 400 m_tape (((x1 >>> (x3.toInt64 &&& 63)) &&& (255 : Int64)).toInt32) (fun f2 => nm (m_taped + (1 : Int32)) (fun v3 => fX9_feed_p19 n x1 k f2 v3 (x3 + (-8)))))
def fX9_feed (n : Nat) (m_tape : Nat → Int32) (m_taped : Int32) (x1 : Int64) : Option (Int32 × (Nat → Int32) × Int32) :=
(if (m_taped + (8 : Int32)) ≤ (400 : Int32) then
fX9_feed_p19 n x1 n m_tape m_taped (56 : Int32)
 else
some ((-3 : Int32), m_tape, m_taped))
def fX9_in (n : Nat)  (x0 : Int64) (x2 : Int64) (x4 : Int64) : Option (Int32) :=
(if (lg_cmp x0 x2) < 0 then
some (0 : Int32)
 else
(if 0 < (lg_cmp x0 x4) then
some (0 : Int32)
 else
some (1 : Int32)))
def fX9_end (n : Nat) (m_taped : Int32) (x1 : Int32) : Option (Int32 × Int32) :=
bd1 (fX9_in n x1.toInt64 (0 : Int64) m_taped.toInt64) (fun v1 => (if v1 = 0 then
some ((-1 : Int32), m_taped)
 else
some (m_taped, x1)))
def fX9_fault (n : Nat) (m_fault : Int32)  : Option (Int32) :=
some m_fault
def fX9_isWord (n : Nat) (m_words : Int32) (x1 : Int32) : Option (Int32) :=
bd1 (fX9_in n x1.toInt64 (0 : Int64) ((m_words - (1 : Int32)).toInt64)) (fun v1 => rb v1 (some v1))
def fX9_markAt (n : Nat)  (x0 : Int32) (x1 : Int32) : Option (Int32) :=
(if (16 : Int32) ≤ x0 then
(if (20 : Int32) ≤ x0 then
(if x0 = (30 : Int32) then
some (-1 : Int32)
 else
(if (3 : Int32) ≤ x1 then
(if x1 = (3 : Int32) then
some (16 : Int32)
 else
some (-1 : Int32))
 else
some (20 : Int32)))
 else
(if (2 : Int32) ≤ x1 then
(if (4 : Int32) ≤ x1 then
some (-1 : Int32)
 else
some (16 : Int32))
 else
some x0))
 else
some (x0 >>> (x1 &&& 31)))
def fX9_rowOf_p6 (n : Nat) (m_letters : Nat → Int32) (m_wMany : Nat → Int32) (m_wLetters : Nat → Int32) (x1 : Int32) (x2 : Int32)  : Nat → (Nat → Int32) → Int32 → Int32 → Option (Int32 × (Nat → Int32))
  | 0, _, _, _ => none
  | k + 1, m_rowA, x4, x5 =>
    ar x1 16 m_wMany (fun v1 => (if v1 ≤ x5 then
    some (x4, m_rowA)
     else
    ar (((8 : Int32) * x1) + x5) 128 m_wLetters (fun v3 => ar v3 26 m_letters (fun v4 => bd1 (fX9_markAt n v4 x2) (fun v5 => (if v5 < 0 then
    fX9_rowOf_p6 n m_letters m_wMany m_wLetters x1 x2 k m_rowA x4 (x5 + 1)
     else
    (if x2 < (3 : Int32) then
    aw x4 8 m_rowA v5 (fun f8 => fX9_rowOf_p6 n m_letters m_wMany m_wLetters x1 x2 k f8 (x4 + 1) (x5 + 1))
     else
    (if x4 ≤ 0 then
    aw x4 8 m_rowA v5 (fun f10 => fX9_rowOf_p6 n m_letters m_wMany m_wLetters x1 x2 k f10 (x4 + 1) (x5 + 1))
     else
    ar (x4 - (1 : Int32)) 8 m_rowA (fun v11 => (if v11 = v5 then
    fX9_rowOf_p6 n m_letters m_wMany m_wLetters x1 x2 k m_rowA x4 (x5 + 1)
     else
    aw x4 8 m_rowA v5 (fun f13 => fX9_rowOf_p6 n m_letters m_wMany m_wLetters x1 x2 k f13 (x4 + 1) (x5 + 1))))))))))))
def fX9_rowOf (n : Nat) (m_letters : Nat → Int32) (m_wMany : Nat → Int32) (m_wLetters : Nat → Int32) (m_rowA : Nat → Int32) (x1 : Int32) (x2 : Int32) : Option (Int32 × (Nat → Int32)) :=
fX9_rowOf_p6 n m_letters m_wMany m_wLetters x1 x2 n m_rowA (0 : Int32) (0 : Int32)
def fX9_word_p130 (n : Nat) (m_wMany : Nat → Int32) (m_manyA : Int32) (m_rowA : Nat → Int32) (x1 : Int32) (x2 : Int32) (x3 : Int32) (x4 : Int32)   : Option (Int32 × Int32 × (Nat → Int32)) :=
(if x2 = 0 then
ar x1 16 m_wMany (fun v5 => some (v5, m_manyA, m_rowA))
 else
(if x2 = (1 : Int32) then
some (m_manyA, m_manyA, m_rowA)
 else
(if x2 = (2 : Int32) then
some (x3, m_manyA, m_rowA)
 else
(if x2 = (3 : Int32) then
some (x4, m_manyA, m_rowA)
 else
some ((-1 : Int32), m_manyA, m_rowA)))))
def fX9_word_p99 (n : Nat) (m_wMany : Nat → Int32) (m_asks : Int32) (m_aWords : Nat → Int32) (m_manyA : Int32) (m_rowA : Nat → Int32) (x1 : Int32) (x2 : Int32) (x3 : Int32)  : Nat → Int32 → Int32 → Option (Int32 × Int32 × (Nat → Int32))
  | 0, _, _ => none
  | k + 1, x4, x5 =>
    (if m_asks ≤ x5 then
    fX9_word_p130 n m_wMany m_manyA m_rowA x1 x2 x3 x4
     else
    ar x5 6 m_aWords (fun v2 => nm (x4 + ((v2 >>> (x1 &&& 31)) &&& (1 : Int32))) (fun v3 => fX9_word_p99 n m_wMany m_asks m_aWords m_manyA m_rowA x1 x2 x3 k v3 (x5 + 1))))
def fX9_word_p58 (n : Nat) (m_wMany : Nat → Int32) (m_asks : Int32) (m_aWords : Nat → Int32) (m_manyA : Int32) (m_rowA : Nat → Int32) (x1 : Int32) (x2 : Int32)  : Nat → Int32 → Int32 → Option (Int32 × Int32 × (Nat → Int32))
  | 0, _, _ => none
  | k + 1, x3, x4 =>
    (if m_manyA ≤ x4 then
    fX9_word_p99 n m_wMany m_asks m_aWords m_manyA m_rowA x1 x2 x3 n (0 : Int32) (0 : Int32)
     else
    ar x4 8 m_rowA (fun v2 => (if (16 : Int32) ≤ v2 then
    nm (x3 + (0 : Int32)) (fun v4 => fX9_word_p58 n m_wMany m_asks m_aWords m_manyA m_rowA x1 x2 k v4 (x4 + 1))
     else
    nm (x3 + (1 : Int32)) (fun v5 => fX9_word_p58 n m_wMany m_asks m_aWords m_manyA m_rowA x1 x2 k v5 (x4 + 1)))))
def fX9_word (n : Nat) (m_letters : Nat → Int32) (m_words : Int32) (m_wMany : Nat → Int32) (m_wLetters : Nat → Int32) (m_asks : Int32) (m_aWords : Nat → Int32) (m_manyA : Int32) (m_rowA : Nat → Int32) (x1 : Int32) (x2 : Int32) : Option (Int32 × Int32 × (Nat → Int32)) :=
bd1 (fX9_isWord n m_words x1) (fun v1 => (if v1 = 0 then
some ((-1 : Int32), m_manyA, m_rowA)
 else
bd2 (fX9_rowOf n m_letters m_wMany m_wLetters m_rowA x1 (0 : Int32)) (fun v3 f4 => bd1 (fX9_in n x2.toInt64 (10 : Int64) (((9 : Int32) + v3).toInt64)) (fun v5 => (if v5 = 0 then
fX9_word_p58 n m_wMany m_asks m_aWords v3 f4 x1 x2 n (0 : Int32) (0 : Int32)
 else
ar (x2 - (10 : Int32)) 8 f4 (fun v7 => some (v7, v3, f4)))))))
def fX9_isAsk (n : Nat) (m_asks : Int32) (x1 : Int32) : Option (Int32) :=
bd1 (fX9_in n x1.toInt64 (0 : Int64) ((m_asks - (1 : Int32)).toInt64)) (fun v1 => rb v1 (some v1))
def fX9_bits_p4 (n : Nat) (x0 : Int32)  : Nat → Int32 → Int32 → Option (Int32)
  | 0, _, _ => none
  | k + 1, x1, x2 =>
    (if (16 : Int32) ≤ x2 then
    some x1
     else
    nm (x1 + ((x0 >>> (x2 &&& 31)) &&& (1 : Int32))) (fun v2 => fX9_bits_p4 n x0 k v2 (x2 + 1)))
def fX9_bits (n : Nat)  (x0 : Int32) : Option (Int32) :=
fX9_bits_p4 n x0 n (0 : Int32) (0 : Int32)
def fX9_ask (n : Nat) (m_asks : Int32) (m_aWords : Nat → Int32) (x1 : Int32) (x2 : Int32) : Option (Int32) :=
bd1 (fX9_isAsk n m_asks x1) (fun v1 => (if v1 = 0 then
some (-1 : Int32)
 else
bd1 (fX9_in n x2.toInt64 (0 : Int64) (1 : Int64)) (fun v3 => (if v3 = 0 then
some (-1 : Int32)
 else
(if x2 = 0 then
ar x1 6 m_aWords (fun v7 => bd1 (fX9_bits n v7) (fun v8 => some v8))
 else
ar x1 6 m_aWords (fun v6 => some v6))))))
def fX9_isBlur (n : Nat)  (x0 : Int32) : Option (Int32) :=
bd1 (fX9_in n x0.toInt64 (0 : Int64) (5 : Int64)) (fun v1 => rb v1 (some v1))
def fX9_blurred (n : Nat) (m_letters : Nat → Int32) (m_words : Int32) (m_wMany : Nat → Int32) (m_wLetters : Nat → Int32) (m_manyA : Int32) (m_rowA : Nat → Int32) (x1 : Int32) (x2 : Int32) (x3 : Int32) : Option (Int32 × Int32 × (Nat → Int32)) :=
bd1 (fX9_isWord n m_words x1) (fun v1 => (if v1 = 0 then
some ((-1 : Int32), m_manyA, m_rowA)
 else
bd1 (fX9_isBlur n x2) (fun v3 => (if v3 = 0 then
some ((-1 : Int32), m_manyA, m_rowA)
 else
(if 0 ≤ x3 then
bd2 (fX9_rowOf n m_letters m_wMany m_wLetters m_rowA x1 x2) (fun v6 f7 => (if v6 ≤ x3 then
some ((-4 : Int32), v6, f7)
 else
ar x3 8 f7 (fun v9 => some (v9, v6, f7))))
 else
some ((-1 : Int32), m_manyA, m_rowA))))))
def fX9_areOne_p49 (n : Nat) (m_manyA : Int32) (m_rowA : Nat → Int32) (m_manyB : Int32) (m_rowB : Nat → Int32)  : Nat → Int32 → Int32 → Option (Int32 × Int32 × (Nat → Int32) × Int32 × (Nat → Int32))
  | 0, _, _ => none
  | k + 1, x4, x5 =>
    (if m_manyA ≤ x5 then
    rb x4 (some (x4, m_manyA, m_rowA, m_manyB, m_rowB))
     else
    (if x4 = 0 then
    rb x4 (some (x4, m_manyA, m_rowA, m_manyB, m_rowB))
     else
    ar x5 8 m_rowA (fun v3 => ar x5 8 m_rowB (fun v4 => (if v3 = v4 then
    fX9_areOne_p49 n m_manyA m_rowA m_manyB m_rowB k (1 : Int32) (x5 + 1)
     else
    fX9_areOne_p49 n m_manyA m_rowA m_manyB m_rowB k (0 : Int32) (x5 + 1))))))
def fX9_areOne (n : Nat) (m_letters : Nat → Int32) (m_wMany : Nat → Int32) (m_wLetters : Nat → Int32) (m_manyA : Int32) (m_rowA : Nat → Int32) (m_manyB : Int32) (m_rowB : Nat → Int32) (x1 : Int32) (x2 : Int32) (x3 : Int32) : Option (Int32 × Int32 × (Nat → Int32) × Int32 × (Nat → Int32)) :=
bd2 (fX9_rowOf n m_letters m_wMany m_wLetters m_rowA x1 x3) (fun v1 f2 => bd2 (fX9_rowOf n m_letters m_wMany m_wLetters m_rowB x2 x3) (fun v3 f4 => (if v1 = v3 then
fX9_areOne_p49 n v1 f2 v3 f4 n (1 : Int32) (0 : Int32)
 else
fX9_areOne_p49 n v1 f2 v3 f4 n (0 : Int32) (0 : Int32))))
def fX9_apart (n : Nat) (m_letters : Nat → Int32) (m_words : Int32) (m_wMany : Nat → Int32) (m_wLetters : Nat → Int32) (m_manyA : Int32) (m_rowA : Nat → Int32) (m_manyB : Int32) (m_rowB : Nat → Int32) (x1 : Int32) (x2 : Int32) (x3 : Int32) : Option (Int32 × Int32 × (Nat → Int32) × Int32 × (Nat → Int32)) :=
bd1 (fX9_isWord n m_words x1) (fun v1 => (if v1 = 0 then
some ((-1 : Int32), m_manyA, m_rowA, m_manyB, m_rowB)
 else
bd1 (fX9_isWord n m_words x2) (fun v3 => (if v3 = 0 then
some ((-1 : Int32), m_manyA, m_rowA, m_manyB, m_rowB)
 else
bd1 (fX9_isBlur n x3) (fun v5 => (if v5 = 0 then
some ((-1 : Int32), m_manyA, m_rowA, m_manyB, m_rowB)
 else
bd5 (fX9_areOne n m_letters m_wMany m_wLetters m_manyA m_rowA m_manyB m_rowB x1 x2 x3) (fun v7 v8 f9 v10 f11 => (if v7 = 0 then
some ((1 : Int32), v8, f9, v10, f11)
 else
some ((0 : Int32), v8, f9, v10, f11)))))))))
def fX9_until_p20 (n : Nat) (m_letters : Nat → Int32) (m_wMany : Nat → Int32) (m_wLetters : Nat → Int32) (x1 : Int32) (x2 : Int32)  : Nat → Int32 → (Nat → Int32) → Int32 → (Nat → Int32) → Int32 → Option (Int32 × Int32 × (Nat → Int32) × Int32 × (Nat → Int32))
  | 0, _, _, _, _, _ => none
  | k + 1, m_manyA, m_rowA, m_manyB, m_rowB, x3 =>
    (if (5 : Int32) < x3 then
    (if x3 ≤ (5 : Int32) then
    some (x3, m_manyA, m_rowA, m_manyB, m_rowB)
     else
    some ((-4 : Int32), m_manyA, m_rowA, m_manyB, m_rowB))
     else
    bd5 (fX9_areOne n m_letters m_wMany m_wLetters m_manyA m_rowA m_manyB m_rowB x1 x2 x3) (fun v3 v4 f5 v6 f7 => (if v3 = 0 then
    fX9_until_p20 n m_letters m_wMany m_wLetters x1 x2 k v4 f5 v6 f7 (x3 + 1)
     else
    (if x3 ≤ (5 : Int32) then
    some (x3, v4, f5, v6, f7)
     else
    some ((-4 : Int32), v4, f5, v6, f7)))))
def fX9_until (n : Nat) (m_letters : Nat → Int32) (m_words : Int32) (m_wMany : Nat → Int32) (m_wLetters : Nat → Int32) (m_manyA : Int32) (m_rowA : Nat → Int32) (m_manyB : Int32) (m_rowB : Nat → Int32) (x1 : Int32) (x2 : Int32) : Option (Int32 × Int32 × (Nat → Int32) × Int32 × (Nat → Int32)) :=
bd1 (fX9_isWord n m_words x1) (fun v1 => (if v1 = 0 then
some ((-1 : Int32), m_manyA, m_rowA, m_manyB, m_rowB)
 else
bd1 (fX9_isWord n m_words x2) (fun v3 => (if v3 = 0 then
some ((-1 : Int32), m_manyA, m_rowA, m_manyB, m_rowB)
 else
fX9_until_p20 n m_letters m_wMany m_wLetters x1 x2 n m_manyA m_rowA m_manyB m_rowB (0 : Int32)))))
def fX9_cut_p162 (n : Nat) (m_letters : Nat → Int32) (m_words : Int32) (m_wMany : Nat → Int32) (m_wLetters : Nat → Int32) (m_manyA : Int32) (m_rowA : Nat → Int32) (m_manyB : Int32) (m_rowB : Nat → Int32) (x2 : Int32) (x3 : Int32) (x4 : Int32) (x5 : Int32) (x6 : Int32) (x7 : Int32) (x9 : Int32) (x10 : Int32) (s0 : Int32) (rec69 : Int32 → (Nat → Int32) → Int32 → (Nat → Int32) → Int32 → Int32 → Int32 → Option (Int32 × Int32 × (Nat → Int32) × Int32 × (Nat → Int32))) (rec99 : Int32 → (Nat → Int32) → Int32 → (Nat → Int32) → Int32 → Int32 → Int32 → Option (Int32 × Int32 × (Nat → Int32) × Int32 × (Nat → Int32))) : Option (Int32 × Int32 × (Nat → Int32) × Int32 × (Nat → Int32)) :=
(if x10 = 0 then
nm (x6 + (0 : Int32)) (fun v2 => rec99 m_manyA m_rowA m_manyB m_rowB v2 s0 (x9 + 1))
 else
nm (x6 + (1 : Int32)) (fun v3 => rec99 m_manyA m_rowA m_manyB m_rowB v3 s0 (x9 + 1)))
def fX9_cut_p144 (n : Nat) (m_letters : Nat → Int32) (m_words : Int32) (m_wMany : Nat → Int32) (m_wLetters : Nat → Int32) (m_manyA : Int32) (m_rowA : Nat → Int32) (m_manyB : Int32) (m_rowB : Nat → Int32) (x2 : Int32) (x3 : Int32) (x4 : Int32) (x5 : Int32) (x6 : Int32) (x7 : Int32) (x8 : Int32) (x9 : Int32)  (rec69 : Int32 → (Nat → Int32) → Int32 → (Nat → Int32) → Int32 → Int32 → Int32 → Option (Int32 × Int32 × (Nat → Int32) × Int32 × (Nat → Int32))) (rec99 : Int32 → (Nat → Int32) → Int32 → (Nat → Int32) → Int32 → Int32 → Int32 → Option (Int32 × Int32 × (Nat → Int32) × Int32 × (Nat → Int32))) : Option (Int32 × Int32 × (Nat → Int32) × Int32 × (Nat → Int32)) :=
(if x8 = 0 then
fX9_cut_p162 n m_letters m_words m_wMany m_wLetters m_manyA m_rowA m_manyB m_rowB x2 x3 x4 x5 x6 x7 x9 (0 : Int32) (0 : Int32) (rec69) (rec99)
 else
(if (0 : Int32) = 0 then
fX9_cut_p162 n m_letters m_words m_wMany m_wLetters m_manyA m_rowA m_manyB m_rowB x2 x3 x4 x5 x6 x7 x9 (0 : Int32) (1 : Int32) (rec69) (rec99)
 else
fX9_cut_p162 n m_letters m_words m_wMany m_wLetters m_manyA m_rowA m_manyB m_rowB x2 x3 x4 x5 x6 x7 x9 (0 : Int32) (0 : Int32) (rec69) (rec99)))
def fX9_cut_p185 (n : Nat) (m_letters : Nat → Int32) (m_words : Int32) (m_wMany : Nat → Int32) (m_wLetters : Nat → Int32) (m_manyA : Int32) (m_rowA : Nat → Int32) (m_manyB : Int32) (m_rowB : Nat → Int32) (x2 : Int32) (x3 : Int32) (x4 : Int32) (x5 : Int32) (x6 : Int32) (x7 : Int32) (x8 : Int32)  (rec69 : Int32 → (Nat → Int32) → Int32 → (Nat → Int32) → Int32 → Int32 → Int32 → Option (Int32 × Int32 × (Nat → Int32) × Int32 × (Nat → Int32))) : Option (Int32 × Int32 × (Nat → Int32) × Int32 × (Nat → Int32)) :=
(if x8 = 0 then
nm (x5 ||| (0 : Int32)) (fun v2 => rec69 m_manyA m_rowA m_manyB m_rowB v2 x6 (x7 + 1))
 else
nm (x5 ||| ((1 : Int32) <<< (x7 &&& 31))) (fun v3 => rec69 m_manyA m_rowA m_manyB m_rowB v3 x6 (x7 + 1)))
def fX9_cut_p99 (n : Nat) (m_letters : Nat → Int32) (m_words : Int32) (m_wMany : Nat → Int32) (m_wLetters : Nat → Int32) (x2 : Int32) (x3 : Int32) (x4 : Int32) (x5 : Int32) (x7 : Int32) (rec69 : Int32 → (Nat → Int32) → Int32 → (Nat → Int32) → Int32 → Int32 → Int32 → Option (Int32 × Int32 × (Nat → Int32) × Int32 × (Nat → Int32))) : Nat → Int32 → (Nat → Int32) → Int32 → (Nat → Int32) → Int32 → Int32 → Int32 → Option (Int32 × Int32 × (Nat → Int32) × Int32 × (Nat → Int32))
  | 0, _, _, _, _, _, _, _ => none
  | k + 1, m_manyA, m_rowA, m_manyB, m_rowB, x6, x8, x9 =>
    (if x7 ≤ x9 then
    fX9_cut_p185 n m_letters m_words m_wMany m_wLetters m_manyA m_rowA m_manyB m_rowB x2 x3 x4 x5 x6 x7 x8 (rec69)
     else
    (if ((x4 >>> (x7 &&& 31)) &&& (1 : Int32)) = (1 : Int32) then
    (if ((x4 >>> (x9 &&& 31)) &&& (1 : Int32)) = (1 : Int32) then
    bd5 (fX9_areOne n m_letters m_wMany m_wLetters m_manyA m_rowA m_manyB m_rowB x9 x7 x2) (fun v4 v5 f6 v7 f8 => (if v4 = 0 then
    fX9_cut_p144 n m_letters m_words m_wMany m_wLetters v5 f6 v7 f8 x2 x3 x4 x5 x6 x7 x8 x9 (rec69) (fX9_cut_p99 n m_letters m_words m_wMany m_wLetters x2 x3 x4 x5 x7 rec69 k)
     else
    (if x8 = 0 then
    fX9_cut_p162 n m_letters m_words m_wMany m_wLetters v5 f6 v7 f8 x2 x3 x4 x5 x6 x7 x9 (1 : Int32) (0 : Int32) (rec69) (fX9_cut_p99 n m_letters m_words m_wMany m_wLetters x2 x3 x4 x5 x7 rec69 k)
     else
    (if (1 : Int32) = 0 then
    fX9_cut_p162 n m_letters m_words m_wMany m_wLetters v5 f6 v7 f8 x2 x3 x4 x5 x6 x7 x9 (1 : Int32) (1 : Int32) (rec69) (fX9_cut_p99 n m_letters m_words m_wMany m_wLetters x2 x3 x4 x5 x7 rec69 k)
     else
    fX9_cut_p162 n m_letters m_words m_wMany m_wLetters v5 f6 v7 f8 x2 x3 x4 x5 x6 x7 x9 (1 : Int32) (0 : Int32) (rec69) (fX9_cut_p99 n m_letters m_words m_wMany m_wLetters x2 x3 x4 x5 x7 rec69 k)))))
     else
    fX9_cut_p144 n m_letters m_words m_wMany m_wLetters m_manyA m_rowA m_manyB m_rowB x2 x3 x4 x5 x6 x7 x8 x9 (rec69) (fX9_cut_p99 n m_letters m_words m_wMany m_wLetters x2 x3 x4 x5 x7 rec69 k))
     else
    fX9_cut_p185 n m_letters m_words m_wMany m_wLetters m_manyA m_rowA m_manyB m_rowB x2 x3 x4 x5 x6 x7 x8 (rec69)))
def fX9_cut_p209 (n : Nat) (m_manyA : Int32) (m_rowA : Nat → Int32) (m_manyB : Int32) (m_rowB : Nat → Int32) (x3 : Int32) (x5 : Int32) (x6 : Int32)   : Option (Int32 × Int32 × (Nat → Int32) × Int32 × (Nat → Int32)) :=
(if x3 = 0 then
bd1 (fX9_bits n x5) (fun v3 => some (v3, m_manyA, m_rowA, m_manyB, m_rowB))
 else
(if x3 = (1 : Int32) then
some (x5, m_manyA, m_rowA, m_manyB, m_rowB)
 else
some (x6, m_manyA, m_rowA, m_manyB, m_rowB)))
def fX9_cut_p69 (n : Nat) (m_letters : Nat → Int32) (m_words : Int32) (m_wMany : Nat → Int32) (m_wLetters : Nat → Int32) (x2 : Int32) (x3 : Int32) (x4 : Int32)  : Nat → Int32 → (Nat → Int32) → Int32 → (Nat → Int32) → Int32 → Int32 → Int32 → Option (Int32 × Int32 × (Nat → Int32) × Int32 × (Nat → Int32))
  | 0, _, _, _, _, _, _, _ => none
  | k + 1, m_manyA, m_rowA, m_manyB, m_rowB, x5, x6, x7 =>
    (if m_words ≤ x7 then
    fX9_cut_p209 n m_manyA m_rowA m_manyB m_rowB x3 x5 x6
     else
    (if ((x4 >>> (x7 &&& 31)) &&& (1 : Int32)) = (1 : Int32) then
    fX9_cut_p99 n m_letters m_words m_wMany m_wLetters x2 x3 x4 x5 x7 (fX9_cut_p69 n m_letters m_words m_wMany m_wLetters x2 x3 x4 k) n m_manyA m_rowA m_manyB m_rowB x6 (1 : Int32) (0 : Int32)
     else
    fX9_cut_p99 n m_letters m_words m_wMany m_wLetters x2 x3 x4 x5 x7 (fX9_cut_p69 n m_letters m_words m_wMany m_wLetters x2 x3 x4 k) n m_manyA m_rowA m_manyB m_rowB x6 (0 : Int32) (0 : Int32)))
def fX9_cut_p14 (n : Nat) (m_letters : Nat → Int32) (m_words : Int32) (m_wMany : Nat → Int32) (m_wLetters : Nat → Int32) (m_aWords : Nat → Int32) (m_manyA : Int32) (m_rowA : Nat → Int32) (m_manyB : Int32) (m_rowB : Nat → Int32) (x1 : Int32) (x2 : Int32) (x3 : Int32)   : Option (Int32 × Int32 × (Nat → Int32) × Int32 × (Nat → Int32)) :=
bd1 (fX9_isBlur n x2) (fun v1 => (if v1 = 0 then
some ((-1 : Int32), m_manyA, m_rowA, m_manyB, m_rowB)
 else
bd1 (fX9_in n x3.toInt64 (0 : Int64) (2 : Int64)) (fun v3 => (if v3 = 0 then
some ((-1 : Int32), m_manyA, m_rowA, m_manyB, m_rowB)
 else
(if x1 = (-4 : Int32) then
nm (((1 : Int32) <<< (m_words &&& 31)) - (1 : Int32)) (fun v7 => fX9_cut_p69 n m_letters m_words m_wMany m_wLetters x2 x3 v7 n m_manyA m_rowA m_manyB m_rowB (0 : Int32) (0 : Int32) (0 : Int32))
 else
ar x1 6 m_aWords (fun v6 => fX9_cut_p69 n m_letters m_words m_wMany m_wLetters x2 x3 v6 n m_manyA m_rowA m_manyB m_rowB (0 : Int32) (0 : Int32) (0 : Int32)))))))
def fX9_cut (n : Nat) (m_letters : Nat → Int32) (m_words : Int32) (m_wMany : Nat → Int32) (m_wLetters : Nat → Int32) (m_asks : Int32) (m_aWords : Nat → Int32) (m_manyA : Int32) (m_rowA : Nat → Int32) (m_manyB : Int32) (m_rowB : Nat → Int32) (x1 : Int32) (x2 : Int32) (x3 : Int32) : Option (Int32 × Int32 × (Nat → Int32) × Int32 × (Nat → Int32)) :=
(if x1 = (-4 : Int32) then
fX9_cut_p14 n m_letters m_words m_wMany m_wLetters m_aWords m_manyA m_rowA m_manyB m_rowB x1 x2 x3
 else
bd1 (fX9_isAsk n m_asks x1) (fun v2 => (if v2 = 0 then
some ((-1 : Int32), m_manyA, m_rowA, m_manyB, m_rowB)
 else
fX9_cut_p14 n m_letters m_words m_wMany m_wLetters m_aWords m_manyA m_rowA m_manyB m_rowB x1 x2 x3)))
def fX9_isSheet (n : Nat)  (x0 : Int32) (x1 : Int32) : Option (Int32) :=
bd1 (fX9_in n x0.toInt64 (0 : Int64) (3 : Int64)) (fun v1 => (if v1 = 0 then
some (0 : Int32)
 else
bd1 (fX9_in n x1.toInt64 (0 : Int64) (2 : Int64)) (fun v3 => (if v3 = 0 then
some (0 : Int32)
 else
some (1 : Int32)))))
def fX9_means_p225 (n : Nat) (m_letters : Nat → Int32) (m_words : Int32) (m_wMany : Nat → Int32) (m_wLetters : Nat → Int32) (m_aWords : Nat → Int32) (m_manyA : Int32) (m_rowA : Nat → Int32) (m_cells : Nat → Int32) (x1 : Int32) (x2 : Int32) (x3 : Int32) (x5 : Int32) (x6 : Int32) (x7 : Int32) (x8 : Int32) (x9 : Int32)  (rec117 : Int32 → (Nat → Int32) → Int32 → Int32 → Option (Int32 × Int32 × (Nat → Int32))) : Option (Int32 × Int32 × (Nat → Int32)) :=
(if x9 = 0 then
nm (x7 ||| (0 : Int32)) (fun v2 => rec117 m_manyA m_rowA v2 (x8 + 1))
 else
nm (x7 ||| ((1 : Int32) <<< (x8 &&& 31))) (fun v3 => rec117 m_manyA m_rowA v3 (x8 + 1)))
def fX9_means_p175 (n : Nat) (m_letters : Nat → Int32) (m_words : Int32) (m_wMany : Nat → Int32) (m_wLetters : Nat → Int32) (m_aWords : Nat → Int32) (m_manyA : Int32) (m_rowA : Nat → Int32) (m_cells : Nat → Int32) (x1 : Int32) (x2 : Int32) (x3 : Int32) (x5 : Int32) (x6 : Int32) (x7 : Int32) (x8 : Int32) (rec117 : Int32 → (Nat → Int32) → Int32 → Int32 → Option (Int32 × Int32 × (Nat → Int32))) : Nat → Int32 → Int32 → Option (Int32 × Int32 × (Nat → Int32))
  | 0, _, _ => none
  | k + 1, x9, x10 =>
    (if x6 ≤ x10 then
    fX9_means_p225 n m_letters m_words m_wMany m_wLetters m_aWords m_manyA m_rowA m_cells x1 x2 x3 x5 x6 x7 x8 x9 (rec117)
     else
    (if x9 = 0 then
    fX9_means_p225 n m_letters m_words m_wMany m_wLetters m_aWords m_manyA m_rowA m_cells x1 x2 x3 x5 x6 x7 x8 x9 (rec117)
     else
    ar x10 8 m_rowA (fun v3 => ar ((((60 : Int32) * x3) + x5) + x10) 240 m_cells (fun v4 => (if v3 = v4 then
    fX9_means_p175 n m_letters m_words m_wMany m_wLetters m_aWords m_manyA m_rowA m_cells x1 x2 x3 x5 x6 x7 x8 rec117 k (1 : Int32) (x10 + 1)
     else
    fX9_means_p175 n m_letters m_words m_wMany m_wLetters m_aWords m_manyA m_rowA m_cells x1 x2 x3 x5 x6 x7 x8 rec117 k (0 : Int32) (x10 + 1))))))
def fX9_means_p117 (n : Nat) (m_letters : Nat → Int32) (m_words : Int32) (m_wMany : Nat → Int32) (m_wLetters : Nat → Int32) (m_aWords : Nat → Int32) (m_cells : Nat → Int32) (x1 : Int32) (x2 : Int32) (x3 : Int32) (x5 : Int32) (x6 : Int32)  : Nat → Int32 → (Nat → Int32) → Int32 → Int32 → Option (Int32 × Int32 × (Nat → Int32))
  | 0, _, _, _, _ => none
  | k + 1, m_manyA, m_rowA, x7, x8 =>
    (if m_words ≤ x8 then
    some (x7, m_manyA, m_rowA)
     else
    bd2 (fX9_rowOf n m_letters m_wMany m_wLetters m_rowA x8 x2) (fun v2 f3 => ar x1 6 m_aWords (fun v4 => (if ((v4 >>> (x8 &&& 31)) &&& (1 : Int32)) = (1 : Int32) then
    (if v2 = x6 then
    fX9_means_p175 n m_letters m_words m_wMany m_wLetters m_aWords v2 f3 m_cells x1 x2 x3 x5 x6 x7 x8 (fX9_means_p117 n m_letters m_words m_wMany m_wLetters m_aWords m_cells x1 x2 x3 x5 x6 k) n (1 : Int32) (0 : Int32)
     else
    fX9_means_p175 n m_letters m_words m_wMany m_wLetters m_aWords v2 f3 m_cells x1 x2 x3 x5 x6 x7 x8 (fX9_means_p117 n m_letters m_words m_wMany m_wLetters m_aWords m_cells x1 x2 x3 x5 x6 k) n (0 : Int32) (0 : Int32))
     else
    fX9_means_p175 n m_letters m_words m_wMany m_wLetters m_aWords v2 f3 m_cells x1 x2 x3 x5 x6 x7 x8 (fX9_means_p117 n m_letters m_words m_wMany m_wLetters m_aWords m_cells x1 x2 x3 x5 x6 k) n (0 : Int32) (0 : Int32)))))
def fX9_means_p72 (n : Nat) (m_letters : Nat → Int32) (m_words : Int32) (m_wMany : Nat → Int32) (m_wLetters : Nat → Int32) (m_aWords : Nat → Int32) (m_manyA : Int32) (m_rowA : Nat → Int32) (m_sizes : Nat → Int32) (m_cells : Nat → Int32) (x1 : Int32) (x2 : Int32) (x3 : Int32) (x5 : Int32) (x6 : Int32)  : Nat → Int32 → Option (Int32 × Int32 × (Nat → Int32))
  | 0, _ => none
  | k + 1, x7 =>
    (if x6 ≤ x7 then
    fX9_means_p117 n m_letters m_words m_wMany m_wLetters m_aWords m_cells x1 x2 x3 x5 x6 n m_manyA m_rowA (0 : Int32) (0 : Int32)
     else
    ar x3 4 m_sizes (fun v2 => bd1 (fX9_in n (x5.toInt64 + x7.toInt64) (0 : Int64) ((v2 - (1 : Int32)).toInt64)) (fun v3 => (if v3 = 0 then
    some ((-12 : Int32), m_manyA, m_rowA)
     else
    fX9_means_p72 n m_letters m_words m_wMany m_wLetters m_aWords m_manyA m_rowA m_sizes m_cells x1 x2 x3 x5 x6 k (x7 + 1)))))
def fX9_means (n : Nat) (m_letters : Nat → Int32) (m_words : Int32) (m_wMany : Nat → Int32) (m_wLetters : Nat → Int32) (m_asks : Int32) (m_aWords : Nat → Int32) (m_manyA : Int32) (m_rowA : Nat → Int32) (m_lanes : Nat → Int32) (m_sizes : Nat → Int32) (m_cells : Nat → Int32) (x1 : Int32) (x2 : Int32) (x3 : Int32) (x4 : Int32) (x5 : Int32) (x6 : Int32) : Option (Int32 × Int32 × (Nat → Int32)) :=
bd1 (fX9_isAsk n m_asks x1) (fun v1 => (if v1 = 0 then
some ((-1 : Int32), m_manyA, m_rowA)
 else
bd1 (fX9_isBlur n x2) (fun v3 => (if v3 = 0 then
some ((-1 : Int32), m_manyA, m_rowA)
 else
bd1 (fX9_isSheet n x3 x4) (fun v5 => (if v5 = 0 then
some ((-1 : Int32), m_manyA, m_rowA)
 else
bd1 (fX9_in n x6.toInt64 (0 : Int64) (8 : Int64)) (fun v7 => (if v7 = 0 then
some ((-1 : Int32), m_manyA, m_rowA)
 else
ar x3 4 m_lanes (fun v9 => (if v9 = x4 then
fX9_means_p72 n m_letters m_words m_wMany m_wLetters m_aWords m_manyA m_rowA m_sizes m_cells x1 x2 x3 x5 x6 n (0 : Int32)
 else
ar x3 4 m_lanes (fun v11 => (if v11 = (-4 : Int32) then
some ((-11 : Int32), m_manyA, m_rowA)
 else
some ((-13 : Int32), m_manyA, m_rowA)))))))))))))
def fX9_fitsAsk (n : Nat) (m_words : Int32) (m_asks : Int32) (m_aWords : Nat → Int32) (x1 : Int32) (x2 : Int32) : Option (Int32) :=
bd1 (fX9_isAsk n m_asks x1) (fun v1 => (if v1 = 0 then
some (0 : Int32)
 else
bd1 (fX9_isWord n m_words x2) (fun v3 => (if v3 = 0 then
some (0 : Int32)
 else
ar x1 6 m_aWords (fun v5 => (if ((v5 >>> (x2 &&& 31)) &&& (1 : Int32)) = (1 : Int32) then
some (1 : Int32)
 else
some (0 : Int32)))))))
def fX9_meaning_p6 (n : Nat) (m_letters : Nat → Int32) (m_words : Int32) (m_wMany : Nat → Int32) (m_wLetters : Nat → Int32) (m_aWords : Nat → Int32) (x1 : Int32) (x2 : Int32) (x3 : Int32)  : Nat → Int32 → (Nat → Int32) → Int32 → (Nat → Int32) → Int32 → Int32 → Option (Int32 × Int32 × (Nat → Int32) × Int32 × (Nat → Int32))
  | 0, _, _, _, _, _, _ => none
  | k + 1, m_manyA, m_rowA, m_manyB, m_rowB, x4, x5 =>
    (if m_words ≤ x5 then
    some (x4, m_manyA, m_rowA, m_manyB, m_rowB)
     else
    ar x1 6 m_aWords (fun v2 => (if ((v2 >>> (x5 &&& 31)) &&& (1 : Int32)) = (1 : Int32) then
    bd5 (fX9_areOne n m_letters m_wMany m_wLetters m_manyA m_rowA m_manyB m_rowB x5 x2 x3) (fun v5 v6 f7 v8 f9 => (if v5 = 0 then
    nm (x4 ||| (0 : Int32)) (fun v11 => fX9_meaning_p6 n m_letters m_words m_wMany m_wLetters m_aWords x1 x2 x3 k v6 f7 v8 f9 v11 (x5 + 1))
     else
    nm (x4 ||| ((1 : Int32) <<< (x5 &&& 31))) (fun v12 => fX9_meaning_p6 n m_letters m_words m_wMany m_wLetters m_aWords x1 x2 x3 k v6 f7 v8 f9 v12 (x5 + 1))))
     else
    nm (x4 ||| (0 : Int32)) (fun v4 => fX9_meaning_p6 n m_letters m_words m_wMany m_wLetters m_aWords x1 x2 x3 k m_manyA m_rowA m_manyB m_rowB v4 (x5 + 1)))))
def fX9_meaning (n : Nat) (m_letters : Nat → Int32) (m_words : Int32) (m_wMany : Nat → Int32) (m_wLetters : Nat → Int32) (m_aWords : Nat → Int32) (m_manyA : Int32) (m_rowA : Nat → Int32) (m_manyB : Int32) (m_rowB : Nat → Int32) (x1 : Int32) (x2 : Int32) (x3 : Int32) : Option (Int32 × Int32 × (Nat → Int32) × Int32 × (Nat → Int32)) :=
fX9_meaning_p6 n m_letters m_words m_wMany m_wLetters m_aWords x1 x2 x3 n m_manyA m_rowA m_manyB m_rowB (0 : Int32) (0 : Int32)
def fX9_both (n : Nat) (m_letters : Nat → Int32) (m_words : Int32) (m_wMany : Nat → Int32) (m_wLetters : Nat → Int32) (m_asks : Int32) (m_aWords : Nat → Int32) (m_manyA : Int32) (m_rowA : Nat → Int32) (m_manyB : Int32) (m_rowB : Nat → Int32) (x1 : Int32) (x2 : Int32) (x3 : Int32) (x4 : Int32) : Option (Int32 × Int32 × (Nat → Int32) × Int32 × (Nat → Int32)) :=
bd1 (fX9_fitsAsk n m_words m_asks m_aWords x1 x2) (fun v1 => (if v1 = 0 then
some ((-1 : Int32), m_manyA, m_rowA, m_manyB, m_rowB)
 else
bd1 (fX9_isBlur n x3) (fun v3 => (if v3 = 0 then
some ((-1 : Int32), m_manyA, m_rowA, m_manyB, m_rowB)
 else
bd1 (fX9_isBlur n x4) (fun v5 => (if v5 = 0 then
some ((-1 : Int32), m_manyA, m_rowA, m_manyB, m_rowB)
 else
bd5 (fX9_meaning n m_letters m_words m_wMany m_wLetters m_aWords m_manyA m_rowA m_manyB m_rowB x1 x2 x3) (fun v7 v8 f9 v10 f11 => bd5 (fX9_meaning n m_letters m_words m_wMany m_wLetters m_aWords v8 f9 v10 f11 x1 x2 x4) (fun v12 v13 f14 v15 f16 => some (v7 &&& v12, v13, f14, v15, f16)))))))))
def fX9_sure_p17 (n : Nat) (m_letters : Nat → Int32) (m_words : Int32) (m_wMany : Nat → Int32) (m_wLetters : Nat → Int32) (m_aWords : Nat → Int32) (x1 : Int32) (x2 : Int32)  : Nat → Int32 → (Nat → Int32) → Int32 → (Nat → Int32) → Int32 → Int32 → Option (Int32 × Int32 × (Nat → Int32) × Int32 × (Nat → Int32))
  | 0, _, _, _, _, _, _ => none
  | k + 1, m_manyA, m_rowA, m_manyB, m_rowB, x3, x4 =>
    (if (5 : Int32) < x4 then
    some (x3, m_manyA, m_rowA, m_manyB, m_rowB)
     else
    bd5 (fX9_meaning n m_letters m_words m_wMany m_wLetters m_aWords m_manyA m_rowA m_manyB m_rowB x1 x2 x4) (fun v2 v3 f4 v5 f6 => (if v2 = ((1 : Int32) <<< (x2 &&& 31)) then
    fX9_sure_p17 n m_letters m_words m_wMany m_wLetters m_aWords x1 x2 k v3 f4 v5 f6 x4 (x4 + 1)
     else
    fX9_sure_p17 n m_letters m_words m_wMany m_wLetters m_aWords x1 x2 k v3 f4 v5 f6 x3 (x4 + 1))))
def fX9_sure (n : Nat) (m_letters : Nat → Int32) (m_words : Int32) (m_wMany : Nat → Int32) (m_wLetters : Nat → Int32) (m_asks : Int32) (m_aWords : Nat → Int32) (m_manyA : Int32) (m_rowA : Nat → Int32) (m_manyB : Int32) (m_rowB : Nat → Int32) (x1 : Int32) (x2 : Int32) : Option (Int32 × Int32 × (Nat → Int32) × Int32 × (Nat → Int32)) :=
bd1 (fX9_fitsAsk n m_words m_asks m_aWords x1 x2) (fun v1 => (if v1 = 0 then
some ((-1 : Int32), m_manyA, m_rowA, m_manyB, m_rowB)
 else
fX9_sure_p17 n m_letters m_words m_wMany m_wLetters m_aWords x1 x2 n m_manyA m_rowA m_manyB m_rowB (-4 : Int32) (0 : Int32)))
def fX9_place (n : Nat) (m_places : Int32) (m_xs : Nat → Int32) (m_ys : Nat → Int32) (m_heights : Nat → Int32) (x1 : Int32) (x2 : Int32) (x3 : Int32) : Option (Int32 × Int32 × (Nat → Int32) × (Nat → Int32) × (Nat → Int32)) :=
bd1 (fX9_in n x1.toInt64 (0 : Int64) (99 : Int64)) (fun v1 => (if v1 = 0 then
some ((-1 : Int32), m_places, m_xs, m_ys, m_heights)
 else
bd1 (fX9_in n x2.toInt64 (0 : Int64) (99 : Int64)) (fun v3 => (if v3 = 0 then
some ((-1 : Int32), m_places, m_xs, m_ys, m_heights)
 else
bd1 (fX9_in n x3.toInt64 (0 : Int64) (99 : Int64)) (fun v5 => (if v5 = 0 then
some ((-1 : Int32), m_places, m_xs, m_ys, m_heights)
 else
(if m_places = (10 : Int32) then
some ((-3 : Int32), m_places, m_xs, m_ys, m_heights)
 else
aw m_places 10 m_xs x1 (fun f8 => aw m_places 10 m_ys x2 (fun f9 => aw m_places 10 m_heights x3 (fun f10 => nm (m_places + (1 : Int32)) (fun v11 => some (v11 - (1 : Int32), v11, f8, f9, f10))))))))))))
def fX9_ridge (n : Nat) (m_ridges : Int32) (m_rx : Nat → Int32) (m_rHeight : Nat → Int32) (x1 : Int32) (x2 : Int32) : Option (Int32 × Int32 × (Nat → Int32) × (Nat → Int32)) :=
bd1 (fX9_in n x1.toInt64 (0 : Int64) (99 : Int64)) (fun v1 => (if v1 = 0 then
some ((-1 : Int32), m_ridges, m_rx, m_rHeight)
 else
bd1 (fX9_in n x2.toInt64 (0 : Int64) (99 : Int64)) (fun v3 => (if v3 = 0 then
some ((-1 : Int32), m_ridges, m_rx, m_rHeight)
 else
(if m_ridges = (6 : Int32) then
some ((-3 : Int32), m_ridges, m_rx, m_rHeight)
 else
aw m_ridges 6 m_rx x1 (fun f6 => aw m_ridges 6 m_rHeight x2 (fun f7 => nm (m_ridges + (1 : Int32)) (fun v8 => some (v8, v8, f6, f7)))))))))
def fX9_sheet_p40 (n : Nat) (m_lanes : Nat → Int32) (m_sizes : Nat → Int32) (x1 : Int32)  : Nat → (Nat → Int32) → Int32 → Option (Int32 × (Nat → Int32) × (Nat → Int32) × (Nat → Int32))
  | 0, _, _ => none
  | k + 1, m_cells, x4 =>
    (if (60 : Int32) ≤ x4 then
    some ((1 : Int32), m_lanes, m_sizes, m_cells)
     else
    aw (((60 : Int32) * x1) + x4) 240 m_cells (0 : Int32) (fun f2 => fX9_sheet_p40 n m_lanes m_sizes x1 k f2 (x4 + 1)))
def fX9_sheet (n : Nat) (m_lanes : Nat → Int32) (m_sizes : Nat → Int32) (m_cells : Nat → Int32) (x1 : Int32) (x2 : Int32) (x3 : Int32) : Option (Int32 × (Nat → Int32) × (Nat → Int32) × (Nat → Int32)) :=
bd1 (fX9_isSheet n x1 x2) (fun v1 => (if v1 = 0 then
some ((-1 : Int32), m_lanes, m_sizes, m_cells)
 else
(if x3 ≤ (60 : Int32) then
(if 0 ≤ x3 then
aw x1 4 m_lanes x2 (fun f5 => aw x1 4 m_sizes x3 (fun f6 => fX9_sheet_p40 n f5 f6 x1 n m_cells (0 : Int32)))
 else
some ((-14 : Int32), m_lanes, m_sizes, m_cells))
 else
some ((-1 : Int32), m_lanes, m_sizes, m_cells))))
def fX9_lay (n : Nat) (m_lanes : Nat → Int32) (m_sizes : Nat → Int32) (m_cells : Nat → Int32) (x1 : Int32) (x2 : Int32) (x3 : Int32) : Option (Int32 × (Nat → Int32)) :=
bd1 (fX9_isSheet n x1 (0 : Int32)) (fun v1 => (if v1 = 0 then
some ((-1 : Int32), m_cells)
 else
ar x1 4 m_lanes (fun v3 => (if v3 = (-4 : Int32) then
some ((-11 : Int32), m_cells)
 else
ar x1 4 m_sizes (fun v5 => bd1 (fX9_in n x2.toInt64 (0 : Int64) ((v5 - (1 : Int32)).toInt64)) (fun v6 => (if v6 = 0 then
some ((-12 : Int32), m_cells)
 else
ar x1 4 m_lanes (fun v8 => (if v8 = 0 then
aw (((60 : Int32) * x1) + x2) 240 m_cells x3.toInt8.toInt32 (fun f14 => some ((1 : Int32), f14))
 else
ar x1 4 m_lanes (fun v10 => (if v10 = (1 : Int32) then
aw (((60 : Int32) * x1) + x2) 240 m_cells x3.toInt16.toInt32 (fun f13 => some ((1 : Int32), f13))
 else
aw (((60 : Int32) * x1) + x2) 240 m_cells x3 (fun f12 => some ((1 : Int32), f12)))))))))))))
def fX9_windFault (n : Nat) (m_lanes : Nat → Int32) (m_sizes : Nat → Int32) (x1 : Int32) : Option (Int32) :=
ar (0 : Int32) 4 m_lanes (fun v1 => (if v1 = (-4 : Int32) then
some (1 : Int32)
 else
ar (0 : Int32) 4 m_lanes (fun v3 => (if v3 = 0 then
ar (0 : Int32) 4 m_sizes (fun v5 => (if x1 < v5 then
some (0 : Int32)
 else
some (2 : Int32)))
 else
some (3 : Int32)))))
def fX9_windOf (n : Nat) (m_lanes : Nat → Int32) (m_sizes : Nat → Int32) (m_cells : Nat → Int32) (x1 : Int32) : Option (Int32) :=
ar x1 240 m_cells (fun v1 => bd1 (fX9_windFault n m_lanes m_sizes x1) (fun v2 => (if v2 ≤ 0 then
(if v1 ≤ (2 : Int32) then
(if (-2 : Int32) ≤ v1 then
some v1
 else
some (-2 : Int32))
 else
some (2 : Int32))
 else
some (9 : Int32))))
def fX9_wind (n : Nat) (m_lanes : Nat → Int32) (m_sizes : Nat → Int32) (m_cells : Nat → Int32) (x1 : Int32) (x2 : Int32) : Option (Int32) :=
bd1 (fX9_in n x1.toInt64 (0 : Int64) (23 : Int64)) (fun v1 => (if v1 = 0 then
some (-10 : Int32)
 else
bd1 (fX9_in n x2.toInt64 (0 : Int64) (1 : Int64)) (fun v3 => (if v3 = 0 then
some (-10 : Int32)
 else
(if x2 = 0 then
bd1 (fX9_windOf n m_lanes m_sizes m_cells x1) (fun v7 => some v7)
 else
bd1 (fX9_windFault n m_lanes m_sizes x1) (fun v6 => some v6))))))
def fX9_isPlace (n : Nat) (m_places : Int32) (x1 : Int32) : Option (Int32) :=
bd1 (fX9_in n x1.toInt64 (0 : Int64) ((m_places - (1 : Int32)).toInt64)) (fun v1 => rb v1 (some v1))
def fX9_plain (n : Nat)  (x0 : Int32) : Option (Int32) :=
(if 0 ≤ x0 then
some x0
 else
some (-x0))
def fX9_blurOf_p168 (n : Nat) (m_xs : Nat → Int32) (m_heights : Nat → Int32) (m_ridges : Int32) (m_rx : Nat → Int32) (m_rHeight : Nat → Int32) (m_lanes : Nat → Int32) (m_sizes : Nat → Int32) (m_cells : Nat → Int32) (x1 : Int32) (x2 : Int32) (x3 : Int32) (x5 : Int32) (x6 : Int32) (x7 : Int32) (s0 : Int32) (s1 : Int32) (rec112 : Int32 → Int32 → Option (Int32)) : Option (Int32) :=
ar x7 6 m_rHeight (fun v1 => ar x2 10 m_heights (fun v2 => (if v1 ≤ v2 then
nm (s0 + (s1 + (0 : Int32))) (fun v4 => rec112 v4 (x7 + 1))
 else
nm (s0 + (s1 + (1 : Int32))) (fun v5 => rec112 v5 (x7 + 1)))))
def fX9_blurOf_p199 (n : Nat) (m_xs : Nat → Int32) (m_lanes : Nat → Int32) (m_sizes : Nat → Int32) (m_cells : Nat → Int32) (x1 : Int32) (x2 : Int32) (x3 : Int32) (x4 : Int32)   : Option (Int32) :=
bd1 (fX9_windOf n m_lanes m_sizes m_cells x3) (fun v1 => (if v1 = (9 : Int32) then
(if 0 ≤ (x4 + 2) then
some (x4 + 2)
 else
some (0 : Int32))
 else
ar x1 10 m_xs (fun v3 => ar x2 10 m_xs (fun v4 => (if v3 = v4 then
(if 0 ≤ x4 then
some x4
 else
some (0 : Int32))
 else
ar x2 10 m_xs (fun v7 => ar x1 10 m_xs (fun v8 => (if v7 ≤ v8 then
nm (x4 + v1) (fun v10 => (if 0 ≤ v10 then
some v10
 else
some (0 : Int32)))
 else
nm (x4 + (-v1)) (fun v12 => (if 0 ≤ v12 then
some v12
 else
some (0 : Int32)))))))))))
def fX9_blurOf_p112 (n : Nat) (m_xs : Nat → Int32) (m_heights : Nat → Int32) (m_ridges : Int32) (m_rx : Nat → Int32) (m_rHeight : Nat → Int32) (m_lanes : Nat → Int32) (m_sizes : Nat → Int32) (m_cells : Nat → Int32) (x1 : Int32) (x2 : Int32) (x3 : Int32) (x5 : Int32) (x6 : Int32)  : Nat → Int32 → Int32 → Option (Int32)
  | 0, _, _ => none
  | k + 1, x4, x7 =>
    (if m_ridges ≤ x7 then
    fX9_blurOf_p199 n m_xs m_lanes m_sizes m_cells x1 x2 x3 x4
     else
    ar x7 6 m_rx (fun v2 => (if v2 ≤ x5 then
    fX9_blurOf_p112 n m_xs m_heights m_ridges m_rx m_rHeight m_lanes m_sizes m_cells x1 x2 x3 x5 x6 k x4 (x7 + 1)
     else
    ar x7 6 m_rx (fun v4 => (if x6 < v4 then
    fX9_blurOf_p112 n m_xs m_heights m_ridges m_rx m_rHeight m_lanes m_sizes m_cells x1 x2 x3 x5 x6 k x4 (x7 + 1)
     else
    ar x7 6 m_rHeight (fun v6 => ar x1 10 m_heights (fun v7 => (if v6 ≤ v7 then
    fX9_blurOf_p168 n m_xs m_heights m_ridges m_rx m_rHeight m_lanes m_sizes m_cells x1 x2 x3 x5 x6 x7 x4 (0 : Int32) (fX9_blurOf_p112 n m_xs m_heights m_ridges m_rx m_rHeight m_lanes m_sizes m_cells x1 x2 x3 x5 x6 k)
     else
    fX9_blurOf_p168 n m_xs m_heights m_ridges m_rx m_rHeight m_lanes m_sizes m_cells x1 x2 x3 x5 x6 x7 x4 (1 : Int32) (fX9_blurOf_p112 n m_xs m_heights m_ridges m_rx m_rHeight m_lanes m_sizes m_cells x1 x2 x3 x5 x6 k)))))))))
def fX9_blurOf_p75 (n : Nat) (m_xs : Nat → Int32) (m_heights : Nat → Int32) (m_ridges : Int32) (m_rx : Nat → Int32) (m_rHeight : Nat → Int32) (m_lanes : Nat → Int32) (m_sizes : Nat → Int32) (m_cells : Nat → Int32) (x1 : Int32) (x2 : Int32) (x3 : Int32) (x4 : Int32) (s0 : Int32)  : Option (Int32) :=
ar x1 10 m_xs (fun v1 => ar x2 10 m_xs (fun v2 => (if v2 ≤ v1 then
ar x1 10 m_xs (fun v4 => fX9_blurOf_p112 n m_xs m_heights m_ridges m_rx m_rHeight m_lanes m_sizes m_cells x1 x2 x3 s0 v4 n x4 (0 : Int32))
 else
ar x2 10 m_xs (fun v5 => fX9_blurOf_p112 n m_xs m_heights m_ridges m_rx m_rHeight m_lanes m_sizes m_cells x1 x2 x3 s0 v5 n x4 (0 : Int32)))))
def fX9_blurOf (n : Nat) (m_xs : Nat → Int32) (m_ys : Nat → Int32) (m_heights : Nat → Int32) (m_ridges : Int32) (m_rx : Nat → Int32) (m_rHeight : Nat → Int32) (m_lanes : Nat → Int32) (m_sizes : Nat → Int32) (m_cells : Nat → Int32) (x1 : Int32) (x2 : Int32) (x3 : Int32) : Option (Int32) :=
(if x1 = x2 then
some (0 : Int32)
 else
ar x1 10 m_xs (fun v2 => ar x2 10 m_xs (fun v3 => bd1 (fX9_plain n (v2 - v3)) (fun v4 => ar x1 10 m_ys (fun v5 => ar x2 10 m_ys (fun v6 => bd1 (fX9_plain n (v5 - v6)) (fun v7 => nm ((v4 + v7) / (20 : Int32)) (fun v8 => ar x1 10 m_xs (fun v9 => ar x2 10 m_xs (fun v10 => (if v10 ≤ v9 then
ar x2 10 m_xs (fun v12 => fX9_blurOf_p75 n m_xs m_heights m_ridges m_rx m_rHeight m_lanes m_sizes m_cells x1 x2 x3 v8 v12)
 else
ar x1 10 m_xs (fun v13 => fX9_blurOf_p75 n m_xs m_heights m_ridges m_rx m_rHeight m_lanes m_sizes m_cells x1 x2 x3 v8 v13))))))))))))
def fX9_blur (n : Nat) (m_places : Int32) (m_xs : Nat → Int32) (m_ys : Nat → Int32) (m_heights : Nat → Int32) (m_ridges : Int32) (m_rx : Nat → Int32) (m_rHeight : Nat → Int32) (m_lanes : Nat → Int32) (m_sizes : Nat → Int32) (m_cells : Nat → Int32) (x1 : Int32) (x2 : Int32) (x3 : Int32) : Option (Int32) :=
bd1 (fX9_isPlace n m_places x1) (fun v1 => (if v1 = 0 then
some (-1 : Int32)
 else
bd1 (fX9_isPlace n m_places x2) (fun v3 => (if v3 = 0 then
some (-1 : Int32)
 else
bd1 (fX9_in n x3.toInt64 (0 : Int64) (23 : Int64)) (fun v5 => (if v5 = 0 then
some (-1 : Int32)
 else
bd1 (fX9_blurOf n m_xs m_ys m_heights m_ridges m_rx m_rHeight m_lanes m_sizes m_cells x1 x2 x3) (fun v7 => some v7)))))))
def fX9_doesHear (n : Nat) (m_xs : Nat → Int32) (m_ys : Nat → Int32) (m_heights : Nat → Int32) (m_ridges : Int32) (m_rx : Nat → Int32) (m_rHeight : Nat → Int32) (m_lanes : Nat → Int32) (m_sizes : Nat → Int32) (m_cells : Nat → Int32) (x1 : Int32) (x2 : Int32) (x3 : Int32) : Option (Int32) :=
(if x1 = x2 then
some (0 : Int32)
 else
bd1 (fX9_blurOf n m_xs m_ys m_heights m_ridges m_rx m_rHeight m_lanes m_sizes m_cells x1 x2 x3) (fun v2 => (if (5 : Int32) < v2 then
some (0 : Int32)
 else
some (1 : Int32))))
def fX9_hears_p73 (n : Nat) (m_places : Int32) (m_xs : Nat → Int32) (m_ys : Nat → Int32) (m_heights : Nat → Int32) (m_ridges : Int32) (m_rx : Nat → Int32) (m_rHeight : Nat → Int32) (m_lanes : Nat → Int32) (m_sizes : Nat → Int32) (m_cells : Nat → Int32) (x1 : Int32) (x2 : Int32) (x3 : Int32) (x5 : Int32) (x6 : Int32) (s0 : Int32) (s1 : Int32) (rec43 : Int32 → Int32 → Int32 → Option (Int32)) : Option (Int32) :=
nm (s0 ||| s1) (fun v1 => bd1 (fX9_doesHear n m_xs m_ys m_heights m_ridges m_rx m_rHeight m_lanes m_sizes m_cells x6 x1 x2) (fun v2 => (if v2 = 0 then
nm (x5 + (0 : Int32)) (fun v4 => rec43 v1 v4 (x6 + 1))
 else
nm (x5 + (1 : Int32)) (fun v5 => rec43 v1 v5 (x6 + 1)))))
def fX9_hears_p103 (n : Nat) (x3 : Int32) (x4 : Int32) (x5 : Int32)   : Option (Int32) :=
(if x3 = 0 then
bd1 (fX9_bits n x4) (fun v3 => some v3)
 else
(if x3 = (1 : Int32) then
some x5
 else
some x4))
def fX9_hears_p43 (n : Nat) (m_places : Int32) (m_xs : Nat → Int32) (m_ys : Nat → Int32) (m_heights : Nat → Int32) (m_ridges : Int32) (m_rx : Nat → Int32) (m_rHeight : Nat → Int32) (m_lanes : Nat → Int32) (m_sizes : Nat → Int32) (m_cells : Nat → Int32) (x1 : Int32) (x2 : Int32) (x3 : Int32)  : Nat → Int32 → Int32 → Int32 → Option (Int32)
  | 0, _, _, _ => none
  | k + 1, x4, x5, x6 =>
    (if m_places ≤ x6 then
    fX9_hears_p103 n x3 x4 x5
     else
    bd1 (fX9_doesHear n m_xs m_ys m_heights m_ridges m_rx m_rHeight m_lanes m_sizes m_cells x1 x6 x2) (fun v2 => (if v2 = 0 then
    fX9_hears_p73 n m_places m_xs m_ys m_heights m_ridges m_rx m_rHeight m_lanes m_sizes m_cells x1 x2 x3 x5 x6 x4 (0 : Int32) (fX9_hears_p43 n m_places m_xs m_ys m_heights m_ridges m_rx m_rHeight m_lanes m_sizes m_cells x1 x2 x3 k)
     else
    fX9_hears_p73 n m_places m_xs m_ys m_heights m_ridges m_rx m_rHeight m_lanes m_sizes m_cells x1 x2 x3 x5 x6 x4 ((1 : Int32) <<< (x6 &&& 31)) (fX9_hears_p43 n m_places m_xs m_ys m_heights m_ridges m_rx m_rHeight m_lanes m_sizes m_cells x1 x2 x3 k))))
def fX9_hears (n : Nat) (m_places : Int32) (m_xs : Nat → Int32) (m_ys : Nat → Int32) (m_heights : Nat → Int32) (m_ridges : Int32) (m_rx : Nat → Int32) (m_rHeight : Nat → Int32) (m_lanes : Nat → Int32) (m_sizes : Nat → Int32) (m_cells : Nat → Int32) (x1 : Int32) (x2 : Int32) (x3 : Int32) : Option (Int32) :=
bd1 (fX9_isPlace n m_places x1) (fun v1 => (if v1 = 0 then
some (-1 : Int32)
 else
bd1 (fX9_in n x2.toInt64 (0 : Int64) (23 : Int64)) (fun v3 => (if v3 = 0 then
some (-1 : Int32)
 else
bd1 (fX9_in n x3.toInt64 (0 : Int64) (2 : Int64)) (fun v5 => (if v5 = 0 then
some (-1 : Int32)
 else
fX9_hears_p43 n m_places m_xs m_ys m_heights m_ridges m_rx m_rHeight m_lanes m_sizes m_cells x1 x2 x3 n (0 : Int32) (0 : Int32) (0 : Int32)))))))
def fX9_findLeft_p96 (n : Nat) (m_places : Int32) (m_xs : Nat → Int32) (m_ys : Nat → Int32) (m_heights : Nat → Int32) (m_ridges : Int32) (m_rx : Nat → Int32) (m_rHeight : Nat → Int32) (m_lanes : Nat → Int32) (m_sizes : Nat → Int32) (m_cells : Nat → Int32) (m_left : Nat → Int32) (x2 : Int32) (x3 : Int32) (x4 : Int32) (x5 : Int32) (x6 : Int32) (s0 : Int32) (rec38 : (Nat → Int32) → Int32 → Option ((Nat → Int32))) (rec50 : (Nat → Int32) → Int32 → Option ((Nat → Int32))) (rec62 : (Nat → Int32) → Int32 → Option ((Nat → Int32))) : Option ((Nat → Int32)) :=
(if s0 = 0 then
ar x5 10 m_left (fun v2 => aw x5 10 m_left v2 (fun f3 => rec62 f3 (x6 + 1)))
 else
ar x6 10 m_left (fun v4 => ar x5 10 m_left (fun v5 => (if v5 ≤ (v4 + (1 : Int32)) then
ar x5 10 m_left (fun v7 => aw x5 10 m_left v7 (fun f8 => rec62 f8 (x6 + 1)))
 else
ar x6 10 m_left (fun v9 => aw x5 10 m_left (v9 + (1 : Int32)) (fun f10 => rec62 f10 (x6 + 1)))))))
def fX9_findLeft_p62 (n : Nat) (m_places : Int32) (m_xs : Nat → Int32) (m_ys : Nat → Int32) (m_heights : Nat → Int32) (m_ridges : Int32) (m_rx : Nat → Int32) (m_rHeight : Nat → Int32) (m_lanes : Nat → Int32) (m_sizes : Nat → Int32) (m_cells : Nat → Int32) (x2 : Int32) (x3 : Int32) (x4 : Int32) (x5 : Int32) (rec38 : (Nat → Int32) → Int32 → Option ((Nat → Int32))) (rec50 : (Nat → Int32) → Int32 → Option ((Nat → Int32))) : Nat → (Nat → Int32) → Int32 → Option ((Nat → Int32))
  | 0, _, _ => none
  | k + 1, m_left, x6 =>
    (if m_places ≤ x6 then
    rec50 m_left (x5 + 1)
     else
    (if x5 = x6 then
    fX9_findLeft_p96 n m_places m_xs m_ys m_heights m_ridges m_rx m_rHeight m_lanes m_sizes m_cells m_left x2 x3 x4 x5 x6 (0 : Int32) (rec38) (rec50) (fX9_findLeft_p62 n m_places m_xs m_ys m_heights m_ridges m_rx m_rHeight m_lanes m_sizes m_cells x2 x3 x4 x5 rec38 rec50 k)
     else
    bd1 (fX9_blurOf n m_xs m_ys m_heights m_ridges m_rx m_rHeight m_lanes m_sizes m_cells x5 x6 x2) (fun v3 => (if x3 < v3 then
    fX9_findLeft_p96 n m_places m_xs m_ys m_heights m_ridges m_rx m_rHeight m_lanes m_sizes m_cells m_left x2 x3 x4 x5 x6 (0 : Int32) (rec38) (rec50) (fX9_findLeft_p62 n m_places m_xs m_ys m_heights m_ridges m_rx m_rHeight m_lanes m_sizes m_cells x2 x3 x4 x5 rec38 rec50 k)
     else
    fX9_findLeft_p96 n m_places m_xs m_ys m_heights m_ridges m_rx m_rHeight m_lanes m_sizes m_cells m_left x2 x3 x4 x5 x6 (1 : Int32) (rec38) (rec50) (fX9_findLeft_p62 n m_places m_xs m_ys m_heights m_ridges m_rx m_rHeight m_lanes m_sizes m_cells x2 x3 x4 x5 rec38 rec50 k)))))
def fX9_findLeft_p50 (n : Nat) (m_places : Int32) (m_xs : Nat → Int32) (m_ys : Nat → Int32) (m_heights : Nat → Int32) (m_ridges : Int32) (m_rx : Nat → Int32) (m_rHeight : Nat → Int32) (m_lanes : Nat → Int32) (m_sizes : Nat → Int32) (m_cells : Nat → Int32) (x2 : Int32) (x3 : Int32) (x4 : Int32) (rec38 : (Nat → Int32) → Int32 → Option ((Nat → Int32))) : Nat → (Nat → Int32) → Int32 → Option ((Nat → Int32))
  | 0, _, _ => none
  | k + 1, m_left, x5 =>
    (if m_places ≤ x5 then
    rec38 m_left (x4 + 1)
     else
    fX9_findLeft_p62 n m_places m_xs m_ys m_heights m_ridges m_rx m_rHeight m_lanes m_sizes m_cells x2 x3 x4 x5 (rec38) (fX9_findLeft_p50 n m_places m_xs m_ys m_heights m_ridges m_rx m_rHeight m_lanes m_sizes m_cells x2 x3 x4 rec38 k) n m_left (0 : Int32))
def fX9_findLeft_p38 (n : Nat) (m_places : Int32) (m_xs : Nat → Int32) (m_ys : Nat → Int32) (m_heights : Nat → Int32) (m_ridges : Int32) (m_rx : Nat → Int32) (m_rHeight : Nat → Int32) (m_lanes : Nat → Int32) (m_sizes : Nat → Int32) (m_cells : Nat → Int32) (x2 : Int32) (x3 : Int32)  : Nat → (Nat → Int32) → Int32 → Option ((Nat → Int32))
  | 0, _, _ => none
  | k + 1, m_left, x4 =>
    (if m_places ≤ x4 then
    some m_left
     else
    fX9_findLeft_p50 n m_places m_xs m_ys m_heights m_ridges m_rx m_rHeight m_lanes m_sizes m_cells x2 x3 x4 (fX9_findLeft_p38 n m_places m_xs m_ys m_heights m_ridges m_rx m_rHeight m_lanes m_sizes m_cells x2 x3 k) n m_left (0 : Int32))
def fX9_findLeft_p3 (n : Nat) (m_places : Int32) (m_xs : Nat → Int32) (m_ys : Nat → Int32) (m_heights : Nat → Int32) (m_ridges : Int32) (m_rx : Nat → Int32) (m_rHeight : Nat → Int32) (m_lanes : Nat → Int32) (m_sizes : Nat → Int32) (m_cells : Nat → Int32) (x1 : Int32) (x2 : Int32) (x3 : Int32)  : Nat → (Nat → Int32) → Int32 → Option ((Nat → Int32))
  | 0, _, _ => none
  | k + 1, m_left, x4 =>
    (if (10 : Int32) ≤ x4 then
    fX9_findLeft_p38 n m_places m_xs m_ys m_heights m_ridges m_rx m_rHeight m_lanes m_sizes m_cells x2 x3 n m_left (0 : Int32)
     else
    (if x4 = x1 then
    aw x4 10 m_left (0 : Int32) (fun f4 => fX9_findLeft_p3 n m_places m_xs m_ys m_heights m_ridges m_rx m_rHeight m_lanes m_sizes m_cells x1 x2 x3 k f4 (x4 + 1))
     else
    aw x4 10 m_left (100 : Int32) (fun f3 => fX9_findLeft_p3 n m_places m_xs m_ys m_heights m_ridges m_rx m_rHeight m_lanes m_sizes m_cells x1 x2 x3 k f3 (x4 + 1))))
def fX9_findLeft (n : Nat) (m_places : Int32) (m_xs : Nat → Int32) (m_ys : Nat → Int32) (m_heights : Nat → Int32) (m_ridges : Int32) (m_rx : Nat → Int32) (m_rHeight : Nat → Int32) (m_lanes : Nat → Int32) (m_sizes : Nat → Int32) (m_cells : Nat → Int32) (m_left : Nat → Int32) (x1 : Int32) (x2 : Int32) (x3 : Int32) : Option ((Nat → Int32)) :=
fX9_findLeft_p3 n m_places m_xs m_ys m_heights m_ridges m_rx m_rHeight m_lanes m_sizes m_cells x1 x2 x3 n m_left (0 : Int32)
def fX9_way_p170 (n : Nat) (m_xs : Nat → Int32) (m_ys : Nat → Int32) (m_heights : Nat → Int32) (m_ridges : Int32) (m_rx : Nat → Int32) (m_rHeight : Nat → Int32) (m_lanes : Nat → Int32) (m_sizes : Nat → Int32) (m_cells : Nat → Int32) (m_left : Nat → Int32) (x3 : Int32) (x4 : Int32) (x5 : Int32) (x6 : Int32) (x7 : Int32) (rec157 : Int32 → Int32 → Option (Int32 × (Nat → Int32))) : Nat → Int32 → Option (Int32 × (Nat → Int32))
  | 0, _ => none
  | k + 1, x8 =>
    (if x8 = x6 then
    fX9_way_p170 n m_xs m_ys m_heights m_ridges m_rx m_rHeight m_lanes m_sizes m_cells m_left x3 x4 x5 x6 x7 rec157 k (x8 + 1)
     else
    bd1 (fX9_blurOf n m_xs m_ys m_heights m_ridges m_rx m_rHeight m_lanes m_sizes m_cells x6 x8 x3) (fun v2 => (if x5 < v2 then
    fX9_way_p170 n m_xs m_ys m_heights m_ridges m_rx m_rHeight m_lanes m_sizes m_cells m_left x3 x4 x5 x6 x7 rec157 k (x8 + 1)
     else
    ar x8 10 m_left (fun v4 => ar x6 10 m_left (fun v5 => (if v4 = (v5 - (1 : Int32)) then
    rec157 x8 (x7 + 1)
     else
    fX9_way_p170 n m_xs m_ys m_heights m_ridges m_rx m_rHeight m_lanes m_sizes m_cells m_left x3 x4 x5 x6 x7 rec157 k (x8 + 1)))))))
def fX9_way_p157 (n : Nat) (m_xs : Nat → Int32) (m_ys : Nat → Int32) (m_heights : Nat → Int32) (m_ridges : Int32) (m_rx : Nat → Int32) (m_rHeight : Nat → Int32) (m_lanes : Nat → Int32) (m_sizes : Nat → Int32) (m_cells : Nat → Int32) (m_left : Nat → Int32) (x3 : Int32) (x4 : Int32) (x5 : Int32)  : Nat → Int32 → Int32 → Option (Int32 × (Nat → Int32))
  | 0, _, _ => none
  | k + 1, x6, x7 =>
    (if (x4 - (10 : Int32)) ≤ x7 then
    some (x6, m_left)
     else
    fX9_way_p170 n m_xs m_ys m_heights m_ridges m_rx m_rHeight m_lanes m_sizes m_cells m_left x3 x4 x5 x6 x7 (fX9_way_p157 n m_xs m_ys m_heights m_ridges m_rx m_rHeight m_lanes m_sizes m_cells m_left x3 x4 x5 k) n (0 : Int32))
def fX9_way_p94 (n : Nat) (m_xs : Nat → Int32) (m_ys : Nat → Int32) (m_heights : Nat → Int32) (m_ridges : Int32) (m_rx : Nat → Int32) (m_rHeight : Nat → Int32) (m_lanes : Nat → Int32) (m_sizes : Nat → Int32) (m_cells : Nat → Int32) (m_left : Nat → Int32) (x1 : Int32) (x3 : Int32) (x4 : Int32) (x5 : Int32)   : Option (Int32 × (Nat → Int32)) :=
ar x1 10 m_left (fun v1 => (if v1 = (100 : Int32) then
some ((-4 : Int32), m_left)
 else
(if (10 : Int32) ≤ x4 then
ar x1 10 m_left (fun v4 => (if (x4 - (10 : Int32)) ≤ v4 then
fX9_way_p157 n m_xs m_ys m_heights m_ridges m_rx m_rHeight m_lanes m_sizes m_cells m_left x3 x4 x5 n x1 (0 : Int32)
 else
some ((-4 : Int32), m_left)))
 else
(if x4 = 0 then
some (x5, m_left)
 else
ar x1 10 m_left (fun v7 => some (v7 + (1 : Int32), m_left))))))
def fX9_way_p63 (n : Nat) (m_places : Int32) (m_xs : Nat → Int32) (m_ys : Nat → Int32) (m_heights : Nat → Int32) (m_ridges : Int32) (m_rx : Nat → Int32) (m_rHeight : Nat → Int32) (m_lanes : Nat → Int32) (m_sizes : Nat → Int32) (m_cells : Nat → Int32) (x1 : Int32) (x2 : Int32) (x3 : Int32) (x4 : Int32)  : Nat → (Nat → Int32) → Int32 → Option (Int32 × (Nat → Int32))
  | 0, _, _ => none
  | k + 1, m_left, x5 =>
    ar x1 10 m_left (fun v1 => (if v1 = (100 : Int32) then
    (if (5 : Int32) ≤ x5 then
    fX9_way_p94 n m_xs m_ys m_heights m_ridges m_rx m_rHeight m_lanes m_sizes m_cells m_left x1 x3 x4 x5
     else
    bd1 (fX9_findLeft n m_places m_xs m_ys m_heights m_ridges m_rx m_rHeight m_lanes m_sizes m_cells m_left x2 x3 (x5 + 1)) (fun f4 => fX9_way_p63 n m_places m_xs m_ys m_heights m_ridges m_rx m_rHeight m_lanes m_sizes m_cells x1 x2 x3 x4 k f4 (x5 + 1)))
     else
    fX9_way_p94 n m_xs m_ys m_heights m_ridges m_rx m_rHeight m_lanes m_sizes m_cells m_left x1 x3 x4 x5))
def fX9_way (n : Nat) (m_places : Int32) (m_xs : Nat → Int32) (m_ys : Nat → Int32) (m_heights : Nat → Int32) (m_ridges : Int32) (m_rx : Nat → Int32) (m_rHeight : Nat → Int32) (m_lanes : Nat → Int32) (m_sizes : Nat → Int32) (m_cells : Nat → Int32) (m_left : Nat → Int32) (x1 : Int32) (x2 : Int32) (x3 : Int32) (x4 : Int32) : Option (Int32 × (Nat → Int32)) :=
bd1 (fX9_isPlace n m_places x1) (fun v1 => (if v1 = 0 then
some ((-1 : Int32), m_left)
 else
bd1 (fX9_isPlace n m_places x2) (fun v3 => (if v3 = 0 then
some ((-1 : Int32), m_left)
 else
(if x1 = x2 then
some ((-1 : Int32), m_left)
 else
bd1 (fX9_in n x3.toInt64 (0 : Int64) (23 : Int64)) (fun v6 => (if v6 = 0 then
some ((-1 : Int32), m_left)
 else
bd1 (fX9_in n x4.toInt64 (0 : Int64) (1 : Int64)) (fun v8 => (if v8 = 0 then
(if (10 : Int32) ≤ x4 then
bd1 (fX9_findLeft n m_places m_xs m_ys m_heights m_ridges m_rx m_rHeight m_lanes m_sizes m_cells m_left x2 x3 (0 : Int32)) (fun f12 => fX9_way_p63 n m_places m_xs m_ys m_heights m_ridges m_rx m_rHeight m_lanes m_sizes m_cells x1 x2 x3 x4 n f12 (0 : Int32))
 else
some ((-1 : Int32), m_left))
 else
bd1 (fX9_findLeft n m_places m_xs m_ys m_heights m_ridges m_rx m_rHeight m_lanes m_sizes m_cells m_left x2 x3 (0 : Int32)) (fun f10 => fX9_way_p63 n m_places m_xs m_ys m_heights m_ridges m_rx m_rHeight m_lanes m_sizes m_cells x1 x2 x3 x4 n f10 (0 : Int32)))))))))))
def fX9_isTime (n : Nat)  (x0 : Int32) (x1 : Int32) : Option (Int32) :=
bd1 (fX9_in n x0.toInt64 (0 : Int64) (99 : Int64)) (fun v1 => (if v1 = 0 then
some (0 : Int32)
 else
bd1 (fX9_in n x1.toInt64 (0 : Int64) (23 : Int64)) (fun v3 => (if v3 = 0 then
some (0 : Int32)
 else
some (1 : Int32)))))
def fX9_isCall (n : Nat) (m_calls : Int32) (x1 : Int32) : Option (Int32) :=
bd1 (fX9_in n x1.toInt64 (0 : Int64) ((m_calls - (1 : Int32)).toInt64)) (fun v1 => rb v1 (some v1))
def fX9_isRepeatable (n : Nat) (m_calls : Int32) (m_cFrom : Nat → Int32) (m_cAsk : Nat → Int32) (m_cWord : Nat → Int32) (m_cOf : Nat → Int32) (x1 : Int32) (x2 : Int32) (x3 : Int32) (x4 : Int32) : Option (Int32) :=
bd1 (fX9_isCall n m_calls x1) (fun v1 => (if v1 = 0 then
some (0 : Int32)
 else
ar x1 30 m_cOf (fun v3 => (if v3 = (-4 : Int32) then
ar x1 30 m_cFrom (fun v5 => (if v5 = x2 then
ar x1 30 m_cAsk (fun v7 => (if v7 = x3 then
ar x1 30 m_cWord (fun v9 => (if v9 = x4 then
some (1 : Int32)
 else
some (0 : Int32)))
 else
some (0 : Int32)))
 else
some (0 : Int32)))
 else
some (0 : Int32)))))
def fX9_call_p95 (n : Nat) (m_calls : Int32) (m_cDay : Nat → Int32) (m_cHour : Nat → Int32) (m_cFrom : Nat → Int32) (m_cAsk : Nat → Int32) (m_cWord : Nat → Int32) (m_cOf : Nat → Int32) (m_isLie : Nat → Int32) (x1 : Int32) (x2 : Int32) (x3 : Int32) (x4 : Int32) (x5 : Int32) (x6 : Int32)   : Option (Int32 × Int32 × (Nat → Int32) × (Nat → Int32) × (Nat → Int32) × (Nat → Int32) × (Nat → Int32) × (Nat → Int32) × (Nat → Int32)) :=
(if m_calls = (30 : Int32) then
some ((-3 : Int32), m_calls, m_cDay, m_cHour, m_cFrom, m_cAsk, m_cWord, m_cOf, m_isLie)
 else
aw m_calls 30 m_cDay x1 (fun f2 => aw m_calls 30 m_cHour x2 (fun f3 => aw m_calls 30 m_cFrom x3 (fun f4 => aw m_calls 30 m_cAsk x4 (fun f5 => aw m_calls 30 m_cWord x5 (fun f6 => aw m_calls 30 m_cOf x6 (fun f7 => aw m_calls 30 m_isLie (vp_nar .boolean (0 : Int32)) (fun f8 => nm (m_calls + (1 : Int32)) (fun v9 => some (v9 - (1 : Int32), v9, f2, f3, f4, f5, f6, f7, f8))))))))))
def fX9_call_p50 (n : Nat) (m_calls : Int32) (m_cDay : Nat → Int32) (m_cHour : Nat → Int32) (m_cFrom : Nat → Int32) (m_cAsk : Nat → Int32) (m_cWord : Nat → Int32) (m_cOf : Nat → Int32) (m_isLie : Nat → Int32) (x1 : Int32) (x2 : Int32) (x3 : Int32) (x4 : Int32) (x5 : Int32) (x6 : Int32)   : Option (Int32 × Int32 × (Nat → Int32) × (Nat → Int32) × (Nat → Int32) × (Nat → Int32) × (Nat → Int32) × (Nat → Int32) × (Nat → Int32)) :=
(if m_calls ≤ 0 then
fX9_call_p95 n m_calls m_cDay m_cHour m_cFrom m_cAsk m_cWord m_cOf m_isLie x1 x2 x3 x4 x5 x6
 else
ar (m_calls - (1 : Int32)) 30 m_cDay (fun v2 => ar (m_calls - (1 : Int32)) 30 m_cHour (fun v3 => (if (((24 : Int32) * v2) + v3) ≤ (((24 : Int32) * x1) + x2) then
fX9_call_p95 n m_calls m_cDay m_cHour m_cFrom m_cAsk m_cWord m_cOf m_isLie x1 x2 x3 x4 x5 x6
 else
some ((-2 : Int32), m_calls, m_cDay, m_cHour, m_cFrom, m_cAsk, m_cWord, m_cOf, m_isLie)))))
def fX9_call (n : Nat) (m_words : Int32) (m_asks : Int32) (m_aWords : Nat → Int32) (m_places : Int32) (m_calls : Int32) (m_cDay : Nat → Int32) (m_cHour : Nat → Int32) (m_cFrom : Nat → Int32) (m_cAsk : Nat → Int32) (m_cWord : Nat → Int32) (m_cOf : Nat → Int32) (m_isLie : Nat → Int32) (x1 : Int32) (x2 : Int32) (x3 : Int32) (x4 : Int32) (x5 : Int32) (x6 : Int32) : Option (Int32 × Int32 × (Nat → Int32) × (Nat → Int32) × (Nat → Int32) × (Nat → Int32) × (Nat → Int32) × (Nat → Int32) × (Nat → Int32)) :=
bd1 (fX9_isTime n x1 x2) (fun v1 => (if v1 = 0 then
some ((-1 : Int32), m_calls, m_cDay, m_cHour, m_cFrom, m_cAsk, m_cWord, m_cOf, m_isLie)
 else
bd1 (fX9_isPlace n m_places x3) (fun v3 => (if v3 = 0 then
some ((-1 : Int32), m_calls, m_cDay, m_cHour, m_cFrom, m_cAsk, m_cWord, m_cOf, m_isLie)
 else
bd1 (fX9_fitsAsk n m_words m_asks m_aWords x4 x5) (fun v5 => (if v5 = 0 then
some ((-1 : Int32), m_calls, m_cDay, m_cHour, m_cFrom, m_cAsk, m_cWord, m_cOf, m_isLie)
 else
(if x6 = (-4 : Int32) then
fX9_call_p50 n m_calls m_cDay m_cHour m_cFrom m_cAsk m_cWord m_cOf m_isLie x1 x2 x3 x4 x5 x6
 else
bd1 (fX9_isRepeatable n m_calls m_cFrom m_cAsk m_cWord m_cOf x6 x3 x4 x5) (fun v8 => (if v8 = 0 then
some ((-1 : Int32), m_calls, m_cDay, m_cHour, m_cFrom, m_cAsk, m_cWord, m_cOf, m_isLie)
 else
fX9_call_p50 n m_calls m_cDay m_cHour m_cFrom m_cAsk m_cWord m_cOf m_isLie x1 x2 x3 x4 x5 x6)))))))))
def fX9_hasOne (n : Nat) (m_letters : Nat → Int32) (m_words : Int32) (m_wMany : Nat → Int32) (m_wLetters : Nat → Int32) (m_aWords : Nat → Int32) (m_manyA : Int32) (m_rowA : Nat → Int32) (m_manyB : Int32) (m_rowB : Nat → Int32) (m_xs : Nat → Int32) (m_ys : Nat → Int32) (m_heights : Nat → Int32) (m_ridges : Int32) (m_rx : Nat → Int32) (m_rHeight : Nat → Int32) (m_lanes : Nat → Int32) (m_sizes : Nat → Int32) (m_cells : Nat → Int32) (m_cHour : Nat → Int32) (m_cFrom : Nat → Int32) (m_cAsk : Nat → Int32) (m_cWord : Nat → Int32) (x1 : Int32) (x2 : Int32) : Option (Int32 × Int32 × (Nat → Int32) × Int32 × (Nat → Int32)) :=
ar x2 30 m_cFrom (fun v1 => ar x2 30 m_cHour (fun v2 => bd1 (fX9_doesHear n m_xs m_ys m_heights m_ridges m_rx m_rHeight m_lanes m_sizes m_cells v1 x1 v2) (fun v3 => (if v3 = 0 then
some ((-4 : Int32), m_manyA, m_rowA, m_manyB, m_rowB)
 else
ar x2 30 m_cAsk (fun v5 => ar x2 30 m_cWord (fun v6 => ar x2 30 m_cFrom (fun v7 => ar x2 30 m_cHour (fun v8 => bd1 (fX9_blurOf n m_xs m_ys m_heights m_ridges m_rx m_rHeight m_lanes m_sizes m_cells v7 x1 v8) (fun v9 => bd5 (fX9_meaning n m_letters m_words m_wMany m_wLetters m_aWords m_manyA m_rowA m_manyB m_rowB v5 v6 v9) (fun v10 v11 f12 v13 f14 => some (v10, v11, f12, v13, f14)))))))))))
def fX9_firstOf (n : Nat) (m_cOf : Nat → Int32) (x1 : Int32) : Option (Int32) :=
ar x1 30 m_cOf (fun v1 => (if v1 = (-4 : Int32) then
some x1
 else
ar x1 30 m_cOf (fun v3 => some v3)))
def fX9_isFalse (n : Nat) (m_cOf : Nat → Int32) (m_isLie : Nat → Int32) (x1 : Int32) : Option (Int32) :=
bd1 (fX9_firstOf n m_cOf x1) (fun v1 => ar v1 30 m_isLie (fun v2 => rb v2 (some v2)))
def fX9_callOf_p61 (n : Nat) (m_letters : Nat → Int32) (m_words : Int32) (m_wMany : Nat → Int32) (m_wLetters : Nat → Int32) (m_aWords : Nat → Int32) (m_manyA : Int32) (m_rowA : Nat → Int32) (m_manyB : Int32) (m_rowB : Nat → Int32) (m_places : Int32) (m_xs : Nat → Int32) (m_ys : Nat → Int32) (m_heights : Nat → Int32) (m_ridges : Int32) (m_rx : Nat → Int32) (m_rHeight : Nat → Int32) (m_lanes : Nat → Int32) (m_sizes : Nat → Int32) (m_cells : Nat → Int32) (m_cDay : Nat → Int32) (m_cHour : Nat → Int32) (m_cFrom : Nat → Int32) (m_cAsk : Nat → Int32) (m_cWord : Nat → Int32) (m_cOf : Nat → Int32) (m_isLie : Nat → Int32) (x1 : Int32) (x2 : Int32) (x4 : Int32) (x5 : Int32) (x6 : Int32) (s0 : Int32) (s1 : Int32) (rec30 : Int32 → (Nat → Int32) → Int32 → (Nat → Int32) → Int32 → Int32 → Int32 → Option (Int32 × Int32 × (Nat → Int32) × Int32 × (Nat → Int32))) : Option (Int32 × Int32 × (Nat → Int32) × Int32 × (Nat → Int32)) :=
nm (s0 + s1) (fun v1 => (if x6 = (-4 : Int32) then
nm (x4 + (0 : Int32)) (fun v3 => rec30 m_manyA m_rowA m_manyB m_rowB v1 v3 (x5 + 1))
 else
bd1 (fX9_bits n x6) (fun v4 => (if v4 = (1 : Int32) then
nm (x4 + (1 : Int32)) (fun v7 => rec30 m_manyA m_rowA m_manyB m_rowB v1 v7 (x5 + 1))
 else
nm (x4 + (0 : Int32)) (fun v6 => rec30 m_manyA m_rowA m_manyB m_rowB v1 v6 (x5 + 1))))))
def fX9_callOf_p95 (n : Nat) (m_manyA : Int32) (m_rowA : Nat → Int32) (m_manyB : Int32) (m_rowB : Nat → Int32) (m_cDay : Nat → Int32) (m_cHour : Nat → Int32) (m_cFrom : Nat → Int32) (m_cAsk : Nat → Int32) (m_cWord : Nat → Int32) (m_cOf : Nat → Int32) (m_isLie : Nat → Int32) (x1 : Int32) (x2 : Int32) (x3 : Int32) (x4 : Int32)   : Option (Int32 × Int32 × (Nat → Int32) × Int32 × (Nat → Int32)) :=
(if x2 = 0 then
ar x1 30 m_cDay (fun v2 => some (v2, m_manyA, m_rowA, m_manyB, m_rowB))
 else
(if x2 = 1 then
ar x1 30 m_cHour (fun v4 => some (v4, m_manyA, m_rowA, m_manyB, m_rowB))
 else
(if x2 = 2 then
ar x1 30 m_cFrom (fun v6 => some (v6, m_manyA, m_rowA, m_manyB, m_rowB))
 else
(if x2 = 3 then
ar x1 30 m_cAsk (fun v8 => some (v8, m_manyA, m_rowA, m_manyB, m_rowB))
 else
(if x2 = 4 then
ar x1 30 m_cWord (fun v10 => some (v10, m_manyA, m_rowA, m_manyB, m_rowB))
 else
(if x2 = 5 then
ar x1 30 m_cOf (fun v12 => some (v12, m_manyA, m_rowA, m_manyB, m_rowB))
 else
(if x2 = 6 then
bd1 (fX9_isFalse n m_cOf m_isLie x1) (fun v14 => (if v14 = 0 then
some ((0 : Int32), m_manyA, m_rowA, m_manyB, m_rowB)
 else
some ((1 : Int32), m_manyA, m_rowA, m_manyB, m_rowB)))
 else
(if x2 = 7 then
some (x3, m_manyA, m_rowA, m_manyB, m_rowB)
 else
some (x4, m_manyA, m_rowA, m_manyB, m_rowB)))))))))
def fX9_callOf_p30 (n : Nat) (m_letters : Nat → Int32) (m_words : Int32) (m_wMany : Nat → Int32) (m_wLetters : Nat → Int32) (m_aWords : Nat → Int32) (m_places : Int32) (m_xs : Nat → Int32) (m_ys : Nat → Int32) (m_heights : Nat → Int32) (m_ridges : Int32) (m_rx : Nat → Int32) (m_rHeight : Nat → Int32) (m_lanes : Nat → Int32) (m_sizes : Nat → Int32) (m_cells : Nat → Int32) (m_cDay : Nat → Int32) (m_cHour : Nat → Int32) (m_cFrom : Nat → Int32) (m_cAsk : Nat → Int32) (m_cWord : Nat → Int32) (m_cOf : Nat → Int32) (m_isLie : Nat → Int32) (x1 : Int32) (x2 : Int32)  : Nat → Int32 → (Nat → Int32) → Int32 → (Nat → Int32) → Int32 → Int32 → Int32 → Option (Int32 × Int32 × (Nat → Int32) × Int32 × (Nat → Int32))
  | 0, _, _, _, _, _, _, _ => none
  | k + 1, m_manyA, m_rowA, m_manyB, m_rowB, x3, x4, x5 =>
    (if m_places ≤ x5 then
    fX9_callOf_p95 n m_manyA m_rowA m_manyB m_rowB m_cDay m_cHour m_cFrom m_cAsk m_cWord m_cOf m_isLie x1 x2 x3 x4
     else
    bd5 (fX9_hasOne n m_letters m_words m_wMany m_wLetters m_aWords m_manyA m_rowA m_manyB m_rowB m_xs m_ys m_heights m_ridges m_rx m_rHeight m_lanes m_sizes m_cells m_cHour m_cFrom m_cAsk m_cWord x5 x1) (fun v2 v3 f4 v5 f6 => (if v2 = (-4 : Int32) then
    fX9_callOf_p61 n m_letters m_words m_wMany m_wLetters m_aWords v3 f4 v5 f6 m_places m_xs m_ys m_heights m_ridges m_rx m_rHeight m_lanes m_sizes m_cells m_cDay m_cHour m_cFrom m_cAsk m_cWord m_cOf m_isLie x1 x2 x4 x5 v2 x3 (0 : Int32) (fX9_callOf_p30 n m_letters m_words m_wMany m_wLetters m_aWords m_places m_xs m_ys m_heights m_ridges m_rx m_rHeight m_lanes m_sizes m_cells m_cDay m_cHour m_cFrom m_cAsk m_cWord m_cOf m_isLie x1 x2 k)
     else
    fX9_callOf_p61 n m_letters m_words m_wMany m_wLetters m_aWords v3 f4 v5 f6 m_places m_xs m_ys m_heights m_ridges m_rx m_rHeight m_lanes m_sizes m_cells m_cDay m_cHour m_cFrom m_cAsk m_cWord m_cOf m_isLie x1 x2 x4 x5 v2 x3 (1 : Int32) (fX9_callOf_p30 n m_letters m_words m_wMany m_wLetters m_aWords m_places m_xs m_ys m_heights m_ridges m_rx m_rHeight m_lanes m_sizes m_cells m_cDay m_cHour m_cFrom m_cAsk m_cWord m_cOf m_isLie x1 x2 k))))
def fX9_callOf (n : Nat) (m_letters : Nat → Int32) (m_words : Int32) (m_wMany : Nat → Int32) (m_wLetters : Nat → Int32) (m_aWords : Nat → Int32) (m_manyA : Int32) (m_rowA : Nat → Int32) (m_manyB : Int32) (m_rowB : Nat → Int32) (m_places : Int32) (m_xs : Nat → Int32) (m_ys : Nat → Int32) (m_heights : Nat → Int32) (m_ridges : Int32) (m_rx : Nat → Int32) (m_rHeight : Nat → Int32) (m_lanes : Nat → Int32) (m_sizes : Nat → Int32) (m_cells : Nat → Int32) (m_calls : Int32) (m_cDay : Nat → Int32) (m_cHour : Nat → Int32) (m_cFrom : Nat → Int32) (m_cAsk : Nat → Int32) (m_cWord : Nat → Int32) (m_cOf : Nat → Int32) (m_isLie : Nat → Int32) (x1 : Int32) (x2 : Int32) : Option (Int32 × Int32 × (Nat → Int32) × Int32 × (Nat → Int32)) :=
bd1 (fX9_isCall n m_calls x1) (fun v1 => (if v1 = 0 then
some ((-1 : Int32), m_manyA, m_rowA, m_manyB, m_rowB)
 else
bd1 (fX9_in n x2.toInt64 (0 : Int64) (8 : Int64)) (fun v3 => (if v3 = 0 then
some ((-1 : Int32), m_manyA, m_rowA, m_manyB, m_rowB)
 else
fX9_callOf_p30 n m_letters m_words m_wMany m_wLetters m_aWords m_places m_xs m_ys m_heights m_ridges m_rx m_rHeight m_lanes m_sizes m_cells m_cDay m_cHour m_cFrom m_cAsk m_cWord m_cOf m_isLie x1 x2 n m_manyA m_rowA m_manyB m_rowB (0 : Int32) (0 : Int32) (0 : Int32)))))
def fX9_lie (n : Nat) (m_calls : Int32) (m_cOf : Nat → Int32) (m_isLie : Nat → Int32) (x1 : Int32) (x2 : Int32) : Option (Int32 × (Nat → Int32)) :=
bd1 (fX9_isCall n m_calls x1) (fun v1 => (if v1 = 0 then
some ((-1 : Int32), m_isLie)
 else
ar x1 30 m_cOf (fun v3 => (if v3 = (-4 : Int32) then
ar x1 30 m_isLie (fun v5 => (if v5 = 0 then
aw x1 30 m_isLie (vp_nar .boolean x2) (fun f7 => some ((0 : Int32), f7))
 else
aw x1 30 m_isLie (vp_nar .boolean x2) (fun f8 => some ((1 : Int32), f8))))
 else
some ((-2 : Int32), m_isLie)))))
def fX9_upTo_p2 (n : Nat) (m_calls : Int32) (m_cDay : Nat → Int32) (m_cHour : Nat → Int32) (x1 : Int32) (x2 : Int32)  : Nat → Int32 → Option (Int32)
  | 0, _ => none
  | k + 1, x3 =>
    (if m_calls ≤ x3 then
    some x3
     else
    ar x3 30 m_cDay (fun v2 => ar x3 30 m_cHour (fun v3 => (if (((24 : Int32) * x1) + x2) < (((24 : Int32) * v2) + v3) then
    some x3
     else
    fX9_upTo_p2 n m_calls m_cDay m_cHour x1 x2 k (x3 + 1)))))
def fX9_upTo (n : Nat) (m_calls : Int32) (m_cDay : Nat → Int32) (m_cHour : Nat → Int32) (x1 : Int32) (x2 : Int32) : Option (Int32) :=
fX9_upTo_p2 n m_calls m_cDay m_cHour x1 x2 n (0 : Int32)
def fX9_hasAll_p7 (n : Nat) (m_letters : Nat → Int32) (m_words : Int32) (m_wMany : Nat → Int32) (m_wLetters : Nat → Int32) (m_aWords : Nat → Int32) (m_xs : Nat → Int32) (m_ys : Nat → Int32) (m_heights : Nat → Int32) (m_ridges : Int32) (m_rx : Nat → Int32) (m_rHeight : Nat → Int32) (m_lanes : Nat → Int32) (m_sizes : Nat → Int32) (m_cells : Nat → Int32) (m_cHour : Nat → Int32) (m_cFrom : Nat → Int32) (m_cAsk : Nat → Int32) (m_cWord : Nat → Int32) (m_cOf : Nat → Int32) (x1 : Int32) (x2 : Int32) (x3 : Int32)  : Nat → Int32 → (Nat → Int32) → Int32 → (Nat → Int32) → Int32 → Int32 → Option (Int32 × Int32 × (Nat → Int32) × Int32 × (Nat → Int32))
  | 0, _, _, _, _, _, _ => none
  | k + 1, m_manyA, m_rowA, m_manyB, m_rowB, x4, x5 =>
    (if x3 ≤ x5 then
    some (x4, m_manyA, m_rowA, m_manyB, m_rowB)
     else
    bd1 (fX9_firstOf n m_cOf x5) (fun v2 => (if v2 = x2 then
    bd5 (fX9_hasOne n m_letters m_words m_wMany m_wLetters m_aWords m_manyA m_rowA m_manyB m_rowB m_xs m_ys m_heights m_ridges m_rx m_rHeight m_lanes m_sizes m_cells m_cHour m_cFrom m_cAsk m_cWord x1 x5) (fun v4 v5 f6 v7 f8 => (if v4 = (-4 : Int32) then
    fX9_hasAll_p7 n m_letters m_words m_wMany m_wLetters m_aWords m_xs m_ys m_heights m_ridges m_rx m_rHeight m_lanes m_sizes m_cells m_cHour m_cFrom m_cAsk m_cWord m_cOf x1 x2 x3 k v5 f6 v7 f8 x4 (x5 + 1)
     else
    (if x4 = (-4 : Int32) then
    fX9_hasAll_p7 n m_letters m_words m_wMany m_wLetters m_aWords m_xs m_ys m_heights m_ridges m_rx m_rHeight m_lanes m_sizes m_cells m_cHour m_cFrom m_cAsk m_cWord m_cOf x1 x2 x3 k v5 f6 v7 f8 v4 (x5 + 1)
     else
    nm (x4 &&& v4) (fun v11 => fX9_hasAll_p7 n m_letters m_words m_wMany m_wLetters m_aWords m_xs m_ys m_heights m_ridges m_rx m_rHeight m_lanes m_sizes m_cells m_cHour m_cFrom m_cAsk m_cWord m_cOf x1 x2 x3 k v5 f6 v7 f8 v11 (x5 + 1)))))
     else
    fX9_hasAll_p7 n m_letters m_words m_wMany m_wLetters m_aWords m_xs m_ys m_heights m_ridges m_rx m_rHeight m_lanes m_sizes m_cells m_cHour m_cFrom m_cAsk m_cWord m_cOf x1 x2 x3 k m_manyA m_rowA m_manyB m_rowB x4 (x5 + 1))))
def fX9_hasAll (n : Nat) (m_letters : Nat → Int32) (m_words : Int32) (m_wMany : Nat → Int32) (m_wLetters : Nat → Int32) (m_aWords : Nat → Int32) (m_manyA : Int32) (m_rowA : Nat → Int32) (m_manyB : Int32) (m_rowB : Nat → Int32) (m_xs : Nat → Int32) (m_ys : Nat → Int32) (m_heights : Nat → Int32) (m_ridges : Int32) (m_rx : Nat → Int32) (m_rHeight : Nat → Int32) (m_lanes : Nat → Int32) (m_sizes : Nat → Int32) (m_cells : Nat → Int32) (m_cHour : Nat → Int32) (m_cFrom : Nat → Int32) (m_cAsk : Nat → Int32) (m_cWord : Nat → Int32) (m_cOf : Nat → Int32) (x1 : Int32) (x2 : Int32) (x3 : Int32) : Option (Int32 × Int32 × (Nat → Int32) × Int32 × (Nat → Int32)) :=
fX9_hasAll_p7 n m_letters m_words m_wMany m_wLetters m_aWords m_xs m_ys m_heights m_ridges m_rx m_rHeight m_lanes m_sizes m_cells m_cHour m_cFrom m_cAsk m_cWord m_cOf x1 x2 x3 n m_manyA m_rowA m_manyB m_rowB (-4 : Int32) x2
def fX9_has (n : Nat) (m_letters : Nat → Int32) (m_words : Int32) (m_wMany : Nat → Int32) (m_wLetters : Nat → Int32) (m_aWords : Nat → Int32) (m_manyA : Int32) (m_rowA : Nat → Int32) (m_manyB : Int32) (m_rowB : Nat → Int32) (m_places : Int32) (m_xs : Nat → Int32) (m_ys : Nat → Int32) (m_heights : Nat → Int32) (m_ridges : Int32) (m_rx : Nat → Int32) (m_rHeight : Nat → Int32) (m_lanes : Nat → Int32) (m_sizes : Nat → Int32) (m_cells : Nat → Int32) (m_calls : Int32) (m_cDay : Nat → Int32) (m_cHour : Nat → Int32) (m_cFrom : Nat → Int32) (m_cAsk : Nat → Int32) (m_cWord : Nat → Int32) (m_cOf : Nat → Int32) (x1 : Int32) (x2 : Int32) (x3 : Int32) (x4 : Int32) : Option (Int32 × Int32 × (Nat → Int32) × Int32 × (Nat → Int32)) :=
bd1 (fX9_isPlace n m_places x1) (fun v1 => (if v1 = 0 then
some ((-1 : Int32), m_manyA, m_rowA, m_manyB, m_rowB)
 else
bd1 (fX9_isCall n m_calls x2) (fun v3 => (if v3 = 0 then
some ((-1 : Int32), m_manyA, m_rowA, m_manyB, m_rowB)
 else
bd1 (fX9_isTime n x3 x4) (fun v5 => (if v5 = 0 then
some ((-1 : Int32), m_manyA, m_rowA, m_manyB, m_rowB)
 else
ar x2 30 m_cOf (fun v7 => (if v7 = (-4 : Int32) then
bd1 (fX9_upTo n m_calls m_cDay m_cHour x3 x4) (fun v9 => bd5 (fX9_hasAll n m_letters m_words m_wMany m_wLetters m_aWords m_manyA m_rowA m_manyB m_rowB m_xs m_ys m_heights m_ridges m_rx m_rHeight m_lanes m_sizes m_cells m_cHour m_cFrom m_cAsk m_cWord m_cOf x1 x2 v9) (fun v10 v11 f12 v13 f14 => some (v10, v11, f12, v13, f14)))
 else
some ((-2 : Int32), m_manyA, m_rowA, m_manyB, m_rowB)))))))))
def fX9_knowsBy_p85 (n : Nat) (m_letters : Nat → Int32) (m_words : Int32) (m_wMany : Nat → Int32) (m_wLetters : Nat → Int32) (m_aWords : Nat → Int32) (m_manyA : Int32) (m_rowA : Nat → Int32) (m_manyB : Int32) (m_rowB : Nat → Int32) (m_xs : Nat → Int32) (m_ys : Nat → Int32) (m_heights : Nat → Int32) (m_ridges : Int32) (m_rx : Nat → Int32) (m_rHeight : Nat → Int32) (m_lanes : Nat → Int32) (m_sizes : Nat → Int32) (m_cells : Nat → Int32) (m_cHour : Nat → Int32) (m_cFrom : Nat → Int32) (m_cAsk : Nat → Int32) (m_cWord : Nat → Int32) (m_cOf : Nat → Int32) (m_isLie : Nat → Int32) (x1 : Int32) (x2 : Int32) (x3 : Int32) (x5 : Int32) (x6 : Int32) (s0 : Int32) (s1 : Int32) (rec6 : Int32 → (Nat → Int32) → Int32 → (Nat → Int32) → Int32 → Int32 → Option (Int32 × Int32 × (Nat → Int32) × Int32 × (Nat → Int32))) : Option (Int32 × Int32 × (Nat → Int32) × Int32 × (Nat → Int32)) :=
nm (s0 ||| s1) (fun v1 => (if x6 = (-4 : Int32) then
nm (v1 ||| (0 : Int32)) (fun v3 => rec6 m_manyA m_rowA m_manyB m_rowB v3 (x5 + 1))
 else
bd1 (fX9_bits n x6) (fun v4 => (if v4 = (1 : Int32) then
nm (v1 ||| x6) (fun v7 => rec6 m_manyA m_rowA m_manyB m_rowB v7 (x5 + 1))
 else
nm (v1 ||| (0 : Int32)) (fun v6 => rec6 m_manyA m_rowA m_manyB m_rowB v6 (x5 + 1))))))
def fX9_knowsBy_p57 (n : Nat) (m_letters : Nat → Int32) (m_words : Int32) (m_wMany : Nat → Int32) (m_wLetters : Nat → Int32) (m_aWords : Nat → Int32) (m_manyA : Int32) (m_rowA : Nat → Int32) (m_manyB : Int32) (m_rowB : Nat → Int32) (m_xs : Nat → Int32) (m_ys : Nat → Int32) (m_heights : Nat → Int32) (m_ridges : Int32) (m_rx : Nat → Int32) (m_rHeight : Nat → Int32) (m_lanes : Nat → Int32) (m_sizes : Nat → Int32) (m_cells : Nat → Int32) (m_cHour : Nat → Int32) (m_cFrom : Nat → Int32) (m_cAsk : Nat → Int32) (m_cWord : Nat → Int32) (m_cOf : Nat → Int32) (m_isLie : Nat → Int32) (x1 : Int32) (x2 : Int32) (x3 : Int32) (x4 : Int32) (x5 : Int32) (s0 : Int32) (rec6 : Int32 → (Nat → Int32) → Int32 → (Nat → Int32) → Int32 → Int32 → Option (Int32 × Int32 × (Nat → Int32) × Int32 × (Nat → Int32))) : Option (Int32 × Int32 × (Nat → Int32) × Int32 × (Nat → Int32)) :=
ar x5 30 m_cFrom (fun v1 => (if v1 = x1 then
ar x5 30 m_cWord (fun v3 => fX9_knowsBy_p85 n m_letters m_words m_wMany m_wLetters m_aWords m_manyA m_rowA m_manyB m_rowB m_xs m_ys m_heights m_ridges m_rx m_rHeight m_lanes m_sizes m_cells m_cHour m_cFrom m_cAsk m_cWord m_cOf m_isLie x1 x2 x3 x5 s0 x4 ((1 : Int32) <<< (v3 &&& 31)) (rec6))
 else
fX9_knowsBy_p85 n m_letters m_words m_wMany m_wLetters m_aWords m_manyA m_rowA m_manyB m_rowB m_xs m_ys m_heights m_ridges m_rx m_rHeight m_lanes m_sizes m_cells m_cHour m_cFrom m_cAsk m_cWord m_cOf m_isLie x1 x2 x3 x5 s0 x4 (0 : Int32) (rec6)))
def fX9_knowsBy_p6 (n : Nat) (m_letters : Nat → Int32) (m_words : Int32) (m_wMany : Nat → Int32) (m_wLetters : Nat → Int32) (m_aWords : Nat → Int32) (m_xs : Nat → Int32) (m_ys : Nat → Int32) (m_heights : Nat → Int32) (m_ridges : Int32) (m_rx : Nat → Int32) (m_rHeight : Nat → Int32) (m_lanes : Nat → Int32) (m_sizes : Nat → Int32) (m_cells : Nat → Int32) (m_cHour : Nat → Int32) (m_cFrom : Nat → Int32) (m_cAsk : Nat → Int32) (m_cWord : Nat → Int32) (m_cOf : Nat → Int32) (m_isLie : Nat → Int32) (x1 : Int32) (x2 : Int32) (x3 : Int32)  : Nat → Int32 → (Nat → Int32) → Int32 → (Nat → Int32) → Int32 → Int32 → Option (Int32 × Int32 × (Nat → Int32) × Int32 × (Nat → Int32))
  | 0, _, _, _, _, _, _ => none
  | k + 1, m_manyA, m_rowA, m_manyB, m_rowB, x4, x5 =>
    (if x3 ≤ x5 then
    some (x4, m_manyA, m_rowA, m_manyB, m_rowB)
     else
    ar x5 30 m_cAsk (fun v2 => (if v2 = x2 then
    bd1 (fX9_isFalse n m_cOf m_isLie x5) (fun v4 => (if v4 = 0 then
    ar x5 30 m_cOf (fun v6 => (if v6 = (-4 : Int32) then
    bd5 (fX9_hasAll n m_letters m_words m_wMany m_wLetters m_aWords m_manyA m_rowA m_manyB m_rowB m_xs m_ys m_heights m_ridges m_rx m_rHeight m_lanes m_sizes m_cells m_cHour m_cFrom m_cAsk m_cWord m_cOf x1 x5 x3) (fun v8 v9 f10 v11 f12 => fX9_knowsBy_p57 n m_letters m_words m_wMany m_wLetters m_aWords v9 f10 v11 f12 m_xs m_ys m_heights m_ridges m_rx m_rHeight m_lanes m_sizes m_cells m_cHour m_cFrom m_cAsk m_cWord m_cOf m_isLie x1 x2 x3 x4 x5 v8 (fX9_knowsBy_p6 n m_letters m_words m_wMany m_wLetters m_aWords m_xs m_ys m_heights m_ridges m_rx m_rHeight m_lanes m_sizes m_cells m_cHour m_cFrom m_cAsk m_cWord m_cOf m_isLie x1 x2 x3 k))
     else
    fX9_knowsBy_p57 n m_letters m_words m_wMany m_wLetters m_aWords m_manyA m_rowA m_manyB m_rowB m_xs m_ys m_heights m_ridges m_rx m_rHeight m_lanes m_sizes m_cells m_cHour m_cFrom m_cAsk m_cWord m_cOf m_isLie x1 x2 x3 x4 x5 (-4 : Int32) (fX9_knowsBy_p6 n m_letters m_words m_wMany m_wLetters m_aWords m_xs m_ys m_heights m_ridges m_rx m_rHeight m_lanes m_sizes m_cells m_cHour m_cFrom m_cAsk m_cWord m_cOf m_isLie x1 x2 x3 k)))
     else
    fX9_knowsBy_p6 n m_letters m_words m_wMany m_wLetters m_aWords m_xs m_ys m_heights m_ridges m_rx m_rHeight m_lanes m_sizes m_cells m_cHour m_cFrom m_cAsk m_cWord m_cOf m_isLie x1 x2 x3 k m_manyA m_rowA m_manyB m_rowB x4 (x5 + 1)))
     else
    fX9_knowsBy_p6 n m_letters m_words m_wMany m_wLetters m_aWords m_xs m_ys m_heights m_ridges m_rx m_rHeight m_lanes m_sizes m_cells m_cHour m_cFrom m_cAsk m_cWord m_cOf m_isLie x1 x2 x3 k m_manyA m_rowA m_manyB m_rowB x4 (x5 + 1))))
def fX9_knowsBy (n : Nat) (m_letters : Nat → Int32) (m_words : Int32) (m_wMany : Nat → Int32) (m_wLetters : Nat → Int32) (m_aWords : Nat → Int32) (m_manyA : Int32) (m_rowA : Nat → Int32) (m_manyB : Int32) (m_rowB : Nat → Int32) (m_xs : Nat → Int32) (m_ys : Nat → Int32) (m_heights : Nat → Int32) (m_ridges : Int32) (m_rx : Nat → Int32) (m_rHeight : Nat → Int32) (m_lanes : Nat → Int32) (m_sizes : Nat → Int32) (m_cells : Nat → Int32) (m_cHour : Nat → Int32) (m_cFrom : Nat → Int32) (m_cAsk : Nat → Int32) (m_cWord : Nat → Int32) (m_cOf : Nat → Int32) (m_isLie : Nat → Int32) (x1 : Int32) (x2 : Int32) (x3 : Int32) : Option (Int32 × Int32 × (Nat → Int32) × Int32 × (Nat → Int32)) :=
fX9_knowsBy_p6 n m_letters m_words m_wMany m_wLetters m_aWords m_xs m_ys m_heights m_ridges m_rx m_rHeight m_lanes m_sizes m_cells m_cHour m_cFrom m_cAsk m_cWord m_cOf m_isLie x1 x2 x3 n m_manyA m_rowA m_manyB m_rowB (0 : Int32) (0 : Int32)
def fX9_knows (n : Nat) (m_letters : Nat → Int32) (m_words : Int32) (m_wMany : Nat → Int32) (m_wLetters : Nat → Int32) (m_asks : Int32) (m_aWords : Nat → Int32) (m_manyA : Int32) (m_rowA : Nat → Int32) (m_manyB : Int32) (m_rowB : Nat → Int32) (m_places : Int32) (m_xs : Nat → Int32) (m_ys : Nat → Int32) (m_heights : Nat → Int32) (m_ridges : Int32) (m_rx : Nat → Int32) (m_rHeight : Nat → Int32) (m_lanes : Nat → Int32) (m_sizes : Nat → Int32) (m_cells : Nat → Int32) (m_calls : Int32) (m_cDay : Nat → Int32) (m_cHour : Nat → Int32) (m_cFrom : Nat → Int32) (m_cAsk : Nat → Int32) (m_cWord : Nat → Int32) (m_cOf : Nat → Int32) (m_isLie : Nat → Int32) (x1 : Int32) (x2 : Int32) (x3 : Int32) (x4 : Int32) : Option (Int32 × Int32 × (Nat → Int32) × Int32 × (Nat → Int32)) :=
bd1 (fX9_isPlace n m_places x1) (fun v1 => (if v1 = 0 then
some ((-1 : Int32), m_manyA, m_rowA, m_manyB, m_rowB)
 else
bd1 (fX9_isAsk n m_asks x2) (fun v3 => (if v3 = 0 then
some ((-1 : Int32), m_manyA, m_rowA, m_manyB, m_rowB)
 else
bd1 (fX9_isTime n x3 x4) (fun v5 => (if v5 = 0 then
some ((-1 : Int32), m_manyA, m_rowA, m_manyB, m_rowB)
 else
bd1 (fX9_upTo n m_calls m_cDay m_cHour x3 x4) (fun v7 => bd5 (fX9_knowsBy n m_letters m_words m_wMany m_wLetters m_aWords m_manyA m_rowA m_manyB m_rowB m_xs m_ys m_heights m_ridges m_rx m_rHeight m_lanes m_sizes m_cells m_cHour m_cFrom m_cAsk m_cWord m_cOf m_isLie x1 x2 v7) (fun v8 v9 f10 v11 f12 => some (v8, v9, f10, v11, f12)))))))))
def fX9_since_p22 (n : Nat) (m_letters : Nat → Int32) (m_words : Int32) (m_wMany : Nat → Int32) (m_wLetters : Nat → Int32) (m_aWords : Nat → Int32) (m_xs : Nat → Int32) (m_ys : Nat → Int32) (m_heights : Nat → Int32) (m_ridges : Int32) (m_rx : Nat → Int32) (m_rHeight : Nat → Int32) (m_lanes : Nat → Int32) (m_sizes : Nat → Int32) (m_cells : Nat → Int32) (m_calls : Int32) (m_cHour : Nat → Int32) (m_cFrom : Nat → Int32) (m_cAsk : Nat → Int32) (m_cWord : Nat → Int32) (m_cOf : Nat → Int32) (m_isLie : Nat → Int32) (x1 : Int32) (x2 : Int32) (x3 : Int32)  : Nat → Int32 → (Nat → Int32) → Int32 → (Nat → Int32) → Int32 → Option (Int32 × Int32 × (Nat → Int32) × Int32 × (Nat → Int32))
  | 0, _, _, _, _, _ => none
  | k + 1, m_manyA, m_rowA, m_manyB, m_rowB, x4 =>
    (if m_calls ≤ x4 then
    some ((-4 : Int32), m_manyA, m_rowA, m_manyB, m_rowB)
     else
    bd5 (fX9_knowsBy n m_letters m_words m_wMany m_wLetters m_aWords m_manyA m_rowA m_manyB m_rowB m_xs m_ys m_heights m_ridges m_rx m_rHeight m_lanes m_sizes m_cells m_cHour m_cFrom m_cAsk m_cWord m_cOf m_isLie x1 x2 (x4 + (1 : Int32))) (fun v2 v3 f4 v5 f6 => (if ((v2 >>> (x3 &&& 31)) &&& (1 : Int32)) = (1 : Int32) then
    some (x4, v3, f4, v5, f6)
     else
    fX9_since_p22 n m_letters m_words m_wMany m_wLetters m_aWords m_xs m_ys m_heights m_ridges m_rx m_rHeight m_lanes m_sizes m_cells m_calls m_cHour m_cFrom m_cAsk m_cWord m_cOf m_isLie x1 x2 x3 k v3 f4 v5 f6 (x4 + 1))))
def fX9_since (n : Nat) (m_letters : Nat → Int32) (m_words : Int32) (m_wMany : Nat → Int32) (m_wLetters : Nat → Int32) (m_asks : Int32) (m_aWords : Nat → Int32) (m_manyA : Int32) (m_rowA : Nat → Int32) (m_manyB : Int32) (m_rowB : Nat → Int32) (m_places : Int32) (m_xs : Nat → Int32) (m_ys : Nat → Int32) (m_heights : Nat → Int32) (m_ridges : Int32) (m_rx : Nat → Int32) (m_rHeight : Nat → Int32) (m_lanes : Nat → Int32) (m_sizes : Nat → Int32) (m_cells : Nat → Int32) (m_calls : Int32) (m_cHour : Nat → Int32) (m_cFrom : Nat → Int32) (m_cAsk : Nat → Int32) (m_cWord : Nat → Int32) (m_cOf : Nat → Int32) (m_isLie : Nat → Int32) (x1 : Int32) (x2 : Int32) (x3 : Int32) : Option (Int32 × Int32 × (Nat → Int32) × Int32 × (Nat → Int32)) :=
bd1 (fX9_isPlace n m_places x1) (fun v1 => (if v1 = 0 then
some ((-1 : Int32), m_manyA, m_rowA, m_manyB, m_rowB)
 else
bd1 (fX9_fitsAsk n m_words m_asks m_aWords x2 x3) (fun v3 => (if v3 = 0 then
some ((-1 : Int32), m_manyA, m_rowA, m_manyB, m_rowB)
 else
fX9_since_p22 n m_letters m_words m_wMany m_wLetters m_aWords m_xs m_ys m_heights m_ridges m_rx m_rHeight m_lanes m_sizes m_cells m_calls m_cHour m_cFrom m_cAsk m_cWord m_cOf m_isLie x1 x2 x3 n m_manyA m_rowA m_manyB m_rowB (0 : Int32)))))
def fX9_spread_p37 (n : Nat) (m_letters : Nat → Int32) (m_words : Int32) (m_wMany : Nat → Int32) (m_wLetters : Nat → Int32) (m_aWords : Nat → Int32) (m_places : Int32) (m_xs : Nat → Int32) (m_ys : Nat → Int32) (m_heights : Nat → Int32) (m_ridges : Int32) (m_rx : Nat → Int32) (m_rHeight : Nat → Int32) (m_lanes : Nat → Int32) (m_sizes : Nat → Int32) (m_cells : Nat → Int32) (m_calls : Int32) (m_cDay : Nat → Int32) (m_cHour : Nat → Int32) (m_cFrom : Nat → Int32) (m_cAsk : Nat → Int32) (m_cWord : Nat → Int32) (m_cOf : Nat → Int32) (m_isLie : Nat → Int32) (x1 : Int32) (x2 : Int32) (x3 : Int32) (x4 : Int32) (x5 : Int32)  : Nat → Int32 → (Nat → Int32) → Int32 → (Nat → Int32) → Int32 → Int32 → Option (Int32 × Int32 × (Nat → Int32) × Int32 × (Nat → Int32))
  | 0, _, _, _, _, _, _ => none
  | k + 1, m_manyA, m_rowA, m_manyB, m_rowB, x6, x7 =>
    (if m_places ≤ x7 then
    (if x5 = 0 then
    bd1 (fX9_bits n x6) (fun v3 => some (v3, m_manyA, m_rowA, m_manyB, m_rowB))
     else
    some (x6, m_manyA, m_rowA, m_manyB, m_rowB))
     else
    bd1 (fX9_upTo n m_calls m_cDay m_cHour x3 x4) (fun v4 => bd5 (fX9_knowsBy n m_letters m_words m_wMany m_wLetters m_aWords m_manyA m_rowA m_manyB m_rowB m_xs m_ys m_heights m_ridges m_rx m_rHeight m_lanes m_sizes m_cells m_cHour m_cFrom m_cAsk m_cWord m_cOf m_isLie x7 x1 v4) (fun v5 v6 f7 v8 f9 => (if ((v5 >>> (x2 &&& 31)) &&& (1 : Int32)) = (1 : Int32) then
    nm (x6 ||| ((1 : Int32) <<< (x7 &&& 31))) (fun v12 => fX9_spread_p37 n m_letters m_words m_wMany m_wLetters m_aWords m_places m_xs m_ys m_heights m_ridges m_rx m_rHeight m_lanes m_sizes m_cells m_calls m_cDay m_cHour m_cFrom m_cAsk m_cWord m_cOf m_isLie x1 x2 x3 x4 x5 k v6 f7 v8 f9 v12 (x7 + 1))
     else
    nm (x6 ||| (0 : Int32)) (fun v11 => fX9_spread_p37 n m_letters m_words m_wMany m_wLetters m_aWords m_places m_xs m_ys m_heights m_ridges m_rx m_rHeight m_lanes m_sizes m_cells m_calls m_cDay m_cHour m_cFrom m_cAsk m_cWord m_cOf m_isLie x1 x2 x3 x4 x5 k v6 f7 v8 f9 v11 (x7 + 1))))))
def fX9_spread (n : Nat) (m_letters : Nat → Int32) (m_words : Int32) (m_wMany : Nat → Int32) (m_wLetters : Nat → Int32) (m_asks : Int32) (m_aWords : Nat → Int32) (m_manyA : Int32) (m_rowA : Nat → Int32) (m_manyB : Int32) (m_rowB : Nat → Int32) (m_places : Int32) (m_xs : Nat → Int32) (m_ys : Nat → Int32) (m_heights : Nat → Int32) (m_ridges : Int32) (m_rx : Nat → Int32) (m_rHeight : Nat → Int32) (m_lanes : Nat → Int32) (m_sizes : Nat → Int32) (m_cells : Nat → Int32) (m_calls : Int32) (m_cDay : Nat → Int32) (m_cHour : Nat → Int32) (m_cFrom : Nat → Int32) (m_cAsk : Nat → Int32) (m_cWord : Nat → Int32) (m_cOf : Nat → Int32) (m_isLie : Nat → Int32) (x1 : Int32) (x2 : Int32) (x3 : Int32) (x4 : Int32) (x5 : Int32) : Option (Int32 × Int32 × (Nat → Int32) × Int32 × (Nat → Int32)) :=
bd1 (fX9_fitsAsk n m_words m_asks m_aWords x1 x2) (fun v1 => (if v1 = 0 then
some ((-1 : Int32), m_manyA, m_rowA, m_manyB, m_rowB)
 else
bd1 (fX9_isTime n x3 x4) (fun v3 => (if v3 = 0 then
some ((-1 : Int32), m_manyA, m_rowA, m_manyB, m_rowB)
 else
bd1 (fX9_in n x5.toInt64 (0 : Int64) (1 : Int64)) (fun v5 => (if v5 = 0 then
some ((-1 : Int32), m_manyA, m_rowA, m_manyB, m_rowB)
 else
fX9_spread_p37 n m_letters m_words m_wMany m_wLetters m_aWords m_places m_xs m_ys m_heights m_ridges m_rx m_rHeight m_lanes m_sizes m_cells m_calls m_cDay m_cHour m_cFrom m_cAsk m_cWord m_cOf m_isLie x1 x2 x3 x4 x5 n m_manyA m_rowA m_manyB m_rowB (0 : Int32) (0 : Int32)))))))
def fX9_child_p13 (n : Nat) (m_children : Int32)  : Nat → (Nat → Int32) → Int32 → Option (Int32 × Int32 × (Nat → Int32))
  | 0, _, _ => none
  | k + 1, m_learned, x1 =>
    (if (16 : Int32) ≤ x1 then
    nm (m_children + (1 : Int32)) (fun v2 => some (v2 - (1 : Int32), v2, m_learned))
     else
    aw (((16 : Int32) * m_children) + x1) 64 m_learned (0 : Int32) (fun f3 => fX9_child_p13 n m_children k f3 (x1 + 1)))
def fX9_child (n : Nat) (m_children : Int32) (m_learned : Nat → Int32)  : Option (Int32 × Int32 × (Nat → Int32)) :=
(if m_children = (4 : Int32) then
some ((-3 : Int32), m_children, m_learned)
 else
fX9_child_p13 n m_children n m_learned (0 : Int32))
def fX9_isChild (n : Nat) (m_children : Int32) (x1 : Int32) : Option (Int32) :=
bd1 (fX9_in n x1.toInt64 (0 : Int64) ((m_children - (1 : Int32)).toInt64)) (fun v1 => rb v1 (some v1))
def fX9_learn (n : Nat) (m_words : Int32) (m_children : Int32) (m_learned : Nat → Int32) (x1 : Int32) (x2 : Int32) (x3 : Int32) : Option (Int32 × (Nat → Int32)) :=
bd1 (fX9_isChild n m_children x1) (fun v1 => (if v1 = 0 then
some ((-1 : Int32), m_learned)
 else
bd1 (fX9_isWord n m_words x2) (fun v3 => (if v3 = 0 then
some ((-1 : Int32), m_learned)
 else
bd1 (fX9_isWord n m_words x3) (fun v5 => (if v5 = 0 then
some ((-1 : Int32), m_learned)
 else
(if x2 = x3 then
some ((-1 : Int32), m_learned)
 else
ar (((16 : Int32) * x1) + x2) 64 m_learned (fun v8 => nm ((v8 >>> (x3 &&& 31)) &&& (1 : Int32)) (fun v9 => ar (((16 : Int32) * x1) + x2) 64 m_learned (fun v10 => aw (((16 : Int32) * x1) + x2) 64 m_learned (v10 ||| ((1 : Int32) <<< (x3 &&& 31))) (fun f11 => ar (((16 : Int32) * x1) + x3) 64 f11 (fun v12 => aw (((16 : Int32) * x1) + x3) 64 f11 (v12 ||| ((1 : Int32) <<< (x2 &&& 31))) (fun f13 => some ((1 : Int32) - v9, f13))))))))))))))
def fX9_doesConfuse_p60 (n : Nat) (m_manyA : Int32) (m_rowA : Nat → Int32) (m_manyB : Int32) (m_rowB : Nat → Int32)  : Nat → Int32 → Int32 → Option (Int32 × Int32 × (Nat → Int32) × Int32 × (Nat → Int32))
  | 0, _, _ => none
  | k + 1, x4, x5 =>
    (if m_manyA ≤ x5 then
    (if x4 = (1 : Int32) then
    some ((1 : Int32), m_manyA, m_rowA, m_manyB, m_rowB)
     else
    some ((0 : Int32), m_manyA, m_rowA, m_manyB, m_rowB))
     else
    (if m_manyA = m_manyB then
    ar x5 8 m_rowA (fun v5 => ar x5 8 m_rowB (fun v6 => (if v5 = v6 then
    nm (x4 + (0 : Int32)) (fun v9 => fX9_doesConfuse_p60 n m_manyA m_rowA m_manyB m_rowB k v9 (x5 + 1))
     else
    nm (x4 + (1 : Int32)) (fun v8 => fX9_doesConfuse_p60 n m_manyA m_rowA m_manyB m_rowB k v8 (x5 + 1)))))
     else
    (if x4 = (1 : Int32) then
    some ((1 : Int32), m_manyA, m_rowA, m_manyB, m_rowB)
     else
    some ((0 : Int32), m_manyA, m_rowA, m_manyB, m_rowB))))
def fX9_doesConfuse (n : Nat) (m_letters : Nat → Int32) (m_wMany : Nat → Int32) (m_wLetters : Nat → Int32) (m_manyA : Int32) (m_rowA : Nat → Int32) (m_manyB : Int32) (m_rowB : Nat → Int32) (m_learned : Nat → Int32) (x1 : Int32) (x2 : Int32) (x3 : Int32) : Option (Int32 × Int32 × (Nat → Int32) × Int32 × (Nat → Int32)) :=
(if x2 = x3 then
some ((0 : Int32), m_manyA, m_rowA, m_manyB, m_rowB)
 else
ar (((16 : Int32) * x1) + x2) 64 m_learned (fun v2 => (if ((v2 >>> (x3 &&& 31)) &&& (1 : Int32)) = (1 : Int32) then
some ((0 : Int32), m_manyA, m_rowA, m_manyB, m_rowB)
 else
bd2 (fX9_rowOf n m_letters m_wMany m_wLetters m_rowA x2 (0 : Int32)) (fun v4 f5 => bd2 (fX9_rowOf n m_letters m_wMany m_wLetters m_rowB x3 (0 : Int32)) (fun v6 f7 => fX9_doesConfuse_p60 n v4 f5 v6 f7 n (0 : Int32) (0 : Int32))))))
def fX9_findGroups_p118 (n : Nat) (m_letters : Nat → Int32) (m_words : Int32) (m_wMany : Nat → Int32) (m_wLetters : Nat → Int32) (m_manyA : Int32) (m_rowA : Nat → Int32) (m_manyB : Int32) (m_rowB : Nat → Int32) (m_learned : Nat → Int32) (x1 : Int32) (x2 : Int32) (x3 : Int32) (x4 : Int32) (x5 : Int32) (rec25 : Int32 → (Nat → Int32) → Int32 → (Nat → Int32) → (Nat → Int32) → Int32 → Option (Int32 × (Nat → Int32) × Int32 × (Nat → Int32) × (Nat → Int32))) (rec35 : Int32 → (Nat → Int32) → Int32 → (Nat → Int32) → (Nat → Int32) → Int32 → Option (Int32 × (Nat → Int32) × Int32 × (Nat → Int32) × (Nat → Int32))) : Nat → (Nat → Int32) → Int32 → Option (Int32 × (Nat → Int32) × Int32 × (Nat → Int32) × (Nat → Int32))
  | 0, _, _ => none
  | k + 1, m_group, x6 =>
    (if m_words ≤ x6 then
    rec35 m_manyA m_rowA m_manyB m_rowB m_group (x3 + 1)
     else
    ar x6 16 m_group (fun v2 => (if v2 = x5 then
    aw x6 16 m_group x4 (fun f6 => fX9_findGroups_p118 n m_letters m_words m_wMany m_wLetters m_manyA m_rowA m_manyB m_rowB m_learned x1 x2 x3 x4 x5 rec25 rec35 k f6 (x6 + 1))
     else
    ar x6 16 m_group (fun v4 => aw x6 16 m_group v4 (fun f5 => fX9_findGroups_p118 n m_letters m_words m_wMany m_wLetters m_manyA m_rowA m_manyB m_rowB m_learned x1 x2 x3 x4 x5 rec25 rec35 k f5 (x6 + 1))))))
def fX9_findGroups_p95 (n : Nat) (m_letters : Nat → Int32) (m_words : Int32) (m_wMany : Nat → Int32) (m_wLetters : Nat → Int32) (m_manyA : Int32) (m_rowA : Nat → Int32) (m_manyB : Int32) (m_rowB : Nat → Int32) (m_learned : Nat → Int32) (m_group : Nat → Int32) (x1 : Int32) (x2 : Int32) (x3 : Int32) (s0 : Int32) (rec25 : Int32 → (Nat → Int32) → Int32 → (Nat → Int32) → (Nat → Int32) → Int32 → Option (Int32 × (Nat → Int32) × Int32 × (Nat → Int32) × (Nat → Int32))) (rec35 : Int32 → (Nat → Int32) → Int32 → (Nat → Int32) → (Nat → Int32) → Int32 → Option (Int32 × (Nat → Int32) × Int32 × (Nat → Int32) × (Nat → Int32))) : Option (Int32 × (Nat → Int32) × Int32 × (Nat → Int32) × (Nat → Int32)) :=
ar x2 16 m_group (fun v1 => ar x3 16 m_group (fun v2 => nm ((v1 + v2) - s0) (fun v3 => fX9_findGroups_p118 n m_letters m_words m_wMany m_wLetters m_manyA m_rowA m_manyB m_rowB m_learned x1 x2 x3 s0 v3 (rec25) (rec35) n m_group (0 : Int32))))
def fX9_findGroups_p35 (n : Nat) (m_letters : Nat → Int32) (m_words : Int32) (m_wMany : Nat → Int32) (m_wLetters : Nat → Int32) (m_learned : Nat → Int32) (x1 : Int32) (x2 : Int32) (rec25 : Int32 → (Nat → Int32) → Int32 → (Nat → Int32) → (Nat → Int32) → Int32 → Option (Int32 × (Nat → Int32) × Int32 × (Nat → Int32) × (Nat → Int32))) : Nat → Int32 → (Nat → Int32) → Int32 → (Nat → Int32) → (Nat → Int32) → Int32 → Option (Int32 × (Nat → Int32) × Int32 × (Nat → Int32) × (Nat → Int32))
  | 0, _, _, _, _, _, _ => none
  | k + 1, m_manyA, m_rowA, m_manyB, m_rowB, m_group, x3 =>
    (if x2 ≤ x3 then
    rec25 m_manyA m_rowA m_manyB m_rowB m_group (x2 + 1)
     else
    bd5 (fX9_doesConfuse n m_letters m_wMany m_wLetters m_manyA m_rowA m_manyB m_rowB m_learned x1 x2 x3) (fun v2 v3 f4 v5 f6 => (if v2 = 0 then
    fX9_findGroups_p35 n m_letters m_words m_wMany m_wLetters m_learned x1 x2 rec25 k v3 f4 v5 f6 m_group (x3 + 1)
     else
    ar x2 16 m_group (fun v8 => ar x3 16 m_group (fun v9 => (if v8 = v9 then
    fX9_findGroups_p35 n m_letters m_words m_wMany m_wLetters m_learned x1 x2 rec25 k v3 f4 v5 f6 m_group (x3 + 1)
     else
    ar x2 16 m_group (fun v11 => ar x3 16 m_group (fun v12 => (if v12 ≤ v11 then
    ar x3 16 m_group (fun v14 => fX9_findGroups_p95 n m_letters m_words m_wMany m_wLetters v3 f4 v5 f6 m_learned m_group x1 x2 x3 v14 (rec25) (fX9_findGroups_p35 n m_letters m_words m_wMany m_wLetters m_learned x1 x2 rec25 k))
     else
    ar x2 16 m_group (fun v15 => fX9_findGroups_p95 n m_letters m_words m_wMany m_wLetters v3 f4 v5 f6 m_learned m_group x1 x2 x3 v15 (rec25) (fX9_findGroups_p35 n m_letters m_words m_wMany m_wLetters m_learned x1 x2 rec25 k)))))))))))
def fX9_findGroups_p25 (n : Nat) (m_letters : Nat → Int32) (m_words : Int32) (m_wMany : Nat → Int32) (m_wLetters : Nat → Int32) (m_learned : Nat → Int32) (x1 : Int32)  : Nat → Int32 → (Nat → Int32) → Int32 → (Nat → Int32) → (Nat → Int32) → Int32 → Option (Int32 × (Nat → Int32) × Int32 × (Nat → Int32) × (Nat → Int32))
  | 0, _, _, _, _, _, _ => none
  | k + 1, m_manyA, m_rowA, m_manyB, m_rowB, m_group, x2 =>
    (if m_words ≤ x2 then
    some (m_manyA, m_rowA, m_manyB, m_rowB, m_group)
     else
    fX9_findGroups_p35 n m_letters m_words m_wMany m_wLetters m_learned x1 x2 (fX9_findGroups_p25 n m_letters m_words m_wMany m_wLetters m_learned x1 k) n m_manyA m_rowA m_manyB m_rowB m_group (0 : Int32))
def fX9_findGroups_p2 (n : Nat) (m_letters : Nat → Int32) (m_words : Int32) (m_wMany : Nat → Int32) (m_wLetters : Nat → Int32) (m_manyA : Int32) (m_rowA : Nat → Int32) (m_manyB : Int32) (m_rowB : Nat → Int32) (m_learned : Nat → Int32) (x1 : Int32)  : Nat → (Nat → Int32) → Int32 → Option (Int32 × (Nat → Int32) × Int32 × (Nat → Int32) × (Nat → Int32))
  | 0, _, _ => none
  | k + 1, m_group, x2 =>
    (if m_words ≤ x2 then
    fX9_findGroups_p25 n m_letters m_words m_wMany m_wLetters m_learned x1 n m_manyA m_rowA m_manyB m_rowB m_group (0 : Int32)
     else
    aw x2 16 m_group x2 (fun f2 => fX9_findGroups_p2 n m_letters m_words m_wMany m_wLetters m_manyA m_rowA m_manyB m_rowB m_learned x1 k f2 (x2 + 1)))
def fX9_findGroups (n : Nat) (m_letters : Nat → Int32) (m_words : Int32) (m_wMany : Nat → Int32) (m_wLetters : Nat → Int32) (m_manyA : Int32) (m_rowA : Nat → Int32) (m_manyB : Int32) (m_rowB : Nat → Int32) (m_learned : Nat → Int32) (m_group : Nat → Int32) (x1 : Int32) : Option (Int32 × (Nat → Int32) × Int32 × (Nat → Int32) × (Nat → Int32)) :=
fX9_findGroups_p2 n m_letters m_words m_wMany m_wLetters m_manyA m_rowA m_manyB m_rowB m_learned x1 n m_group (0 : Int32)
def fX9_childOf_p157 (n : Nat) (m_letters : Nat → Int32) (m_words : Int32) (m_wMany : Nat → Int32) (m_wLetters : Nat → Int32) (m_manyA : Int32) (m_rowA : Nat → Int32) (m_manyB : Int32) (m_rowB : Nat → Int32) (m_learned : Nat → Int32) (m_group : Nat → Int32) (x1 : Int32) (x2 : Int32) (x4 : Int32) (x5 : Int32) (x6 : Int32) (x7 : Int32) (x8 : Int32) (x9 : Int32) (s0 : Int32) (s1 : Int32) (rec60 : Int32 → (Nat → Int32) → Int32 → (Nat → Int32) → Int32 → Int32 → Int32 → Int32 → Int32 → Option (Int32 × Int32 × (Nat → Int32) × Int32 × (Nat → Int32) × (Nat → Int32))) (rec97 : Int32 → (Nat → Int32) → Int32 → (Nat → Int32) → Int32 → Int32 → Int32 → Int32 → Option (Int32 × Int32 × (Nat → Int32) × Int32 × (Nat → Int32) × (Nat → Int32))) : Option (Int32 × Int32 × (Nat → Int32) × Int32 × (Nat → Int32) × (Nat → Int32)) :=
nm (s0 + s1) (fun v1 => (if x7 ≤ x9 then
nm (x4 + (0 : Int32)) (fun v3 => rec97 m_manyA m_rowA m_manyB m_rowB v1 v3 x8 (x9 + 1))
 else
bd5 (fX9_doesConfuse n m_letters m_wMany m_wLetters m_manyA m_rowA m_manyB m_rowB m_learned x1 x7 x9) (fun v4 v5 f6 v7 f8 => (if v4 = 0 then
nm (x4 + (0 : Int32)) (fun v10 => rec97 v5 f6 v7 f8 v1 v10 x8 (x9 + 1))
 else
nm (x4 + (1 : Int32)) (fun v11 => rec97 v5 f6 v7 f8 v1 v11 x8 (x9 + 1))))))
def fX9_childOf_p125 (n : Nat) (m_letters : Nat → Int32) (m_words : Int32) (m_wMany : Nat → Int32) (m_wLetters : Nat → Int32) (m_manyA : Int32) (m_rowA : Nat → Int32) (m_manyB : Int32) (m_rowB : Nat → Int32) (m_learned : Nat → Int32) (m_group : Nat → Int32) (x1 : Int32) (x2 : Int32) (x3 : Int32) (x4 : Int32) (x5 : Int32) (x6 : Int32) (x7 : Int32) (x9 : Int32) (s0 : Int32) (s1 : Int32) (rec60 : Int32 → (Nat → Int32) → Int32 → (Nat → Int32) → Int32 → Int32 → Int32 → Int32 → Int32 → Option (Int32 × Int32 × (Nat → Int32) × Int32 × (Nat → Int32) × (Nat → Int32))) (rec97 : Int32 → (Nat → Int32) → Int32 → (Nat → Int32) → Int32 → Int32 → Int32 → Int32 → Option (Int32 × Int32 × (Nat → Int32) × Int32 × (Nat → Int32) × (Nat → Int32))) : Option (Int32 × Int32 × (Nat → Int32) × Int32 × (Nat → Int32) × (Nat → Int32)) :=
nm (s0 + s1) (fun v1 => (if x7 ≤ x9 then
fX9_childOf_p157 n m_letters m_words m_wMany m_wLetters m_manyA m_rowA m_manyB m_rowB m_learned m_group x1 x2 x4 x5 x6 x7 v1 x9 x3 (0 : Int32) (rec60) (rec97)
 else
ar (((16 : Int32) * x1) + x7) 64 m_learned (fun v3 => fX9_childOf_p157 n m_letters m_words m_wMany m_wLetters m_manyA m_rowA m_manyB m_rowB m_learned m_group x1 x2 x4 x5 x6 x7 v1 x9 x3 ((v3 >>> (x9 &&& 31)) &&& (1 : Int32)) (rec60) (rec97))))
def fX9_childOf_p194 (n : Nat) (m_letters : Nat → Int32) (m_words : Int32) (m_wMany : Nat → Int32) (m_wLetters : Nat → Int32) (m_manyA : Int32) (m_rowA : Nat → Int32) (m_manyB : Int32) (m_rowB : Nat → Int32) (m_learned : Nat → Int32) (m_group : Nat → Int32) (x1 : Int32) (x2 : Int32) (x3 : Int32) (x4 : Int32) (x5 : Int32) (x6 : Int32) (x7 : Int32) (x8 : Int32)  (rec60 : Int32 → (Nat → Int32) → Int32 → (Nat → Int32) → Int32 → Int32 → Int32 → Int32 → Int32 → Option (Int32 × Int32 × (Nat → Int32) × Int32 × (Nat → Int32) × (Nat → Int32))) : Option (Int32 × Int32 × (Nat → Int32) × Int32 × (Nat → Int32) × (Nat → Int32)) :=
(if x8 ≤ x6 then
rec60 m_manyA m_rowA m_manyB m_rowB x3 x4 x5 x6 (x7 + 1)
 else
rec60 m_manyA m_rowA m_manyB m_rowB x3 x4 x5 x8 (x7 + 1))
def fX9_childOf_p97 (n : Nat) (m_letters : Nat → Int32) (m_words : Int32) (m_wMany : Nat → Int32) (m_wLetters : Nat → Int32) (m_learned : Nat → Int32) (m_group : Nat → Int32) (x1 : Int32) (x2 : Int32) (x5 : Int32) (x6 : Int32) (x7 : Int32) (rec60 : Int32 → (Nat → Int32) → Int32 → (Nat → Int32) → Int32 → Int32 → Int32 → Int32 → Int32 → Option (Int32 × Int32 × (Nat → Int32) × Int32 × (Nat → Int32) × (Nat → Int32))) : Nat → Int32 → (Nat → Int32) → Int32 → (Nat → Int32) → Int32 → Int32 → Int32 → Int32 → Option (Int32 × Int32 × (Nat → Int32) × Int32 × (Nat → Int32) × (Nat → Int32))
  | 0, _, _, _, _, _, _, _, _ => none
  | k + 1, m_manyA, m_rowA, m_manyB, m_rowB, x3, x4, x8, x9 =>
    (if m_words ≤ x9 then
    fX9_childOf_p194 n m_letters m_words m_wMany m_wLetters m_manyA m_rowA m_manyB m_rowB m_learned m_group x1 x2 x3 x4 x5 x6 x7 x8 (rec60)
     else
    ar x9 16 m_group (fun v2 => (if v2 = x7 then
    fX9_childOf_p125 n m_letters m_words m_wMany m_wLetters m_manyA m_rowA m_manyB m_rowB m_learned m_group x1 x2 x3 x4 x5 x6 x7 x9 x8 (1 : Int32) (rec60) (fX9_childOf_p97 n m_letters m_words m_wMany m_wLetters m_learned m_group x1 x2 x5 x6 x7 rec60 k)
     else
    fX9_childOf_p125 n m_letters m_words m_wMany m_wLetters m_manyA m_rowA m_manyB m_rowB m_learned m_group x1 x2 x3 x4 x5 x6 x7 x9 x8 (0 : Int32) (rec60) (fX9_childOf_p97 n m_letters m_words m_wMany m_wLetters m_learned m_group x1 x2 x5 x6 x7 rec60 k))))
def fX9_childOf_p216 (n : Nat) (m_manyA : Int32) (m_rowA : Nat → Int32) (m_manyB : Int32) (m_rowB : Nat → Int32) (m_group : Nat → Int32) (x2 : Int32) (x3 : Int32) (x4 : Int32) (x5 : Int32) (x6 : Int32)   : Option (Int32 × Int32 × (Nat → Int32) × Int32 × (Nat → Int32) × (Nat → Int32)) :=
(if x2 = 0 then
some (x3, m_manyA, m_rowA, m_manyB, m_rowB, m_group)
 else
(if x2 = (1 : Int32) then
some (x4, m_manyA, m_rowA, m_manyB, m_rowB, m_group)
 else
(if x2 = (2 : Int32) then
some (x5, m_manyA, m_rowA, m_manyB, m_rowB, m_group)
 else
(if x2 = (3 : Int32) then
some (x6, m_manyA, m_rowA, m_manyB, m_rowB, m_group)
 else
ar (x2 - (10 : Int32)) 16 m_group (fun v5 => some (v5, m_manyA, m_rowA, m_manyB, m_rowB, m_group))))))
def fX9_childOf_p60 (n : Nat) (m_letters : Nat → Int32) (m_words : Int32) (m_wMany : Nat → Int32) (m_wLetters : Nat → Int32) (m_learned : Nat → Int32) (m_group : Nat → Int32) (x1 : Int32) (x2 : Int32)  : Nat → Int32 → (Nat → Int32) → Int32 → (Nat → Int32) → Int32 → Int32 → Int32 → Int32 → Int32 → Option (Int32 × Int32 × (Nat → Int32) × Int32 × (Nat → Int32) × (Nat → Int32))
  | 0, _, _, _, _, _, _, _, _, _ => none
  | k + 1, m_manyA, m_rowA, m_manyB, m_rowB, x3, x4, x5, x6, x7 =>
    (if m_words ≤ x7 then
    fX9_childOf_p216 n m_manyA m_rowA m_manyB m_rowB m_group x2 x3 x4 x5 x6
     else
    ar x7 16 m_group (fun v2 => (if v2 = x7 then
    nm (x5 + (1 : Int32)) (fun v5 => fX9_childOf_p97 n m_letters m_words m_wMany m_wLetters m_learned m_group x1 x2 v5 x6 x7 (fX9_childOf_p60 n m_letters m_words m_wMany m_wLetters m_learned m_group x1 x2 k) n m_manyA m_rowA m_manyB m_rowB x3 x4 (0 : Int32) (0 : Int32))
     else
    nm (x5 + (0 : Int32)) (fun v4 => fX9_childOf_p97 n m_letters m_words m_wMany m_wLetters m_learned m_group x1 x2 v4 x6 x7 (fX9_childOf_p60 n m_letters m_words m_wMany m_wLetters m_learned m_group x1 x2 k) n m_manyA m_rowA m_manyB m_rowB x3 x4 (0 : Int32) (0 : Int32)))))
def fX9_childOf_p41 (n : Nat) (m_letters : Nat → Int32) (m_words : Int32) (m_wMany : Nat → Int32) (m_wLetters : Nat → Int32) (m_manyA : Int32) (m_rowA : Nat → Int32) (m_manyB : Int32) (m_rowB : Nat → Int32) (m_learned : Nat → Int32) (m_group : Nat → Int32) (x1 : Int32) (x2 : Int32)   : Option (Int32 × Int32 × (Nat → Int32) × Int32 × (Nat → Int32) × (Nat → Int32)) :=
bd5 (fX9_findGroups n m_letters m_words m_wMany m_wLetters m_manyA m_rowA m_manyB m_rowB m_learned m_group x1) (fun v1 f2 v3 f4 f5 => fX9_childOf_p60 n m_letters m_words m_wMany m_wLetters m_learned f5 x1 x2 n v1 f2 v3 f4 (0 : Int32) (0 : Int32) (0 : Int32) (0 : Int32) (0 : Int32))
def fX9_childOf (n : Nat) (m_letters : Nat → Int32) (m_words : Int32) (m_wMany : Nat → Int32) (m_wLetters : Nat → Int32) (m_manyA : Int32) (m_rowA : Nat → Int32) (m_manyB : Int32) (m_rowB : Nat → Int32) (m_children : Int32) (m_learned : Nat → Int32) (m_group : Nat → Int32) (x1 : Int32) (x2 : Int32) : Option (Int32 × Int32 × (Nat → Int32) × Int32 × (Nat → Int32) × (Nat → Int32)) :=
bd1 (fX9_isChild n m_children x1) (fun v1 => (if v1 = 0 then
some ((-1 : Int32), m_manyA, m_rowA, m_manyB, m_rowB, m_group)
 else
bd1 (fX9_in n x2.toInt64 (0 : Int64) (3 : Int64)) (fun v3 => (if v3 = 0 then
bd1 (fX9_in n x2.toInt64 (10 : Int64) (((9 : Int32) + m_words).toInt64)) (fun v5 => (if v5 = 0 then
some ((-1 : Int32), m_manyA, m_rowA, m_manyB, m_rowB, m_group)
 else
fX9_childOf_p41 n m_letters m_words m_wMany m_wLetters m_manyA m_rowA m_manyB m_rowB m_learned m_group x1 x2))
 else
fX9_childOf_p41 n m_letters m_words m_wMany m_wLetters m_manyA m_rowA m_manyB m_rowB m_learned m_group x1 x2))))
def fX9_lessons_p35 (n : Nat) (m_letters : Nat → Int32) (m_words : Int32) (m_wMany : Nat → Int32) (m_wLetters : Nat → Int32) (m_aWords : Nat → Int32) (m_learned : Nat → Int32) (x1 : Int32) (x2 : Int32) (x4 : Int32) (rec23 : Int32 → (Nat → Int32) → Int32 → (Nat → Int32) → Int32 → Int32 → Option (Int32 × Int32 × (Nat → Int32) × Int32 × (Nat → Int32))) : Nat → Int32 → (Nat → Int32) → Int32 → (Nat → Int32) → Int32 → Int32 → Option (Int32 × Int32 × (Nat → Int32) × Int32 × (Nat → Int32))
  | 0, _, _, _, _, _, _ => none
  | k + 1, m_manyA, m_rowA, m_manyB, m_rowB, x3, x5 =>
    (if x4 ≤ x5 then
    rec23 m_manyA m_rowA m_manyB m_rowB x3 (x4 + 1)
     else
    ar x2 6 m_aWords (fun v2 => (if ((v2 >>> (x4 &&& 31)) &&& (1 : Int32)) = (1 : Int32) then
    ar x2 6 m_aWords (fun v5 => (if ((v5 >>> (x5 &&& 31)) &&& (1 : Int32)) = (1 : Int32) then
    bd5 (fX9_doesConfuse n m_letters m_wMany m_wLetters m_manyA m_rowA m_manyB m_rowB m_learned x1 x4 x5) (fun v8 v9 f10 v11 f12 => (if v8 = 0 then
    nm (x3 + (0 : Int32)) (fun v14 => fX9_lessons_p35 n m_letters m_words m_wMany m_wLetters m_aWords m_learned x1 x2 x4 rec23 k v9 f10 v11 f12 v14 (x5 + 1))
     else
    nm (x3 + (1 : Int32)) (fun v15 => fX9_lessons_p35 n m_letters m_words m_wMany m_wLetters m_aWords m_learned x1 x2 x4 rec23 k v9 f10 v11 f12 v15 (x5 + 1))))
     else
    nm (x3 + (0 : Int32)) (fun v7 => fX9_lessons_p35 n m_letters m_words m_wMany m_wLetters m_aWords m_learned x1 x2 x4 rec23 k m_manyA m_rowA m_manyB m_rowB v7 (x5 + 1))))
     else
    nm (x3 + (0 : Int32)) (fun v4 => fX9_lessons_p35 n m_letters m_words m_wMany m_wLetters m_aWords m_learned x1 x2 x4 rec23 k m_manyA m_rowA m_manyB m_rowB v4 (x5 + 1)))))
def fX9_lessons_p23 (n : Nat) (m_letters : Nat → Int32) (m_words : Int32) (m_wMany : Nat → Int32) (m_wLetters : Nat → Int32) (m_aWords : Nat → Int32) (m_learned : Nat → Int32) (x1 : Int32) (x2 : Int32)  : Nat → Int32 → (Nat → Int32) → Int32 → (Nat → Int32) → Int32 → Int32 → Option (Int32 × Int32 × (Nat → Int32) × Int32 × (Nat → Int32))
  | 0, _, _, _, _, _, _ => none
  | k + 1, m_manyA, m_rowA, m_manyB, m_rowB, x3, x4 =>
    (if m_words ≤ x4 then
    some (x3, m_manyA, m_rowA, m_manyB, m_rowB)
     else
    fX9_lessons_p35 n m_letters m_words m_wMany m_wLetters m_aWords m_learned x1 x2 x4 (fX9_lessons_p23 n m_letters m_words m_wMany m_wLetters m_aWords m_learned x1 x2 k) n m_manyA m_rowA m_manyB m_rowB x3 (0 : Int32))
def fX9_lessons (n : Nat) (m_letters : Nat → Int32) (m_words : Int32) (m_wMany : Nat → Int32) (m_wLetters : Nat → Int32) (m_asks : Int32) (m_aWords : Nat → Int32) (m_manyA : Int32) (m_rowA : Nat → Int32) (m_manyB : Int32) (m_rowB : Nat → Int32) (m_children : Int32) (m_learned : Nat → Int32) (x1 : Int32) (x2 : Int32) : Option (Int32 × Int32 × (Nat → Int32) × Int32 × (Nat → Int32)) :=
bd1 (fX9_isChild n m_children x1) (fun v1 => (if v1 = 0 then
some ((-1 : Int32), m_manyA, m_rowA, m_manyB, m_rowB)
 else
bd1 (fX9_isAsk n m_asks x2) (fun v3 => (if v3 = 0 then
some ((-1 : Int32), m_manyA, m_rowA, m_manyB, m_rowB)
 else
fX9_lessons_p23 n m_letters m_words m_wMany m_wLetters m_aWords m_learned x1 x2 n m_manyA m_rowA m_manyB m_rowB (0 : Int32) (0 : Int32)))))
def fX9_count_p71 (n : Nat) (m_words : Int32) (m_asks : Int32) (m_taped : Int32) (m_places : Int32) (m_ridges : Int32) (m_lanes : Nat → Int32) (m_sizes : Nat → Int32) (m_calls : Int32) (m_children : Int32) (x1 : Int32) (x2 : Int32) (x3 : Int32)   : Option (Int32) :=
(if x1 = 0 then
some m_words
 else
(if x1 = 1 then
some m_asks
 else
(if x1 = 2 then
some x2
 else
(if x1 = 3 then
some m_places
 else
(if x1 = 4 then
some m_ridges
 else
(if x1 = 5 then
some m_calls
 else
(if x1 = 6 then
some x3
 else
(if x1 = 7 then
some m_children
 else
(if x1 = 8 then
some m_taped
 else
(if x1 = 9 then
ar (0 : Int32) 4 m_lanes (fun v11 => (if v11 = (-4 : Int32) then
some (-4 : Int32)
 else
ar (0 : Int32) 4 m_sizes (fun v13 => some v13)))
 else
some (-1 : Int32)))))))))))
def fX9_count_p39 (n : Nat) (m_words : Int32) (m_asks : Int32) (m_taped : Int32) (m_places : Int32) (m_ridges : Int32) (m_lanes : Nat → Int32) (m_sizes : Nat → Int32) (m_calls : Int32) (m_cOf : Nat → Int32) (m_isLie : Nat → Int32) (m_children : Int32) (x1 : Int32) (x2 : Int32)  : Nat → Int32 → Int32 → Option (Int32)
  | 0, _, _ => none
  | k + 1, x3, x4 =>
    (if m_calls ≤ x4 then
    fX9_count_p71 n m_words m_asks m_taped m_places m_ridges m_lanes m_sizes m_calls m_children x1 x2 x3
     else
    bd1 (fX9_isFalse n m_cOf m_isLie x4) (fun v2 => (if v2 = 0 then
    nm (x3 + (0 : Int32)) (fun v4 => fX9_count_p39 n m_words m_asks m_taped m_places m_ridges m_lanes m_sizes m_calls m_cOf m_isLie m_children x1 x2 k v4 (x4 + 1))
     else
    nm (x3 + (1 : Int32)) (fun v5 => fX9_count_p39 n m_words m_asks m_taped m_places m_ridges m_lanes m_sizes m_calls m_cOf m_isLie m_children x1 x2 k v5 (x4 + 1)))))
def fX9_count_p4 (n : Nat) (m_letters : Nat → Int32) (m_words : Int32) (m_asks : Int32) (m_taped : Int32) (m_places : Int32) (m_ridges : Int32) (m_lanes : Nat → Int32) (m_sizes : Nat → Int32) (m_calls : Int32) (m_cOf : Nat → Int32) (m_isLie : Nat → Int32) (m_children : Int32) (x1 : Int32)  : Nat → Int32 → Int32 → Option (Int32)
  | 0, _, _ => none
  | k + 1, x2, x3 =>
    (if (26 : Int32) ≤ x3 then
    fX9_count_p39 n m_words m_asks m_taped m_places m_ridges m_lanes m_sizes m_calls m_cOf m_isLie m_children x1 x2 n (0 : Int32) (0 : Int32)
     else
    ar x3 26 m_letters (fun v2 => (if v2 = (-1 : Int32) then
    nm (x2 + (0 : Int32)) (fun v5 => fX9_count_p4 n m_letters m_words m_asks m_taped m_places m_ridges m_lanes m_sizes m_calls m_cOf m_isLie m_children x1 k v5 (x3 + 1))
     else
    nm (x2 + (1 : Int32)) (fun v4 => fX9_count_p4 n m_letters m_words m_asks m_taped m_places m_ridges m_lanes m_sizes m_calls m_cOf m_isLie m_children x1 k v4 (x3 + 1)))))
def fX9_count (n : Nat) (m_letters : Nat → Int32) (m_words : Int32) (m_asks : Int32) (m_taped : Int32) (m_places : Int32) (m_ridges : Int32) (m_lanes : Nat → Int32) (m_sizes : Nat → Int32) (m_calls : Int32) (m_cOf : Nat → Int32) (m_isLie : Nat → Int32) (m_children : Int32) (x1 : Int32) : Option (Int32) :=
fX9_count_p4 n m_letters m_words m_asks m_taped m_places m_ridges m_lanes m_sizes m_calls m_cOf m_isLie m_children x1 n (0 : Int32) (0 : Int32)
def fX9_look (n : Nat) (m_tape : Nat → Int32) (m_taped : Int32) (x1 : Int32) : Option (Int32) :=
(if m_taped ≤ x1 then
some (-1 : Int32)
 else
ar x1 400 m_tape (fun v2 => some v2))
def fX9_wants (n : Nat) (m_from : Int32) (m_fault : Int32) (m_wrongAt : Int32) (x1 : Int32) (x2 : Int32) : Option (Int32 × Int32) :=
(if x1 = 0 then
(if m_fault = 0 then
some (x2, m_from)
 else
some (m_fault, m_wrongAt))
 else
some (m_fault, m_wrongAt))
def fX9_next_p82 (n : Nat) (m_tape : Nat → Int32) (m_taped : Int32) (m_from : Int32) (m_sort : Int32) (m_value : Int32) (m_fault : Int32) (m_wrongAt : Int32)  : Nat → Int32 → Option (Int32 × Int32 × Int32 × Int32 × Int32 × Int32)
  | 0, _ => none
  | k + 1, m_pos =>
    bd1 (fX9_look n m_tape m_taped m_pos) (fun v1 => bd1 (fX9_in n v1.toInt64 (97 : Int64) (122 : Int64)) (fun v2 => (if v2 = 0 then
    some (m_pos, m_from, m_sort, m_value, m_fault, m_wrongAt)
     else
    nm (m_pos + (1 : Int32)) (fun v4 => fX9_next_p82 n m_tape m_taped m_from m_sort m_value m_fault m_wrongAt k v4))))
def fX9_next_p217 (n : Nat) (m_pos : Int32) (m_from : Int32) (m_sort : Int32) (m_value : Int32) (m_fault : Int32) (m_wrongAt : Int32)   : Option (Int32 × Int32 × Int32 × Int32 × Int32 × Int32) :=
(if (2 : Int32) < (m_pos - m_from) then
bd2 (fX9_wants n m_from m_fault m_wrongAt (0 : Int32) (1 : Int32)) (fun v2 v3 => some (m_pos, m_from, m_sort, m_value, v2, v3))
 else
bd2 (fX9_wants n m_from m_fault m_wrongAt (1 : Int32) (1 : Int32)) (fun v4 v5 => some (m_pos, m_from, m_sort, m_value, v4, v5)))
def fX9_next_p140 (n : Nat) (m_tape : Nat → Int32) (m_taped : Int32) (m_from : Int32) (m_sort : Int32) (m_fault : Int32) (m_wrongAt : Int32)  : Nat → Int32 → Int32 → Option (Int32 × Int32 × Int32 × Int32 × Int32 × Int32)
  | 0, _, _ => none
  | k + 1, m_pos, m_value =>
    bd1 (fX9_look n m_tape m_taped m_pos) (fun v1 => bd1 (fX9_in n v1.toInt64 (48 : Int64) (57 : Int64)) (fun v2 => (if v2 = 0 then
    fX9_next_p217 n m_pos m_from m_sort m_value m_fault m_wrongAt
     else
    (if (2 : Int32) ≤ (m_pos - m_from) then
    nm (m_pos + (1 : Int32)) (fun v5 => fX9_next_p140 n m_tape m_taped m_from m_sort m_fault m_wrongAt k v5 m_value)
     else
    bd1 (fX9_look n m_tape m_taped m_pos) (fun v6 => nm ((((10 : Int32) * m_value) + v6) - (48 : Int32)) (fun v7 => nm (m_pos + (1 : Int32)) (fun v8 => fX9_next_p140 n m_tape m_taped m_from m_sort m_fault m_wrongAt k v8 v7)))))))
def fX9_next_p255 (n : Nat) (m_pos : Int32) (m_from : Int32) (m_sort : Int32) (m_value : Int32) (m_fault : Int32) (m_wrongAt : Int32) (x1 : Int32) (s1 : Int32)  : Option (Int32 × Int32 × Int32 × Int32 × Int32 × Int32) :=
(if x1 = (59 : Int32) then
bd2 (fX9_wants n m_from m_fault m_wrongAt (1 : Int32) (1 : Int32)) (fun v2 v3 => nm (m_pos + (1 : Int32)) (fun v4 => some (v4, m_from, s1, m_value, v2, v3)))
 else
(if x1 = (44 : Int32) then
bd2 (fX9_wants n m_from m_fault m_wrongAt (1 : Int32) (1 : Int32)) (fun v9 v10 => nm (m_pos + (1 : Int32)) (fun v11 => some (v11, m_from, s1, m_value, v9, v10)))
 else
bd2 (fX9_wants n m_from m_fault m_wrongAt (0 : Int32) (1 : Int32)) (fun v6 v7 => nm (m_pos + (1 : Int32)) (fun v8 => some (v8, m_from, s1, m_value, v6, v7)))))
def fX9_next_p34 (n : Nat) (m_tape : Nat → Int32) (m_taped : Int32) (m_pos : Int32) (m_from : Int32) (m_sort : Int32) (m_value : Int32) (m_fault : Int32) (m_wrongAt : Int32)   : Option (Int32 × Int32 × Int32 × Int32 × Int32 × Int32) :=
bd1 (fX9_look n m_tape m_taped m_pos) (fun v1 => (if 0 ≤ v1 then
bd1 (fX9_in n v1.toInt64 (97 : Int64) (122 : Int64)) (fun v3 => (if v3 = 0 then
bd1 (fX9_in n v1.toInt64 (48 : Int64) (57 : Int64)) (fun v5 => (if v5 = 0 then
(if v1 = (59 : Int32) then
fX9_next_p255 n m_pos m_pos m_sort m_value m_fault m_wrongAt v1 (3 : Int32)
 else
fX9_next_p255 n m_pos m_pos m_sort m_value m_fault m_wrongAt v1 (4 : Int32))
 else
fX9_next_p140 n m_tape m_taped m_pos (2 : Int32) m_fault m_wrongAt n m_pos (0 : Int32)))
 else
fX9_next_p82 n m_tape m_taped m_pos (1 : Int32) m_value m_fault m_wrongAt n m_pos))
 else
some (m_pos, m_pos, (0 : Int32), m_value, m_fault, m_wrongAt)))
def fX9_next_p8 (n : Nat) (m_tape : Nat → Int32) (m_taped : Int32) (m_from : Int32) (m_sort : Int32) (m_value : Int32) (m_fault : Int32) (m_wrongAt : Int32)  : Nat → Int32 → Option (Int32 × Int32 × Int32 × Int32 × Int32 × Int32)
  | 0, _ => none
  | k + 1, m_pos =>
    bd1 (fX9_look n m_tape m_taped m_pos) (fun v1 => (if v1 = (32 : Int32) then
    nm (m_pos + (1 : Int32)) (fun v3 => fX9_next_p8 n m_tape m_taped m_from m_sort m_value m_fault m_wrongAt k v3)
     else
    fX9_next_p34 n m_tape m_taped m_pos m_from m_sort m_value m_fault m_wrongAt))
def fX9_next (n : Nat) (m_tape : Nat → Int32) (m_taped : Int32) (m_pos : Int32) (m_from : Int32) (m_sort : Int32) (m_value : Int32) (m_fault : Int32) (m_wrongAt : Int32)  : Option (Int32 × Int32 × Int32 × Int32 × Int32 × Int32) :=
(if m_fault ≤ 0 then
fX9_next_p8 n m_tape m_taped m_from m_sort m_value m_fault m_wrongAt n m_pos
 else
some (m_pos, m_from, m_sort, m_value, m_fault, m_wrongAt))
def fX9_is (n : Nat) (m_tape : Nat → Int32) (m_taped : Int32) (m_pos : Int32) (m_from : Int32) (m_sort : Int32) (x1 : Int32) (x2 : Int32) (x3 : Int32) (x4 : Int32) (x5 : Int32) : Option (Int32) :=
(if m_sort = (1 : Int32) then
(if (m_pos - m_from) = x1 then
bd1 (fX9_look n m_tape m_taped m_from) (fun v3 => (if v3 = x2 then
bd1 (fX9_look n m_tape m_taped (m_from + (1 : Int32))) (fun v5 => (if v5 = x3 then
bd1 (fX9_look n m_tape m_taped (m_from + (2 : Int32))) (fun v7 => (if v7 = x4 then
(if x1 < (4 : Int32) then
some (1 : Int32)
 else
bd1 (fX9_look n m_tape m_taped (m_from + (3 : Int32))) (fun v10 => (if v10 = x5 then
some (1 : Int32)
 else
some (0 : Int32))))
 else
some (0 : Int32)))
 else
some (0 : Int32)))
 else
some (0 : Int32)))
 else
some (0 : Int32))
 else
some (0 : Int32))
def fX9_lineNow_p69 (n : Nat) (m_tape : Nat → Int32) (m_taped : Int32) (m_pos : Int32) (m_from : Int32) (m_sort : Int32)   : Option (Int32) :=
bd1 (fX9_is n m_tape m_taped m_pos m_from m_sort (4 : Int32) (109 : Int32) (117 : Int32) (116 : Int32) (101 : Int32)) (fun v1 => (if v1 = 0 then
bd1 (fX9_is n m_tape m_taped m_pos m_from m_sort (4 : Int32) (119 : Int32) (111 : Int32) (114 : Int32) (100 : Int32)) (fun v3 => (if v3 = 0 then
bd1 (fX9_is n m_tape m_taped m_pos m_from m_sort (3 : Int32) (97 : Int32) (115 : Int32) (107 : Int32) (0 : Int32)) (fun v5 => (if v5 = 0 then
some (-4 : Int32)
 else
some (5 : Int32)))
 else
some (4 : Int32)))
 else
some (3 : Int32)))
def fX9_lineNow (n : Nat) (m_tape : Nat → Int32) (m_taped : Int32) (m_pos : Int32) (m_from : Int32) (m_sort : Int32)  : Option (Int32) :=
bd1 (fX9_is n m_tape m_taped m_pos m_from m_sort (4 : Int32) (104 : Int32) (105 : Int32) (103 : Int32) (104 : Int32)) (fun v1 => (if v1 = 0 then
bd1 (fX9_is n m_tape m_taped m_pos m_from m_sort (4 : Int32) (115 : Int32) (116 : Int32) (111 : Int32) (112 : Int32)) (fun v3 => (if v3 = 0 then
bd1 (fX9_is n m_tape m_taped m_pos m_from m_sort (5 : Int32) (103 : Int32) (108 : Int32) (105 : Int32) (100 : Int32)) (fun v5 => (if v5 = 0 then
fX9_lineNow_p69 n m_tape m_taped m_pos m_from m_sort
 else
bd1 (fX9_look n m_tape m_taped (m_from + (4 : Int32))) (fun v7 => (if v7 = (101 : Int32) then
some (2 : Int32)
 else
fX9_lineNow_p69 n m_tape m_taped m_pos m_from m_sort))))
 else
some (1 : Int32)))
 else
some (0 : Int32)))
def fX9_readLetter_p177 (n : Nat) (m_dLetters : Nat → Int32) (m_tape : Nat → Int32) (m_taped : Int32) (m_pos : Int32) (m_from : Int32) (m_sort : Int32) (m_value : Int32) (m_fault : Int32) (m_wrongAt : Int32) (x2 : Int32) (s0 : Int32)  : Option ((Nat → Int32) × Int32 × Int32 × Int32 × Int32 × Int32 × Int32) :=
bd6 (fX9_next n m_tape m_taped m_pos m_from m_sort m_value m_fault m_wrongAt) (fun v1 v2 v3 v4 v5 v6 => (if v5 = 0 then
aw x2 26 m_dLetters s0 (fun f8 => some (f8, v1, v2, v3, v4, v5, v6))
 else
some (m_dLetters, v1, v2, v3, v4, v5, v6)))
def fX9_readLetter_p152 (n : Nat) (m_dLetters : Nat → Int32) (m_tape : Nat → Int32) (m_taped : Int32) (m_pos : Int32) (m_from : Int32) (m_sort : Int32) (m_value : Int32) (m_fault : Int32) (m_wrongAt : Int32) (x1 : Int32) (x2 : Int32) (s1 : Int64) (s2 : Int64) (s3 : Int64)  : Option ((Nat → Int32) × Int32 × Int32 × Int32 × Int32 × Int32 × Int32) :=
bd1 (fX9_in n s1 s2 s3) (fun v1 => bd2 (fX9_wants n m_from m_fault m_wrongAt v1 (3 : Int32)) (fun v2 v3 => (if x1 = 0 then
fX9_readLetter_p177 n m_dLetters m_tape m_taped m_pos m_from m_sort m_value v2 v3 x2 m_value
 else
fX9_readLetter_p177 n m_dLetters m_tape m_taped m_pos m_from m_sort m_value v2 v3 x2 ((16 : Int32) + m_value))))
def fX9_readLetter_p121 (n : Nat) (m_dLetters : Nat → Int32) (m_tape : Nat → Int32) (m_taped : Int32) (m_pos : Int32) (m_from : Int32) (m_sort : Int32) (m_value : Int32) (m_fault : Int32) (m_wrongAt : Int32) (x1 : Int32) (x2 : Int32) (s1 : Int32)  : Option ((Nat → Int32) × Int32 × Int32 × Int32 × Int32 × Int32 × Int32) :=
bd2 (fX9_wants n m_from m_fault m_wrongAt s1 (2 : Int32)) (fun v1 v2 => (if v1 = 0 then
(if x1 = 0 then
fX9_readLetter_p152 n m_dLetters m_tape m_taped m_pos m_from m_sort m_value v1 v2 x1 x2 m_value.toInt64 (0 : Int64) (15 : Int64)
 else
fX9_readLetter_p152 n m_dLetters m_tape m_taped m_pos m_from m_sort m_value v1 v2 x1 x2 m_value.toInt64 (0 : Int64) (3 : Int64))
 else
(if x1 = 0 then
fX9_readLetter_p177 n m_dLetters m_tape m_taped m_pos m_from m_sort m_value v1 v2 x2 m_value
 else
fX9_readLetter_p177 n m_dLetters m_tape m_taped m_pos m_from m_sort m_value v1 v2 x2 ((16 : Int32) + m_value))))
def fX9_readLetter_p97 (n : Nat) (m_dLetters : Nat → Int32) (m_tape : Nat → Int32) (m_taped : Int32) (m_pos : Int32) (m_from : Int32) (m_sort : Int32) (m_value : Int32) (m_fault : Int32) (m_wrongAt : Int32) (x1 : Int32) (x2 : Int32) (s0 : Int32)  : Option ((Nat → Int32) × Int32 × Int32 × Int32 × Int32 × Int32 × Int32) :=
(if x1 = 0 then
(if m_sort = (2 : Int32) then
fX9_readLetter_p121 n m_dLetters m_tape m_taped m_pos m_from m_sort m_value m_fault m_wrongAt x1 x2 (1 : Int32)
 else
fX9_readLetter_p121 n m_dLetters m_tape m_taped m_pos m_from m_sort m_value m_fault m_wrongAt x1 x2 (0 : Int32))
 else
(if x1 = (1 : Int32) then
(if m_sort = (2 : Int32) then
fX9_readLetter_p121 n m_dLetters m_tape m_taped m_pos m_from m_sort m_value m_fault m_wrongAt x1 x2 (1 : Int32)
 else
fX9_readLetter_p121 n m_dLetters m_tape m_taped m_pos m_from m_sort m_value m_fault m_wrongAt x1 x2 (0 : Int32))
 else
(if m_fault = 0 then
aw x2 26 m_dLetters s0 (fun f5 => some (f5, m_pos, m_from, m_sort, m_value, m_fault, m_wrongAt))
 else
some (m_dLetters, m_pos, m_from, m_sort, m_value, m_fault, m_wrongAt))))
def fX9_readLetter_p53 (n : Nat) (m_dLetters : Nat → Int32) (m_tape : Nat → Int32) (m_taped : Int32) (m_pos : Int32) (m_from : Int32) (m_sort : Int32) (m_value : Int32) (m_fault : Int32) (m_wrongAt : Int32) (x1 : Int32) (s0 : Int32)  : Option ((Nat → Int32) × Int32 × Int32 × Int32 × Int32 × Int32 × Int32) :=
(if m_fault = 0 then
ar s0 26 m_dLetters (fun v9 => (if v9 = (-1 : Int32) then
bd2 (fX9_wants n m_from m_fault m_wrongAt (1 : Int32) (4 : Int32)) (fun v20 v21 => bd6 (fX9_next n m_tape m_taped m_pos m_from m_sort m_value v20 v21) (fun v22 v23 v24 v25 v26 v27 => (if x1 = (2 : Int32) then
fX9_readLetter_p97 n m_dLetters m_tape m_taped v22 v23 v24 v25 v26 v27 x1 s0 (20 : Int32)
 else
fX9_readLetter_p97 n m_dLetters m_tape m_taped v22 v23 v24 v25 v26 v27 x1 s0 (30 : Int32))))
 else
bd2 (fX9_wants n m_from m_fault m_wrongAt (0 : Int32) (4 : Int32)) (fun v11 v12 => bd6 (fX9_next n m_tape m_taped m_pos m_from m_sort m_value v11 v12) (fun v13 v14 v15 v16 v17 v18 => (if x1 = (2 : Int32) then
fX9_readLetter_p97 n m_dLetters m_tape m_taped v13 v14 v15 v16 v17 v18 x1 s0 (20 : Int32)
 else
fX9_readLetter_p97 n m_dLetters m_tape m_taped v13 v14 v15 v16 v17 v18 x1 s0 (30 : Int32))))))
 else
bd6 (fX9_next n m_tape m_taped m_pos m_from m_sort m_value m_fault m_wrongAt) (fun v2 v3 v4 v5 v6 v7 => (if x1 = (2 : Int32) then
fX9_readLetter_p97 n m_dLetters m_tape m_taped v2 v3 v4 v5 v6 v7 x1 s0 (20 : Int32)
 else
fX9_readLetter_p97 n m_dLetters m_tape m_taped v2 v3 v4 v5 v6 v7 x1 s0 (30 : Int32))))
def fX9_readLetter_p27 (n : Nat) (m_dLetters : Nat → Int32) (m_tape : Nat → Int32) (m_taped : Int32) (m_pos : Int32) (m_from : Int32) (m_sort : Int32) (m_value : Int32) (m_fault : Int32) (m_wrongAt : Int32) (x1 : Int32) (s1 : Int32)  : Option ((Nat → Int32) × Int32 × Int32 × Int32 × Int32 × Int32 × Int32) :=
bd2 (fX9_wants n m_from m_fault m_wrongAt s1 (2 : Int32)) (fun v1 v2 => (if v1 = 0 then
bd1 (fX9_look n m_tape m_taped m_from) (fun v4 => fX9_readLetter_p53 n m_dLetters m_tape m_taped m_pos m_from m_sort m_value v1 v2 x1 (v4 - (97 : Int32)))
 else
fX9_readLetter_p53 n m_dLetters m_tape m_taped m_pos m_from m_sort m_value v1 v2 x1 (0 : Int32)))
def fX9_readLetter (n : Nat) (m_dLetters : Nat → Int32) (m_tape : Nat → Int32) (m_taped : Int32) (m_pos : Int32) (m_from : Int32) (m_sort : Int32) (m_value : Int32) (m_fault : Int32) (m_wrongAt : Int32) (x1 : Int32) : Option ((Nat → Int32) × Int32 × Int32 × Int32 × Int32 × Int32 × Int32) :=
(if m_sort = (1 : Int32) then
(if (m_pos - m_from) = (1 : Int32) then
fX9_readLetter_p27 n m_dLetters m_tape m_taped m_pos m_from m_sort m_value m_fault m_wrongAt x1 (1 : Int32)
 else
fX9_readLetter_p27 n m_dLetters m_tape m_taped m_pos m_from m_sort m_value m_fault m_wrongAt x1 (0 : Int32))
 else
fX9_readLetter_p27 n m_dLetters m_tape m_taped m_pos m_from m_sort m_value m_fault m_wrongAt x1 (0 : Int32))
def fX9_isSameWord_p26 (n : Nat) (m_dMany : Nat → Int32) (m_dText : Nat → Int32) (m_tape : Nat → Int32) (m_taped : Int32) (m_from : Int32) (x1 : Int32)  : Nat → Int32 → Int32 → Option (Int32)
  | 0, _, _ => none
  | k + 1, x2, x3 =>
    ar x1 16 m_dMany (fun v1 => (if v1 ≤ x3 then
    rb x2 (some x2)
     else
    (if x2 = 0 then
    rb x2 (some x2)
     else
    ar (((8 : Int32) * x1) + x3) 128 m_dText (fun v4 => bd1 (fX9_look n m_tape m_taped (m_from + x3)) (fun v5 => (if v4 = (v5 - (97 : Int32)) then
    fX9_isSameWord_p26 n m_dMany m_dText m_tape m_taped m_from x1 k (1 : Int32) (x3 + 1)
     else
    fX9_isSameWord_p26 n m_dMany m_dText m_tape m_taped m_from x1 k (0 : Int32) (x3 + 1)))))))
def fX9_isSameWord (n : Nat) (m_dMany : Nat → Int32) (m_dText : Nat → Int32) (m_tape : Nat → Int32) (m_taped : Int32) (m_pos : Int32) (m_from : Int32) (x1 : Int32) : Option (Int32) :=
ar x1 16 m_dMany (fun v1 => (if v1 = (m_pos - m_from) then
fX9_isSameWord_p26 n m_dMany m_dText m_tape m_taped m_from x1 n (1 : Int32) (0 : Int32)
 else
fX9_isSameWord_p26 n m_dMany m_dText m_tape m_taped m_from x1 n (0 : Int32) (0 : Int32)))
def fX9_readWord_p191 (n : Nat) (m_dWords : Int32) (m_dMany : Nat → Int32) (m_dText : Nat → Int32) (m_tape : Nat → Int32) (m_taped : Int32) (m_pos : Int32) (m_from : Int32) (m_sort : Int32) (m_value : Int32) (m_fault : Int32) (m_wrongAt : Int32) (x1 : Int32)   : Option (Int32 × (Nat → Int32) × (Nat → Int32) × Int32 × Int32 × Int32 × Int32 × Int32 × Int32) :=
aw m_dWords 16 m_dMany x1 (fun f1 => nm (m_dWords + (1 : Int32)) (fun v2 => bd6 (fX9_next n m_tape m_taped m_pos m_from m_sort m_value m_fault m_wrongAt) (fun v3 v4 v5 v6 v7 v8 => some (v2, f1, m_dText, v3, v4, v5, v6, v7, v8))))
def fX9_readWord_p153 (n : Nat) (m_dWords : Int32) (m_dMany : Nat → Int32) (m_tape : Nat → Int32) (m_taped : Int32) (m_pos : Int32) (m_from : Int32) (m_sort : Int32) (m_value : Int32) (m_fault : Int32) (m_wrongAt : Int32) (x1 : Int32)  : Nat → (Nat → Int32) → Int32 → Option (Int32 × (Nat → Int32) × (Nat → Int32) × Int32 × Int32 × Int32 × Int32 × Int32 × Int32)
  | 0, _, _ => none
  | k + 1, m_dText, x2 =>
    (if x1 ≤ x2 then
    fX9_readWord_p191 n m_dWords m_dMany m_dText m_tape m_taped m_pos m_from m_sort m_value m_fault m_wrongAt x1
     else
    bd1 (fX9_look n m_tape m_taped (m_from + x2)) (fun v2 => aw (((8 : Int32) * m_dWords) + x2) 128 m_dText (v2 - (97 : Int32)) (fun f3 => fX9_readWord_p153 n m_dWords m_dMany m_tape m_taped m_pos m_from m_sort m_value m_fault m_wrongAt x1 k f3 (x2 + 1))))
def fX9_readWord_p105 (n : Nat) (m_dWords : Int32) (m_dMany : Nat → Int32) (m_dText : Nat → Int32) (m_tape : Nat → Int32) (m_taped : Int32) (m_pos : Int32) (m_from : Int32) (m_sort : Int32) (m_value : Int32) (x1 : Int32)  : Nat → Int32 → Int32 → Int32 → Option (Int32 × (Nat → Int32) × (Nat → Int32) × Int32 × Int32 × Int32 × Int32 × Int32 × Int32)
  | 0, _, _, _ => none
  | k + 1, m_fault, m_wrongAt, x2 =>
    (if m_dWords ≤ x2 then
    (if m_fault = 0 then
    fX9_readWord_p153 n m_dWords m_dMany m_tape m_taped m_pos m_from m_sort m_value m_fault m_wrongAt x1 n m_dText (0 : Int32)
     else
    bd6 (fX9_next n m_tape m_taped m_pos m_from m_sort m_value m_fault m_wrongAt) (fun v3 v4 v5 v6 v7 v8 => some (m_dWords, m_dMany, m_dText, v3, v4, v5, v6, v7, v8)))
     else
    (if m_fault = 0 then
    bd1 (fX9_isSameWord n m_dMany m_dText m_tape m_taped m_pos m_from x2) (fun v17 => (if v17 = 0 then
    bd2 (fX9_wants n m_from m_fault m_wrongAt (1 : Int32) (4 : Int32)) (fun v21 v22 => fX9_readWord_p105 n m_dWords m_dMany m_dText m_tape m_taped m_pos m_from m_sort m_value x1 k v21 v22 (x2 + 1))
     else
    bd2 (fX9_wants n m_from m_fault m_wrongAt (0 : Int32) (4 : Int32)) (fun v19 v20 => fX9_readWord_p105 n m_dWords m_dMany m_dText m_tape m_taped m_pos m_from m_sort m_value x1 k v19 v20 (x2 + 1))))
     else
    (if m_fault = 0 then
    fX9_readWord_p153 n m_dWords m_dMany m_tape m_taped m_pos m_from m_sort m_value m_fault m_wrongAt x1 n m_dText (0 : Int32)
     else
    bd6 (fX9_next n m_tape m_taped m_pos m_from m_sort m_value m_fault m_wrongAt) (fun v11 v12 v13 v14 v15 v16 => some (m_dWords, m_dMany, m_dText, v11, v12, v13, v14, v15, v16)))))
def fX9_readWord_p53 (n : Nat) (m_dLetters : Nat → Int32) (m_dWords : Int32) (m_dMany : Nat → Int32) (m_dText : Nat → Int32) (m_tape : Nat → Int32) (m_taped : Int32) (m_pos : Int32) (m_from : Int32) (m_sort : Int32) (m_value : Int32) (x1 : Int32)  : Nat → Int32 → Int32 → Int32 → Option (Int32 × (Nat → Int32) × (Nat → Int32) × Int32 × Int32 × Int32 × Int32 × Int32 × Int32)
  | 0, _, _, _ => none
  | k + 1, m_fault, m_wrongAt, x2 =>
    (if x1 ≤ x2 then
    fX9_readWord_p105 n m_dWords m_dMany m_dText m_tape m_taped m_pos m_from m_sort m_value x1 n m_fault m_wrongAt (0 : Int32)
     else
    (if m_fault = 0 then
    bd1 (fX9_look n m_tape m_taped (m_from + x2)) (fun v3 => ar (v3 - (97 : Int32)) 26 m_dLetters (fun v4 => (if v4 = (-1 : Int32) then
    bd2 (fX9_wants n m_from m_fault m_wrongAt (0 : Int32) (5 : Int32)) (fun v6 v7 => fX9_readWord_p53 n m_dLetters m_dWords m_dMany m_dText m_tape m_taped m_pos m_from m_sort m_value x1 k v6 v7 (x2 + 1))
     else
    bd2 (fX9_wants n m_from m_fault m_wrongAt (1 : Int32) (5 : Int32)) (fun v8 v9 => fX9_readWord_p53 n m_dLetters m_dWords m_dMany m_dText m_tape m_taped m_pos m_from m_sort m_value x1 k v8 v9 (x2 + 1)))))
     else
    fX9_readWord_p105 n m_dWords m_dMany m_dText m_tape m_taped m_pos m_from m_sort m_value x1 n m_fault m_wrongAt (0 : Int32)))
def fX9_readWord_p14 (n : Nat) (m_dLetters : Nat → Int32) (m_dWords : Int32) (m_dMany : Nat → Int32) (m_dText : Nat → Int32) (m_tape : Nat → Int32) (m_taped : Int32) (m_pos : Int32) (m_from : Int32) (m_sort : Int32) (m_value : Int32) (m_fault : Int32) (m_wrongAt : Int32) (s1 : Int32)  : Option (Int32 × (Nat → Int32) × (Nat → Int32) × Int32 × Int32 × Int32 × Int32 × Int32 × Int32) :=
bd2 (fX9_wants n m_from m_fault m_wrongAt s1 (2 : Int32)) (fun v1 v2 => nm (m_pos - m_from) (fun v3 => (if v1 = 0 then
(if (8 : Int32) < v3 then
bd2 (fX9_wants n m_from v1 v2 (0 : Int32) (5 : Int32)) (fun v6 v7 => fX9_readWord_p53 n m_dLetters m_dWords m_dMany m_dText m_tape m_taped m_pos m_from m_sort m_value v3 n v6 v7 (0 : Int32))
 else
bd2 (fX9_wants n m_from v1 v2 (1 : Int32) (5 : Int32)) (fun v8 v9 => fX9_readWord_p53 n m_dLetters m_dWords m_dMany m_dText m_tape m_taped m_pos m_from m_sort m_value v3 n v8 v9 (0 : Int32)))
 else
fX9_readWord_p53 n m_dLetters m_dWords m_dMany m_dText m_tape m_taped m_pos m_from m_sort m_value v3 n v1 v2 (0 : Int32))))
def fX9_readWord (n : Nat) (m_dLetters : Nat → Int32) (m_dWords : Int32) (m_dMany : Nat → Int32) (m_dText : Nat → Int32) (m_tape : Nat → Int32) (m_taped : Int32) (m_pos : Int32) (m_from : Int32) (m_sort : Int32) (m_value : Int32) (m_fault : Int32) (m_wrongAt : Int32)  : Option (Int32 × (Nat → Int32) × (Nat → Int32) × Int32 × Int32 × Int32 × Int32 × Int32 × Int32) :=
(if m_sort = (1 : Int32) then
fX9_readWord_p14 n m_dLetters m_dWords m_dMany m_dText m_tape m_taped m_pos m_from m_sort m_value m_fault m_wrongAt (1 : Int32)
 else
fX9_readWord_p14 n m_dLetters m_dWords m_dMany m_dText m_tape m_taped m_pos m_from m_sort m_value m_fault m_wrongAt (0 : Int32))
def fX9_readAsk_p90 (n : Nat) (m_dWords : Int32) (m_dAsks : Int32) (m_dAsk : Nat → Int32) (m_tape : Nat → Int32) (m_taped : Int32) (m_pos : Int32) (m_from : Int32) (m_sort : Int32) (m_value : Int32) (m_fault : Int32) (m_wrongAt : Int32) (s0 : Int32) (s1 : Int32) (rec4 : Int32 → Int32 → Int32 → Int32 → Int32 → Int32 → Int32 → Int32 → Option (Int32 × (Nat → Int32) × Int32 × Int32 × Int32 × Int32 × Int32 × Int32)) : Option (Int32 × (Nat → Int32) × Int32 × Int32 × Int32 × Int32 × Int32 × Int32) :=
nm (s0 ||| s1) (fun v1 => bd6 (fX9_next n m_tape m_taped m_pos m_from m_sort m_value m_fault m_wrongAt) (fun v2 v3 v4 v5 v6 v7 => (if v4 = (4 : Int32) then
(if (1 : Int32) = 0 then
rec4 v2 v3 v4 v5 v6 v7 v1 (1 : Int32)
 else
bd6 (fX9_next n m_tape m_taped v2 v3 v4 v5 v6 v7) (fun v17 v18 v19 v20 v21 v22 => rec4 v17 v18 v19 v20 v21 v22 v1 (1 : Int32)))
 else
(if (0 : Int32) = 0 then
rec4 v2 v3 v4 v5 v6 v7 v1 (0 : Int32)
 else
bd6 (fX9_next n m_tape m_taped v2 v3 v4 v5 v6 v7) (fun v10 v11 v12 v13 v14 v15 => rec4 v10 v11 v12 v13 v14 v15 v1 (0 : Int32))))))
def fX9_readAsk_p68 (n : Nat) (m_dWords : Int32) (m_dAsks : Int32) (m_dAsk : Nat → Int32) (m_tape : Nat → Int32) (m_taped : Int32) (m_pos : Int32) (m_from : Int32) (m_sort : Int32) (m_value : Int32) (m_fault : Int32) (m_wrongAt : Int32) (x1 : Int32) (s1 : Int32) (rec4 : Int32 → Int32 → Int32 → Int32 → Int32 → Int32 → Int32 → Int32 → Option (Int32 × (Nat → Int32) × Int32 × Int32 × Int32 × Int32 × Int32 × Int32)) : Option (Int32 × (Nat → Int32) × Int32 × Int32 × Int32 × Int32 × Int32 × Int32) :=
bd2 (fX9_wants n m_from m_fault m_wrongAt s1 (3 : Int32)) (fun v1 v2 => (if v1 = 0 then
fX9_readAsk_p90 n m_dWords m_dAsks m_dAsk m_tape m_taped m_pos m_from m_sort m_value v1 v2 x1 ((1 : Int32) <<< (m_value &&& 31)) (rec4)
 else
fX9_readAsk_p90 n m_dWords m_dAsks m_dAsk m_tape m_taped m_pos m_from m_sort m_value v1 v2 x1 (0 : Int32) (rec4)))
def fX9_readAsk_p29 (n : Nat) (m_dWords : Int32) (m_dAsks : Int32) (m_dAsk : Nat → Int32) (m_tape : Nat → Int32) (m_taped : Int32) (m_pos : Int32) (m_from : Int32) (m_sort : Int32) (m_value : Int32) (m_fault : Int32) (m_wrongAt : Int32) (x1 : Int32) (s1 : Int32) (rec4 : Int32 → Int32 → Int32 → Int32 → Int32 → Int32 → Int32 → Int32 → Option (Int32 × (Nat → Int32) × Int32 × Int32 × Int32 × Int32 × Int32 × Int32)) : Option (Int32 × (Nat → Int32) × Int32 × Int32 × Int32 × Int32 × Int32 × Int32) :=
bd2 (fX9_wants n m_from m_fault m_wrongAt s1 (2 : Int32)) (fun v1 v2 => (if v1 = 0 then
(if m_dWords ≤ m_value then
fX9_readAsk_p68 n m_dWords m_dAsks m_dAsk m_tape m_taped m_pos m_from m_sort m_value v1 v2 x1 (0 : Int32) (rec4)
 else
(if ((x1 >>> (m_value &&& 31)) &&& (1 : Int32)) = 0 then
fX9_readAsk_p68 n m_dWords m_dAsks m_dAsk m_tape m_taped m_pos m_from m_sort m_value v1 v2 x1 (1 : Int32) (rec4)
 else
fX9_readAsk_p68 n m_dWords m_dAsks m_dAsk m_tape m_taped m_pos m_from m_sort m_value v1 v2 x1 (0 : Int32) (rec4)))
 else
(if v1 = 0 then
fX9_readAsk_p90 n m_dWords m_dAsks m_dAsk m_tape m_taped m_pos m_from m_sort m_value v1 v2 x1 ((1 : Int32) <<< (m_value &&& 31)) (rec4)
 else
fX9_readAsk_p90 n m_dWords m_dAsks m_dAsk m_tape m_taped m_pos m_from m_sort m_value v1 v2 x1 (0 : Int32) (rec4))))
def fX9_readAsk_p121 (n : Nat) (m_dAsks : Int32) (m_dAsk : Nat → Int32) (m_pos : Int32) (m_from : Int32) (m_sort : Int32) (m_value : Int32) (m_fault : Int32) (m_wrongAt : Int32) (x1 : Int32)   : Option (Int32 × (Nat → Int32) × Int32 × Int32 × Int32 × Int32 × Int32 × Int32) :=
(if m_fault = 0 then
aw m_dAsks 6 m_dAsk x1 (fun f2 => nm (m_dAsks + (1 : Int32)) (fun v3 => some (v3, f2, m_pos, m_from, m_sort, m_value, m_fault, m_wrongAt)))
 else
some (m_dAsks, m_dAsk, m_pos, m_from, m_sort, m_value, m_fault, m_wrongAt))
def fX9_readAsk_p4 (n : Nat) (m_dWords : Int32) (m_dAsks : Int32) (m_dAsk : Nat → Int32) (m_tape : Nat → Int32) (m_taped : Int32)  : Nat → Int32 → Int32 → Int32 → Int32 → Int32 → Int32 → Int32 → Int32 → Option (Int32 × (Nat → Int32) × Int32 × Int32 × Int32 × Int32 × Int32 × Int32)
  | 0, _, _, _, _, _, _, _, _ => none
  | k + 1, m_pos, m_from, m_sort, m_value, m_fault, m_wrongAt, x1, x2 =>
    (if x2 = 0 then
    fX9_readAsk_p121 n m_dAsks m_dAsk m_pos m_from m_sort m_value m_fault m_wrongAt x1
     else
    (if m_fault = 0 then
    (if m_sort = (2 : Int32) then
    fX9_readAsk_p29 n m_dWords m_dAsks m_dAsk m_tape m_taped m_pos m_from m_sort m_value m_fault m_wrongAt x1 (1 : Int32) (fX9_readAsk_p4 n m_dWords m_dAsks m_dAsk m_tape m_taped k)
     else
    fX9_readAsk_p29 n m_dWords m_dAsks m_dAsk m_tape m_taped m_pos m_from m_sort m_value m_fault m_wrongAt x1 (0 : Int32) (fX9_readAsk_p4 n m_dWords m_dAsks m_dAsk m_tape m_taped k))
     else
    fX9_readAsk_p121 n m_dAsks m_dAsk m_pos m_from m_sort m_value m_fault m_wrongAt x1))
def fX9_readAsk (n : Nat) (m_dWords : Int32) (m_dAsks : Int32) (m_dAsk : Nat → Int32) (m_tape : Nat → Int32) (m_taped : Int32) (m_pos : Int32) (m_from : Int32) (m_sort : Int32) (m_value : Int32) (m_fault : Int32) (m_wrongAt : Int32)  : Option (Int32 × (Nat → Int32) × Int32 × Int32 × Int32 × Int32 × Int32 × Int32) :=
fX9_readAsk_p4 n m_dWords m_dAsks m_dAsk m_tape m_taped n m_pos m_from m_sort m_value m_fault m_wrongAt (0 : Int32) (1 : Int32)
def fX9_readLine_p138 (n : Nat) (m_dLetters : Nat → Int32) (m_dWords : Int32) (m_dMany : Nat → Int32) (m_dText : Nat → Int32) (m_dAsks : Int32) (m_dAsk : Nat → Int32) (m_tape : Nat → Int32) (m_taped : Int32) (m_pos : Int32) (m_from : Int32) (m_sort : Int32) (m_value : Int32) (m_fault : Int32) (m_wrongAt : Int32)   : Option ((Nat → Int32) × Int32 × (Nat → Int32) × (Nat → Int32) × Int32 × (Nat → Int32) × Int32 × Int32 × Int32 × Int32 × Int32 × Int32) :=
(if m_fault = 0 then
(if m_sort = (3 : Int32) then
bd2 (fX9_wants n m_from m_fault m_wrongAt (1 : Int32) (2 : Int32)) (fun v17 v18 => bd6 (fX9_next n m_tape m_taped m_pos m_from m_sort m_value v17 v18) (fun v19 v20 v21 v22 v23 v24 => some (m_dLetters, m_dWords, m_dMany, m_dText, m_dAsks, m_dAsk, v19, v20, v21, v22, v23, v24)))
 else
bd2 (fX9_wants n m_from m_fault m_wrongAt (0 : Int32) (2 : Int32)) (fun v9 v10 => bd6 (fX9_next n m_tape m_taped m_pos m_from m_sort m_value v9 v10) (fun v11 v12 v13 v14 v15 v16 => some (m_dLetters, m_dWords, m_dMany, m_dText, m_dAsks, m_dAsk, v11, v12, v13, v14, v15, v16))))
 else
bd6 (fX9_next n m_tape m_taped m_pos m_from m_sort m_value m_fault m_wrongAt) (fun v2 v3 v4 v5 v6 v7 => some (m_dLetters, m_dWords, m_dMany, m_dText, m_dAsks, m_dAsk, v2, v3, v4, v5, v6, v7)))
def fX9_readLine_p108 (n : Nat) (m_dLetters : Nat → Int32) (m_dWords : Int32) (m_dMany : Nat → Int32) (m_dText : Nat → Int32) (m_dAsks : Int32) (m_dAsk : Nat → Int32) (m_tape : Nat → Int32) (m_taped : Int32) (m_pos : Int32) (m_from : Int32) (m_sort : Int32) (m_value : Int32) (m_fault : Int32) (m_wrongAt : Int32) (x1 : Int32)   : Option ((Nat → Int32) × Int32 × (Nat → Int32) × (Nat → Int32) × Int32 × (Nat → Int32) × Int32 × Int32 × Int32 × Int32 × Int32 × Int32) :=
(if m_fault = 0 then
(if x1 = (4 : Int32) then
bd9 (fX9_readWord n m_dLetters m_dWords m_dMany m_dText m_tape m_taped m_pos m_from m_sort m_value m_fault m_wrongAt) (fun v21 f22 f23 v24 v25 v26 v27 v28 v29 => fX9_readLine_p138 n m_dLetters v21 f22 f23 m_dAsks m_dAsk m_tape m_taped v24 v25 v26 v27 v28 v29)
 else
(if m_fault = 0 then
bd8 (fX9_readAsk n m_dWords m_dAsks m_dAsk m_tape m_taped m_pos m_from m_sort m_value m_fault m_wrongAt) (fun v13 f14 v15 v16 v17 v18 v19 v20 => fX9_readLine_p138 n m_dLetters m_dWords m_dMany m_dText v13 f14 m_tape m_taped v15 v16 v17 v18 v19 v20)
 else
fX9_readLine_p138 n m_dLetters m_dWords m_dMany m_dText m_dAsks m_dAsk m_tape m_taped m_pos m_from m_sort m_value m_fault m_wrongAt))
 else
(if m_fault = 0 then
bd8 (fX9_readAsk n m_dWords m_dAsks m_dAsk m_tape m_taped m_pos m_from m_sort m_value m_fault m_wrongAt) (fun v3 f4 v5 v6 v7 v8 v9 v10 => fX9_readLine_p138 n m_dLetters m_dWords m_dMany m_dText v3 f4 m_tape m_taped v5 v6 v7 v8 v9 v10)
 else
fX9_readLine_p138 n m_dLetters m_dWords m_dMany m_dText m_dAsks m_dAsk m_tape m_taped m_pos m_from m_sort m_value m_fault m_wrongAt))
def fX9_readLine_p79 (n : Nat) (m_dLetters : Nat → Int32) (m_dWords : Int32) (m_dMany : Nat → Int32) (m_dText : Nat → Int32) (m_dAsks : Int32) (m_dAsk : Nat → Int32) (m_tape : Nat → Int32) (m_taped : Int32) (m_pos : Int32) (m_from : Int32) (m_sort : Int32) (m_value : Int32) (m_fault : Int32) (m_wrongAt : Int32) (x1 : Int32) (s1 : Int32)  : Option ((Nat → Int32) × Int32 × (Nat → Int32) × (Nat → Int32) × Int32 × (Nat → Int32) × Int32 × Int32 × Int32 × Int32 × Int32 × Int32) :=
bd2 (fX9_wants n m_from m_fault m_wrongAt s1 (6 : Int32)) (fun v1 v2 => bd6 (fX9_next n m_tape m_taped m_pos m_from m_sort m_value v1 v2) (fun v3 v4 v5 v6 v7 v8 => (if v7 = 0 then
(if (3 : Int32) < x1 then
fX9_readLine_p108 n m_dLetters m_dWords m_dMany m_dText m_dAsks m_dAsk m_tape m_taped v3 v4 v5 v6 v7 v8 x1
 else
bd7 (fX9_readLetter n m_dLetters m_tape m_taped v3 v4 v5 v6 v7 v8 x1) (fun f11 v12 v13 v14 v15 v16 v17 => fX9_readLine_p138 n f11 m_dWords m_dMany m_dText m_dAsks m_dAsk m_tape m_taped v12 v13 v14 v15 v16 v17))
 else
fX9_readLine_p108 n m_dLetters m_dWords m_dMany m_dText m_dAsks m_dAsk m_tape m_taped v3 v4 v5 v6 v7 v8 x1)))
def fX9_readLine_p54 (n : Nat) (m_dLetters : Nat → Int32) (m_dWords : Int32) (m_dMany : Nat → Int32) (m_dText : Nat → Int32) (m_dAsks : Int32) (m_dAsk : Nat → Int32) (m_tape : Nat → Int32) (m_taped : Int32) (m_pos : Int32) (m_from : Int32) (m_sort : Int32) (m_value : Int32) (m_fault : Int32) (m_wrongAt : Int32) (x1 : Int32) (s1 : Int32)  : Option ((Nat → Int32) × Int32 × (Nat → Int32) × (Nat → Int32) × Int32 × (Nat → Int32) × Int32 × Int32 × Int32 × Int32 × Int32 × Int32) :=
bd2 (fX9_wants n m_from m_fault m_wrongAt s1 (6 : Int32)) (fun v1 v2 => (if x1 = (5 : Int32) then
(if (6 : Int32) ≤ m_dAsks then
fX9_readLine_p79 n m_dLetters m_dWords m_dMany m_dText m_dAsks m_dAsk m_tape m_taped m_pos m_from m_sort m_value v1 v2 x1 (0 : Int32)
 else
fX9_readLine_p79 n m_dLetters m_dWords m_dMany m_dText m_dAsks m_dAsk m_tape m_taped m_pos m_from m_sort m_value v1 v2 x1 (1 : Int32))
 else
fX9_readLine_p79 n m_dLetters m_dWords m_dMany m_dText m_dAsks m_dAsk m_tape m_taped m_pos m_from m_sort m_value v1 v2 x1 (1 : Int32)))
def fX9_readLine_p30 (n : Nat) (m_dLetters : Nat → Int32) (m_dWords : Int32) (m_dMany : Nat → Int32) (m_dText : Nat → Int32) (m_dAsks : Int32) (m_dAsk : Nat → Int32) (m_tape : Nat → Int32) (m_taped : Int32) (m_pos : Int32) (m_from : Int32) (m_sort : Int32) (m_value : Int32) (m_fault : Int32) (m_wrongAt : Int32) (x1 : Int32) (s1 : Int32)  : Option ((Nat → Int32) × Int32 × (Nat → Int32) × (Nat → Int32) × Int32 × (Nat → Int32) × Int32 × Int32 × Int32 × Int32 × Int32 × Int32) :=
bd2 (fX9_wants n m_from m_fault m_wrongAt s1 (2 : Int32)) (fun v1 v2 => (if x1 = (4 : Int32) then
(if (16 : Int32) ≤ m_dWords then
fX9_readLine_p54 n m_dLetters m_dWords m_dMany m_dText m_dAsks m_dAsk m_tape m_taped m_pos m_from m_sort m_value v1 v2 x1 (0 : Int32)
 else
fX9_readLine_p54 n m_dLetters m_dWords m_dMany m_dText m_dAsks m_dAsk m_tape m_taped m_pos m_from m_sort m_value v1 v2 x1 (1 : Int32))
 else
fX9_readLine_p54 n m_dLetters m_dWords m_dMany m_dText m_dAsks m_dAsk m_tape m_taped m_pos m_from m_sort m_value v1 v2 x1 (1 : Int32)))
def fX9_readLine (n : Nat) (m_dLetters : Nat → Int32) (m_dWords : Int32) (m_dMany : Nat → Int32) (m_dText : Nat → Int32) (m_dAsks : Int32) (m_dAsk : Nat → Int32) (m_tape : Nat → Int32) (m_taped : Int32) (m_pos : Int32) (m_from : Int32) (m_sort : Int32) (m_value : Int32) (m_fault : Int32) (m_wrongAt : Int32)  : Option ((Nat → Int32) × Int32 × (Nat → Int32) × (Nat → Int32) × Int32 × (Nat → Int32) × Int32 × Int32 × Int32 × Int32 × Int32 × Int32) :=
(if m_sort = (1 : Int32) then
bd1 (fX9_lineNow n m_tape m_taped m_pos m_from m_sort) (fun v3 => (if v3 = (-4 : Int32) then
fX9_readLine_p30 n m_dLetters m_dWords m_dMany m_dText m_dAsks m_dAsk m_tape m_taped m_pos m_from m_sort m_value m_fault m_wrongAt v3 (0 : Int32)
 else
fX9_readLine_p30 n m_dLetters m_dWords m_dMany m_dText m_dAsks m_dAsk m_tape m_taped m_pos m_from m_sort m_value m_fault m_wrongAt v3 (1 : Int32)))
 else
(if (-4 : Int32) = (-4 : Int32) then
fX9_readLine_p30 n m_dLetters m_dWords m_dMany m_dText m_dAsks m_dAsk m_tape m_taped m_pos m_from m_sort m_value m_fault m_wrongAt (-4 : Int32) (0 : Int32)
 else
fX9_readLine_p30 n m_dLetters m_dWords m_dMany m_dText m_dAsks m_dAsk m_tape m_taped m_pos m_from m_sort m_value m_fault m_wrongAt (-4 : Int32) (1 : Int32)))
def fX9_tongue_p200 (n : Nat) (m_letters : Nat → Int32) (m_words : Int32) (m_wMany : Nat → Int32) (m_wLetters : Nat → Int32) (m_asks : Int32) (m_dLetters : Nat → Int32) (m_dWords : Int32) (m_dMany : Nat → Int32) (m_dText : Nat → Int32) (m_dAsks : Int32) (m_dAsk : Nat → Int32) (m_taped : Int32) (m_pos : Int32) (m_from : Int32) (m_sort : Int32) (m_value : Int32) (m_fault : Int32) (m_wrongAt : Int32)  : Nat → (Nat → Int32) → Int32 → Option (Int32 × (Nat → Int32) × Int32 × (Nat → Int32) × (Nat → Int32) × Int32 × (Nat → Int32) × (Nat → Int32) × Int32 × (Nat → Int32) × (Nat → Int32) × Int32 × (Nat → Int32) × Int32 × Int32 × Int32 × Int32 × Int32 × Int32 × Int32)
  | 0, _, _ => none
  | k + 1, m_aWords, x1 =>
    (if (6 : Int32) ≤ x1 then
    some (m_words, m_letters, m_words, m_wMany, m_wLetters, m_asks, m_aWords, m_dLetters, m_dWords, m_dMany, m_dText, m_dAsks, m_dAsk, m_taped, m_pos, m_from, m_sort, m_value, m_fault, m_wrongAt)
     else
    ar x1 6 m_dAsk (fun v2 => aw x1 6 m_aWords v2 (fun f3 => fX9_tongue_p200 n m_letters m_words m_wMany m_wLetters m_asks m_dLetters m_dWords m_dMany m_dText m_dAsks m_dAsk m_taped m_pos m_from m_sort m_value m_fault m_wrongAt k f3 (x1 + 1))))
def fX9_tongue_p173 (n : Nat) (m_letters : Nat → Int32) (m_words : Int32) (m_wMany : Nat → Int32) (m_asks : Int32) (m_aWords : Nat → Int32) (m_dLetters : Nat → Int32) (m_dWords : Int32) (m_dMany : Nat → Int32) (m_dText : Nat → Int32) (m_dAsks : Int32) (m_dAsk : Nat → Int32) (m_taped : Int32) (m_pos : Int32) (m_from : Int32) (m_sort : Int32) (m_value : Int32) (m_fault : Int32) (m_wrongAt : Int32)  : Nat → (Nat → Int32) → Int32 → Option (Int32 × (Nat → Int32) × Int32 × (Nat → Int32) × (Nat → Int32) × Int32 × (Nat → Int32) × (Nat → Int32) × Int32 × (Nat → Int32) × (Nat → Int32) × Int32 × (Nat → Int32) × Int32 × Int32 × Int32 × Int32 × Int32 × Int32 × Int32)
  | 0, _, _ => none
  | k + 1, m_wLetters, x1 =>
    (if (128 : Int32) ≤ x1 then
    fX9_tongue_p200 n m_letters m_words m_wMany m_wLetters m_asks m_dLetters m_dWords m_dMany m_dText m_dAsks m_dAsk m_taped m_pos m_from m_sort m_value m_fault m_wrongAt n m_aWords (0 : Int32)
     else
    ar x1 128 m_dText (fun v2 => aw x1 128 m_wLetters v2 (fun f3 => fX9_tongue_p173 n m_letters m_words m_wMany m_asks m_aWords m_dLetters m_dWords m_dMany m_dText m_dAsks m_dAsk m_taped m_pos m_from m_sort m_value m_fault m_wrongAt k f3 (x1 + 1))))
def fX9_tongue_p147 (n : Nat) (m_letters : Nat → Int32) (m_words : Int32) (m_wLetters : Nat → Int32) (m_asks : Int32) (m_aWords : Nat → Int32) (m_dLetters : Nat → Int32) (m_dWords : Int32) (m_dMany : Nat → Int32) (m_dText : Nat → Int32) (m_dAsks : Int32) (m_dAsk : Nat → Int32) (m_taped : Int32) (m_pos : Int32) (m_from : Int32) (m_sort : Int32) (m_value : Int32) (m_fault : Int32) (m_wrongAt : Int32)  : Nat → (Nat → Int32) → Int32 → Option (Int32 × (Nat → Int32) × Int32 × (Nat → Int32) × (Nat → Int32) × Int32 × (Nat → Int32) × (Nat → Int32) × Int32 × (Nat → Int32) × (Nat → Int32) × Int32 × (Nat → Int32) × Int32 × Int32 × Int32 × Int32 × Int32 × Int32 × Int32)
  | 0, _, _ => none
  | k + 1, m_wMany, x1 =>
    (if (16 : Int32) ≤ x1 then
    fX9_tongue_p173 n m_letters m_words m_wMany m_asks m_aWords m_dLetters m_dWords m_dMany m_dText m_dAsks m_dAsk m_taped m_pos m_from m_sort m_value m_fault m_wrongAt n m_wLetters (0 : Int32)
     else
    ar x1 16 m_dMany (fun v2 => aw x1 16 m_wMany v2 (fun f3 => fX9_tongue_p147 n m_letters m_words m_wLetters m_asks m_aWords m_dLetters m_dWords m_dMany m_dText m_dAsks m_dAsk m_taped m_pos m_from m_sort m_value m_fault m_wrongAt k f3 (x1 + 1))))
def fX9_tongue_p121 (n : Nat) (m_words : Int32) (m_wMany : Nat → Int32) (m_wLetters : Nat → Int32) (m_asks : Int32) (m_aWords : Nat → Int32) (m_dLetters : Nat → Int32) (m_dWords : Int32) (m_dMany : Nat → Int32) (m_dText : Nat → Int32) (m_dAsks : Int32) (m_dAsk : Nat → Int32) (m_taped : Int32) (m_pos : Int32) (m_from : Int32) (m_sort : Int32) (m_value : Int32) (m_fault : Int32) (m_wrongAt : Int32)  : Nat → (Nat → Int32) → Int32 → Option (Int32 × (Nat → Int32) × Int32 × (Nat → Int32) × (Nat → Int32) × Int32 × (Nat → Int32) × (Nat → Int32) × Int32 × (Nat → Int32) × (Nat → Int32) × Int32 × (Nat → Int32) × Int32 × Int32 × Int32 × Int32 × Int32 × Int32 × Int32)
  | 0, _, _ => none
  | k + 1, m_letters, x1 =>
    (if (26 : Int32) ≤ x1 then
    fX9_tongue_p147 n m_letters m_words m_wLetters m_asks m_aWords m_dLetters m_dWords m_dMany m_dText m_dAsks m_dAsk m_taped m_pos m_from m_sort m_value m_fault m_wrongAt n m_wMany (0 : Int32)
     else
    ar x1 26 m_dLetters (fun v2 => aw x1 26 m_letters v2 (fun f3 => fX9_tongue_p121 n m_words m_wMany m_wLetters m_asks m_aWords m_dLetters m_dWords m_dMany m_dText m_dAsks m_dAsk m_taped m_pos m_from m_sort m_value m_fault m_wrongAt k f3 (x1 + 1))))
def fX9_tongue_p83 (n : Nat) (m_letters : Nat → Int32) (m_words : Int32) (m_wMany : Nat → Int32) (m_wLetters : Nat → Int32) (m_asks : Int32) (m_aWords : Nat → Int32) (m_dLetters : Nat → Int32) (m_dWords : Int32) (m_dMany : Nat → Int32) (m_dText : Nat → Int32) (m_dAsks : Int32) (m_dAsk : Nat → Int32) (m_taped : Int32) (m_pos : Int32) (m_from : Int32) (m_sort : Int32) (m_value : Int32) (m_fault : Int32) (m_wrongAt : Int32)   : Option (Int32 × (Nat → Int32) × Int32 × (Nat → Int32) × (Nat → Int32) × Int32 × (Nat → Int32) × (Nat → Int32) × Int32 × (Nat → Int32) × (Nat → Int32) × Int32 × (Nat → Int32) × Int32 × Int32 × Int32 × Int32 × Int32 × Int32 × Int32) :=
(if m_fault ≤ 0 then
fX9_tongue_p121 n m_dWords m_wMany m_wLetters m_dAsks m_aWords m_dLetters m_dWords m_dMany m_dText m_dAsks m_dAsk (0 : Int32) m_pos m_from m_sort m_value m_fault m_wrongAt n m_letters (0 : Int32)
 else
some ((-10 : Int32) - m_wrongAt, m_letters, m_words, m_wMany, m_wLetters, m_asks, m_aWords, m_dLetters, m_dWords, m_dMany, m_dText, m_dAsks, m_dAsk, (0 : Int32), m_pos, m_from, m_sort, m_value, m_fault, m_wrongAt))
def fX9_tongue_p62 (n : Nat) (m_letters : Nat → Int32) (m_words : Int32) (m_wMany : Nat → Int32) (m_wLetters : Nat → Int32) (m_asks : Int32) (m_aWords : Nat → Int32) (m_tape : Nat → Int32) (m_taped : Int32)  : Nat → (Nat → Int32) → Int32 → (Nat → Int32) → (Nat → Int32) → Int32 → (Nat → Int32) → Int32 → Int32 → Int32 → Int32 → Int32 → Int32 → Option (Int32 × (Nat → Int32) × Int32 × (Nat → Int32) × (Nat → Int32) × Int32 × (Nat → Int32) × (Nat → Int32) × Int32 × (Nat → Int32) × (Nat → Int32) × Int32 × (Nat → Int32) × Int32 × Int32 × Int32 × Int32 × Int32 × Int32 × Int32)
  | 0, _, _, _, _, _, _, _, _, _, _, _, _ => none
  | k + 1, m_dLetters, m_dWords, m_dMany, m_dText, m_dAsks, m_dAsk, m_pos, m_from, m_sort, m_value, m_fault, m_wrongAt =>
    (if m_fault = 0 then
    (if m_sort = 0 then
    fX9_tongue_p83 n m_letters m_words m_wMany m_wLetters m_asks m_aWords m_dLetters m_dWords m_dMany m_dText m_dAsks m_dAsk m_taped m_pos m_from m_sort m_value m_fault m_wrongAt
     else
    bd12 (fX9_readLine n m_dLetters m_dWords m_dMany m_dText m_dAsks m_dAsk m_tape m_taped m_pos m_from m_sort m_value m_fault m_wrongAt) (fun f3 v4 f5 f6 v7 f8 v9 v10 v11 v12 v13 v14 => fX9_tongue_p62 n m_letters m_words m_wMany m_wLetters m_asks m_aWords m_tape m_taped k f3 v4 f5 f6 v7 f8 v9 v10 v11 v12 v13 v14))
     else
    fX9_tongue_p83 n m_letters m_words m_wMany m_wLetters m_asks m_aWords m_dLetters m_dWords m_dMany m_dText m_dAsks m_dAsk m_taped m_pos m_from m_sort m_value m_fault m_wrongAt)
def fX9_tongue_p39 (n : Nat) (m_letters : Nat → Int32) (m_words : Int32) (m_wMany : Nat → Int32) (m_wLetters : Nat → Int32) (m_asks : Int32) (m_aWords : Nat → Int32) (m_dWords : Int32) (m_dMany : Nat → Int32) (m_dText : Nat → Int32) (m_dAsks : Int32) (m_dAsk : Nat → Int32) (m_tape : Nat → Int32) (m_taped : Int32) (m_pos : Int32) (m_from : Int32) (m_sort : Int32) (m_value : Int32) (m_fault : Int32) (m_wrongAt : Int32)  : Nat → (Nat → Int32) → Int32 → Option (Int32 × (Nat → Int32) × Int32 × (Nat → Int32) × (Nat → Int32) × Int32 × (Nat → Int32) × (Nat → Int32) × Int32 × (Nat → Int32) × (Nat → Int32) × Int32 × (Nat → Int32) × Int32 × Int32 × Int32 × Int32 × Int32 × Int32 × Int32)
  | 0, _, _ => none
  | k + 1, m_dLetters, x1 =>
    (if (26 : Int32) ≤ x1 then
    bd6 (fX9_next n m_tape m_taped m_pos m_from m_sort m_value m_fault m_wrongAt) (fun v2 v3 v4 v5 v6 v7 => fX9_tongue_p62 n m_letters m_words m_wMany m_wLetters m_asks m_aWords m_tape m_taped n m_dLetters m_dWords m_dMany m_dText m_dAsks m_dAsk v2 v3 v4 v5 v6 v7)
     else
    aw x1 26 m_dLetters (-1 : Int32) (fun f8 => fX9_tongue_p39 n m_letters m_words m_wMany m_wLetters m_asks m_aWords m_dWords m_dMany m_dText m_dAsks m_dAsk m_tape m_taped m_pos m_from m_sort m_value m_fault m_wrongAt k f8 (x1 + 1)))
def fX9_tongue (n : Nat) (m_letters : Nat → Int32) (m_words : Int32) (m_wMany : Nat → Int32) (m_wLetters : Nat → Int32) (m_asks : Int32) (m_aWords : Nat → Int32) (m_dLetters : Nat → Int32) (m_dWords : Int32) (m_dMany : Nat → Int32) (m_dText : Nat → Int32) (m_dAsks : Int32) (m_dAsk : Nat → Int32) (m_tape : Nat → Int32) (m_taped : Int32) (m_pos : Int32) (m_from : Int32) (m_sort : Int32) (m_value : Int32) (m_fault : Int32) (m_wrongAt : Int32) (m_calls : Int32) (m_children : Int32)  : Option (Int32 × (Nat → Int32) × Int32 × (Nat → Int32) × (Nat → Int32) × Int32 × (Nat → Int32) × (Nat → Int32) × Int32 × (Nat → Int32) × (Nat → Int32) × Int32 × (Nat → Int32) × Int32 × Int32 × Int32 × Int32 × Int32 × Int32 × Int32) :=
(if 0 < m_calls then
some ((-2 : Int32), m_letters, m_words, m_wMany, m_wLetters, m_asks, m_aWords, m_dLetters, m_dWords, m_dMany, m_dText, m_dAsks, m_dAsk, m_taped, m_pos, m_from, m_sort, m_value, m_fault, m_wrongAt)
 else
(if m_children ≤ 0 then
fX9_tongue_p39 n m_letters m_words m_wMany m_wLetters m_asks m_aWords (0 : Int32) m_dMany m_dText (0 : Int32) m_dAsk m_tape m_taped (0 : Int32) m_from m_sort m_value (0 : Int32) m_wrongAt n m_dLetters (0 : Int32)
 else
some ((-2 : Int32), m_letters, m_words, m_wMany, m_wLetters, m_asks, m_aWords, m_dLetters, m_dWords, m_dMany, m_dText, m_dAsks, m_dAsk, m_taped, m_pos, m_from, m_sort, m_value, m_fault, m_wrongAt)))
