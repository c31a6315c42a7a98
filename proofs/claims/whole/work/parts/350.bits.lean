/-! sets of numbers as masks; how many they hold -/
def mk (p : Nat → Bool) : Nat → Nat
  | 0 => 0
  | k + 1 => mk p k + if p k then 2 ^ k else 0
theorem mk_lt (p : Nat → Bool) : ∀ n, mk p n < 2 ^ n
  | 0 => Nat.one_pos
  | k + 1 => by
    have h := mk_lt p k
    rw [mk, Nat.pow_succ]
    split <;> omega
theorem mk_bit (p : Nat → Bool) : ∀ n j, (mk p n).testBit j = (decide (j < n) && p j)
  | 0, j => by simp [mk]
  | k + 1, j => by
    have h := mk_bit p k j
    have hl := mk_lt p k
    rw [mk]
    by_cases hp : p k = true
    · rw [if_pos hp, Nat.add_comm]
      by_cases e : j = k
      · subst e
        rw [Nat.testBit_two_pow_add_eq, h]
        simp [hp]
      · by_cases lt : j < k
        · rw [Nat.testBit_two_pow_add_gt lt, h]
          simp [lt, Nat.lt_succ_of_lt lt]
        · have hb : mk p k + 2 ^ k < 2 ^ (k + 1) := by rw [Nat.pow_succ]; omega
          rw [Nat.add_comm, Nat.testBit_lt_two_pow (Nat.lt_of_lt_of_le hb (Nat.pow_le_pow_right (by decide) (by omega)))]
          have : ¬ j < k + 1 := by omega
          simp [this]
    · rw [if_neg hp, Nat.add_zero, h]
      by_cases e : j = k
      · subst e
        simp [hp]
      · by_cases lt : j < k
        · simp [lt, Nat.lt_succ_of_lt lt]
        · have : ¬ j < k + 1 := by omega
          simp [lt, this]
theorem mk_cong {p q : Nat → Bool} : ∀ {n : Nat}, (∀ k, k < n → p k = q k) → mk p n = mk q n
  | 0, _ => rfl
  | n + 1, h => by rw [mk, mk, mk_cong (fun k hk => h k (by omega)), h n (by omega)]
/-- a mask is told by its bits -/
theorem msk_ext {a b N : Nat} (ha : a < 2 ^ N) (hb : b < 2 ^ N) (h : ∀ j, j < N → a.testBit j = b.testBit j) : a = b := by
  apply Nat.eq_of_testBit_eq
  intro j
  by_cases q : j < N
  · exact h j q
  · rw [Nat.testBit_lt_two_pow (Nat.lt_of_lt_of_le ha (Nat.pow_le_pow_right (by decide) (by omega))), Nat.testBit_lt_two_pow (Nat.lt_of_lt_of_le hb (Nat.pow_le_pow_right (by decide) (by omega)))]
theorem mk_self {m N : Nat} (h : m < 2 ^ N) : mk (fun k => m.testBit k) N = m := by
  refine msk_ext (mk_lt _ _) h (fun j hj => ?_)
  rw [mk_bit]
  simp [hj]
theorem shl1 {k : Nat} (hk : k < 31) : (1 : Int32) <<< (nI k &&& 31) = nI (2 ^ k) := by
  have h := pk_shlN (n := 1) (nI k &&& 31) k (s_l k (by omega)) (by rw [Nat.one_mul]; exact Nat.pow_lt_pow_right (by decide) (by omega))
  rw [Nat.one_mul] at h
  exact h
theorem or_bit {a k : Nat} (ha : a < 2 ^ k) : nI a ||| nI (2 ^ k) = nI (a + 2 ^ k) := by
  have h := fa_or_sum (a := a) (k := k) 1 ha
  rw [Nat.mul_one] at h
  rw [Int32.or_comm, h, Nat.add_comm]
theorem or_mk {p : Nat → Bool} {k : Nat} (hk : k < 31) (hp : p k = true) : nI (mk p k) ||| ((1 : Int32) <<< (nI k &&& 31)) = nI (mk p (k + 1)) := by
  rw [shl1 hk, or_bit (mk_lt p k), mk, if_pos hp]
theorem mk_no {p : Nat → Bool} {k : Nat} (hp : p k = false) : mk p (k + 1) = mk p k := by
  rw [mk, hp]
  rfl
theorem bitv {m k : Nat} (hm : m < 2147483648) (hk : k < 31) : (nI m >>> (nI k &&& 31)) &&& 1 = nI (if m.testBit k then 1 else 0) := by
  rw [pk_shrN (by omega) (nI k &&& 31) k (s_l k (by omega)), pk_andN (m := 1) (Nat.lt_of_le_of_lt (Nat.div_le_self _ _) (by omega)) 1 (by decide), Nat.testBit_eq_decide_div_mod_eq]
  congr 1
  by_cases q : m / 2 ^ k % 2 = 1
  · simp [q]
  · simp [q]
    omega
theorem bitv1 {m k : Nat} (hm : m < 2147483648) (hk : k < 31) : ((nI m >>> (nI k &&& 31)) &&& 1 = (1 : Int32)) ↔ m.testBit k = true := by
  rw [bitv hm hk]
  by_cases q : m.testBit k = true
  · simp [q]
    decide
  · simp [q]
    decide
theorem bitv0 {m k : Nat} (hm : m < 2147483648) (hk : k < 31) : ((nI m >>> (nI k &&& 31)) &&& 1 = (0 : Int32)) ↔ m.testBit k = false := by
  rw [bitv hm hk]
  by_cases q : m.testBit k = true
  · simp [q]
    decide
  · simp [q]
    decide
theorem X_isIn {n m k : Nat} (hm : m < 2147483648) (hk : k < 31) : fX8_isIn n (nI m) (nI k) = some (if m.testBit k then 1 else 0) := by
  unfold fX8_isIn
  by_cases q : m.testBit k = true
  · rw [if_neg (by rw [bitv0 hm hk, q]; decide), if_pos q]
  · rw [if_pos (by rw [bitv0 hm hk]; simpa using q), if_neg q]
/-! how many -/
def ct (m : Nat) : Nat := fb_ct (fun k => m.testBit k) 16
theorem ct_mk {p : Nat → Bool} {N : Nat} (hN : N ≤ 16) : ct (mk p N) = fb_ct p N := by
  unfold ct
  have h : ∀ d, N + d ≤ 16 → fb_ct (fun k => (mk p N).testBit k) (N + d) = fb_ct p N := by
    intro d
    induction d with
    | zero => intro _; exact fb_ct_cong (fun k hk => by rw [mk_bit]; simp; intro q; omega)
    | succ d ih =>
      intro hd
      rw [show N + (d + 1) = N + d + 1 from rfl, fb_ct_succ, ih (by omega), mk_bit]
      have : ¬ N + d < N := by omega
      simp [this]
  have := h (16 - N) (by omega)
  rw [show N + (16 - N) = 16 from by omega] at this
  exact this
theorem ct_le (m : Nat) : ct m ≤ 16 := fb_ct_le _ _
theorem M_bits {n m : Nat} (hn : 1000 ≤ n) (hm : m < 65536) : fX9_bits n (nI m) = some (nI (ct m)) := by
  unfold fX9_bits
  have h : ∀ (d k r : Nat), r + d = 16 → d < k → fX9_bits_p4 n (nI m) k (nI (fb_ct (fun k => m.testBit k) r)) (nI r) = some (nI (ct m)) := by
    intro d
    induction d with
    | zero =>
      intro k r hr hk
      obtain ⟨k, rfl⟩ : ∃ q, k = q + 1 := ⟨k - 1, by omega⟩
      rw [fX9_bits_p4, show r = 16 from by omega, if_pos (by decide)]
      rfl
    | succ d ih =>
      intro k r hr hk
      obtain ⟨k, rfl⟩ : ∃ q, k = q + 1 := ⟨k - 1, by omega⟩
      have hi := ih k (r + 1) (by omega) (by omega)
      rw [fX9_bits_p4, show (16 : Int32) = nI 16 from rfl, if_neg (nI_ge (by omega) (by decide)), nm, bitv (by omega) (by omega), nI_add, nI_1]
      rw [fb_ct_succ] at hi
      exact hi
  exact h 16 n 0 (by omega) (by omega)
theorem bcN_ct {m : Nat} (hm : m < 65536) : bcN m = ct m := by
  have h := chk1_use (h := m / 256) (N := 256) (l := m % 256) (chk2_use (N := 256) (h := m / 256) chk2_ok (by omega)) (by omega)
  rw [show m / 256 * 256 + m % 256 = m from by omega] at h
  rw [h]
  unfold ct ctN
  have t : ∀ k, (if m.testBit k then 1 else 0) = m / 2 ^ k % 2 := by
    intro k
    rw [Nat.testBit_eq_decide_div_mod_eq]
    by_cases q : m / 2 ^ k % 2 = 1
    · simp [q]
    · simp [q]; omega
  simp only [fb_ct, t]
theorem J_bitCount {n m : Nat} (hm : m < 65536) : fJ6_bitCount_0f7a4 n (nI m) = some (nI (ct m)) := by
  rw [← bcN_ct hm]
  unfold fJ6_bitCount_0f7a4 bcN
  have u : ∀ {x : Nat} (k : Nat), x < 4294967296 → k < 32 → ((nI x).toUInt32 >>> ((nI k).toUInt32 &&& Int32.toUInt32 31)).toInt32 = nI (x / 2 ^ k) := fun k hx hk => pk_ushrN hx (nI k) k (s_u k hk)
  have l1 : m / 2 &&& 1431655765 ≤ m / 2 := Nat.and_le_left
  generalize hA1 : m - (m / 2 &&& 1431655765) = a1
  have b1 : a1 < 65536 := by omega
  have l2 : a1 &&& 858993459 ≤ a1 := Nat.and_le_left
  have l3 : a1 / 4 &&& 858993459 ≤ a1 / 4 := Nat.and_le_left
  generalize hA2 : (a1 &&& 858993459) + (a1 / 4 &&& 858993459) = a2
  have b2 : a2 < 131072 := by omega
  have l4 : (a2 + a2 / 16) &&& 252645135 ≤ a2 + a2 / 16 := Nat.and_le_left
  generalize hA3 : (a2 + a2 / 16) &&& 252645135 = a3
  have b3 : a3 < 262144 := by omega
  generalize hA4 : a3 + a3 / 256 = a4
  have b4 : a4 < 524288 := by omega
  simp only [nm]
  have e1 : nI m - (((nI m).toUInt32 >>> ((1 : Int32).toUInt32 &&& Int32.toUInt32 31)).toInt32 &&& 1431655765) = nI a1 := by
    rw [i1nI, u 1 (by omega) (by decide), show (1431655765 : Int32) = nI 1431655765 from rfl, fa_and, pk_sub (by rw [Nat.pow_one]; omega), Nat.pow_one, hA1]
  rw [e1]
  have e2 : (nI a1 &&& 858993459) + (((nI a1).toUInt32 >>> ((2 : Int32).toUInt32 &&& Int32.toUInt32 31)).toInt32 &&& 858993459) = nI a2 := by
    rw [show (2 : Int32) = nI 2 from rfl, u 2 (by omega) (by decide), show (858993459 : Int32) = nI 858993459 from rfl, fa_and, fa_and, nI_add, show 2 ^ 2 = 4 from rfl, hA2]
  rw [e2]
  have e3 : (nI a2 + ((nI a2).toUInt32 >>> ((4 : Int32).toUInt32 &&& Int32.toUInt32 31)).toInt32) &&& 252645135 = nI a3 := by
    rw [show (4 : Int32) = nI 4 from rfl, u 4 (by omega) (by decide), show (252645135 : Int32) = nI 252645135 from rfl, nI_add, fa_and, show 2 ^ 4 = 16 from rfl, hA3]
  rw [e3]
  have e4 : nI a3 + ((nI a3).toUInt32 >>> ((8 : Int32).toUInt32 &&& Int32.toUInt32 31)).toInt32 = nI a4 := by
    rw [show (8 : Int32) = nI 8 from rfl, u 8 (by omega) (by decide), nI_add, show 2 ^ 8 = 256 from rfl, hA4]
  rw [e4]
  have e5 : nI a4 + ((nI a4).toUInt32 >>> ((16 : Int32).toUInt32 &&& Int32.toUInt32 31)).toInt32 = nI (a4 + a4 / 65536) := by
    rw [show (16 : Int32) = nI 16 from rfl, u 16 (by omega) (by decide), nI_add]
  rw [e5, show (63 : Int32) = nI 63 from rfl, fa_and, hA2, hA3, hA4]
