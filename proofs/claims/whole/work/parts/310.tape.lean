/-! THE TAPE: feed, end -/
def RT (T : Nat) (tp_bytes : Nat → Int32) (tp_size : Int32) (m_tape : Nat → Int32) (m_taped : Int32) : Prop :=
  T ≤ 400 ∧ tp_size = nI T ∧ m_taped = nI T ∧ ∀ i, i < 400 → ∃ b, b < 256 ∧ m_tape i = nI b ∧ tp_bytes i = (nI b).toInt8.toInt32
/-- the long by a shift -/
def shv (v : Int64) (s : Nat) : Int64 := v >>> ((nI s).toInt64 &&& 63)
theorem shv_byte (w : Int64) : ∃ b, b < 256 ∧ (w &&& 255).toInt32 = nI b ∧ vp_nar .byte (w.toInt32.toInt8.toInt32) = (nI b).toInt8.toInt32 := by
  obtain ⟨b, hb, e⟩ := pk_andE w.toInt32 (m := 255) 8 (by decide)
  refine ⟨b, hb, ?_, ?_⟩
  · rw [Int64.toInt32_and]
    exact e
  · rw [pk_vb, ← e, fa_byte_low]
theorem X_eight (n T : Nat) (v : Int64) (hT : T + 8 ≤ 400) : ∀ (r k : Nat) (f : Nat → Int32), r ≤ 8 → r < k → ∃ f', fX5_addEight_p14 n (nI T) v k f (nI (8 - r)) = some (1, f', nI (T + 8)) ∧ (∀ j, (j < T + (8 - r) ∨ T + 8 ≤ j) → f' j = f j) ∧ ∀ t, 8 - r ≤ t → t < 8 → f' (T + t) = vp_nar .byte ((shv v (56 - 8 * t)).toInt32.toInt8.toInt32) := by
  intro r
  induction r with
  | zero =>
    intro k f _ hk
    obtain ⟨k, rfl⟩ : ∃ q, k = q + 1 := ⟨k - 1, by omega⟩
    refine ⟨f, ?_, fun _ _ => rfl, fun t h1 h2 => absurd h1 (by omega)⟩
    rw [fX5_addEight_p14, if_pos (by decide), nm, show (8 : Int32) = nI 8 from rfl, nI_add]
  | succ r ih =>
    intro k f hr hk
    obtain ⟨k, rfl⟩ : ∃ q, k = q + 1 := ⟨k - 1, by omega⟩
    obtain ⟨f', h1, h2, h3⟩ := ih k (upd f (T + (8 - (r + 1))) (vp_nar .byte ((shv v (56 - 8 * (8 - (r + 1)))).toInt32.toInt8.toInt32))) (by omega) (by omega)
    refine ⟨f', ?_, fun j hj => ?_, fun t ht1 ht2 => ?_⟩
    · rw [fX5_addEight_p14, show (8 : Int32) = nI 8 from rfl, if_neg (nI_ge (by omega) (by decide)), show (56 : Int32) = nI 56 from rfl, pk_mul, pk_sub (by omega), nI_add, aw_nI (by omega) (by decide), nI_1, show 8 - (r + 1) + 1 = 8 - r from by omega]
      exact h1
    · rw [h2 j (by omega), pk_un (by omega)]
    · by_cases q : t = 8 - (r + 1)
      · subst q
        rw [h2 _ (by omega), pk_us]
      · exact h3 t (by omega) ht2
theorem sM_pos {r : Nat} (h : 0 < r) : nI (8 * r) + (-8) = nI (8 * (r - 1)) := by
  obtain ⟨r, rfl⟩ : ∃ q, r = q + 1 := ⟨r - 1, by omega⟩
  rw [show 8 * (r + 1) = 8 * r + 8 from by omega, ← nI_add, Int32.add_assoc]
  show nI (8 * r) + (0 : Int32) = _
  rw [Int32.add_zero, Nat.add_sub_cancel]
theorem M_eight (n : Nat) (v : Int64) : ∀ (r k T : Nat) (f : Nat → Int32), r ≤ 8 → r < k → T + r ≤ 400 → ∃ f', fX9_feed_p19 n v k f (nI T) (nI (8 * r) + (-8)) = some (nI (T + r), f', nI (T + r)) ∧ (∀ j, (j < T ∨ T + r ≤ j) → f' j = f j) ∧ ∀ t, t < r → f' (T + t) = (shv v (8 * (r - 1 - t)) &&& 255).toInt32 := by
  intro r
  induction r with
  | zero =>
    intro k T f _ hk hT
    obtain ⟨k, rfl⟩ : ∃ q, k = q + 1 := ⟨k - 1, by omega⟩
    refine ⟨f, ?_, fun _ _ => rfl, fun t h2 => absurd h2 (by omega)⟩
    rw [fX9_feed_p19, if_pos (by decide)]
    rfl
  | succ r ih =>
    intro k T f hr hk hT
    obtain ⟨k, rfl⟩ : ∃ q, k = q + 1 := ⟨k - 1, by omega⟩
    obtain ⟨f', h1, h2, h3⟩ := ih k (T + 1) (upd f T ((shv v (8 * r) &&& 255).toInt32)) (by omega) (by omega) (by omega)
    refine ⟨f', ?_, fun j hj => ?_, fun t ht2 => ?_⟩
    · rw [fX9_feed_p19, sM_pos (by omega), show r + 1 - 1 = r from rfl, if_neg (nI_pos (by omega)), aw_nI (by omega) (by decide), nm, nI_1, show T + (r + 1) = T + 1 + r from by omega]
      exact h1
    · rw [h2 j (by omega), pk_un (by omega)]
    · by_cases q : t = 0
      · subst q
        rw [h2 _ (by omega), Nat.add_zero, pk_us]
        rfl
      · have := h3 (t - 1) (by omega)
        rw [show T + 1 + (t - 1) = T + t from by omega, show 8 * (r - 1 - (t - 1)) = 8 * (r + 1 - 1 - t) from by omega] at this
        exact this
theorem P_feed {n T : Nat} (hn : 1000 ≤ n) {tp_bytes m_tape : Nat → Int32} {tp_size m_taped : Int32} (h : RT T tp_bytes tp_size m_tape m_taped) (v : Int64) :
    ∃ (r : Int32) (f g : Nat → Int32) (a b : Int32) (T' : Nat), fX8_feed n tp_bytes tp_size v = some (r, f, a) ∧ fX9_feed n m_tape m_taped v = some (r, g, b) ∧ RT T' f a g b := by
  obtain ⟨hT, rfl, rfl, hb⟩ := h
  by_cases q : T + 8 ≤ 400
  · obtain ⟨f, x1, x2, x3⟩ := X_eight n T v q 8 n tp_bytes (by omega) (by omega)
    obtain ⟨g, y1, y2, y3⟩ := M_eight n v 8 n T m_tape (by omega) (by omega) q
    refine ⟨nI (T + 8), f, g, nI (T + 8), nI (T + 8), T + 8, ?_, ?_, q, rfl, rfl, fun i hi => ?_⟩
    · unfold fX8_feed fX5_addEight
      rw [show (392 : Int32) = nI 392 from rfl, if_pos (nI_le (by omega) (by decide))]
      have x1' : fX5_addEight_p14 n (nI T) v n tp_bytes 0 = some (1, f, nI (T + 8)) := x1
      rw [x1', bd3_some, if_neg (by decide)]
    · unfold fX9_feed
      rw [show (8 : Int32) = nI 8 from rfl, nI_add, show (400 : Int32) = nI 400 from rfl, if_pos (nI_le q (by decide))]
      exact y1
    · by_cases z : T ≤ i ∧ i < T + 8
      · obtain ⟨t, rfl⟩ : ∃ t, i = T + t := ⟨i - T, by omega⟩
        rw [x3 t (by omega) (by omega), y3 t (by omega), show 8 * (8 - 1 - t) = 56 - 8 * t from by omega]
        exact shv_byte _
      · rw [x2 i (by omega), y2 i (by omega)]
        exact hb i hi
  · refine ⟨-3, tp_bytes, m_tape, nI T, nI T, T, ?_, ?_, hT, rfl, rfl, hb⟩
    · unfold fX8_feed fX5_addEight
      rw [show (392 : Int32) = nI 392 from rfl, if_neg (nI_ge (by omega) (by omega)), bd3_some, if_pos rfl]
    · unfold fX9_feed
      rw [show (8 : Int32) = nI 8 from rfl, nI_add, show (400 : Int32) = nI 400 from rfl, if_neg (nI_ge (by omega) (by omega))]
theorem P_end {n T : Nat} {tp_bytes m_tape : Nat → Int32} {tp_size m_taped : Int32} (h : RT T tp_bytes tp_size m_tape m_taped) (x : Int32) :
    ∃ (r a b : Int32) (T' : Nat), fX8_end n tp_size x = some (r, a) ∧ fX9_end n m_taped x = some (r, b) ∧ RT T' tp_bytes a m_tape b := by
  obtain ⟨hT, rfl, rfl, hb⟩ := h
  unfold fX8_end fX9_end
  rw [M_in, i32_64, i32_64, show (0 : Int64).toInt = 0 from rfl, nI_toInt (by omega)]
  rcases ixc x (T + 1) with ⟨j, hj, rfl⟩ | hx
  · refine ⟨nI T, nI j, nI j, j, ?_, ?_, by omega, rfl, rfl, hb⟩
    · rw [if_neg (nI_pos (by omega)), if_pos (nI_le (by omega) (by omega))]
    · rw [nI_toInt (by omega), if_pos (by omega), bd1_some, if_neg (by decide)]
  · refine ⟨-1, nI T, nI T, T, ?_, ?_, hT, rfl, rfl, hb⟩
    · unfold inR at hx
      by_cases h0 : x < 0
      · rw [if_pos h0]
      · rw [if_neg h0, if_neg]
        rw [lt0_iff] at h0
        rw [lenI_iff (by omega)]
        omega
    · unfold inR at hx
      rw [if_neg (by omega), bd1_some, if_pos rfl]
