/-! the text: the first word of a line -/
section KY
def wdL : List (List Nat) := [[104, 105, 103, 104], [115, 116, 111, 112], [103, 108, 105, 100, 101], [109, 117, 116, 101], [119, 111, 114, 100], [97, 115, 107]]
def wN (k j : Nat) : Nat := (wdL.getD k []).getD j 0
theorem wN_ch : ∀ k, k < 6 → ∀ j, j < lenS k → chS k j = nI (wN k j) ∧ wN k j < 128 := by decide +kernel
theorem lenS_le : ∀ k, k < 6 → lenS k ≤ 5 := by decide
variable {n T : Nat} {tx : Nat → Nat} {tb mt : Nat → Int32} {s L : Nat}
/-- the word at s is the k-th of the six -/
def isK (tx : Nat → Nat) (s L k : Nat) : Prop := L = lenS k ∧ ∀ i, i < L → tx (s + i) = wN k i
theorem X_spells (hn : 1000 ≤ n) (h : TX T tx tb mt) (hl : ∀ i, s ≤ i → i < s + L → isL (tx i)) (hT : s + L ≤ T) {k : Nat} (hk : k < 6) : (isK tx s L k → fX6_spells n tb (nI s) (nI (s + L)) (lenS k) (chS k) = some 1) ∧ (¬ isK tx s L k → fX6_spells n tb (nI s) (nI (s + L)) (lenS k) (chS k) = some 0) := by
  have h1 := h.1
  have l5 := lenS_le k hk
  unfold fX6_spells
  rw [pk_sub (by omega), show s + L - s = L from by omega, show Int32.ofNat (lenS k) = nI (lenS k) from rfl]
  by_cases z : L = lenS k
  · rw [if_pos (by rw [z])]
    have loop : ∀ (d m i : Nat), i + d = L → d < m → ((∀ j, i ≤ j → j < L → tx (s + j) = wN k j) → fX6_spells_p20 n tb (nI s) (lenS k) (chS k) m (nI i) = some 1) ∧ ((∃ j, i ≤ j ∧ j < L ∧ ¬ tx (s + j) = wN k j) → fX6_spells_p20 n tb (nI s) (lenS k) (chS k) m (nI i) = some 0) := by
      intro d
      induction d with
      | zero =>
        intro m i hi hm
        obtain ⟨m, rfl⟩ : ∃ q, m = q + 1 := ⟨m - 1, by omega⟩
        rw [fX6_spells_p20, show Int32.ofNat (lenS k) = nI (lenS k) from rfl, if_pos (nI_le (by omega) (by omega))]
        exact ⟨fun _ => rfl, fun ⟨j, a, b, _⟩ => by omega⟩
      | succ d ih =>
        intro m i hi hm
        obtain ⟨m, rfl⟩ : ∃ q, m = q + 1 := ⟨m - 1, by omega⟩
        obtain ⟨r1, r2⟩ := ih m (i + 1) (by omega) (by omega)
        obtain ⟨w1, w2⟩ := wN_ch k hk i (by omega)
        have hli : 97 ≤ tx (s + i) ∧ tx (s + i) ≤ 122 := hl (s + i) (by omega) (by omega)
        obtain ⟨c1, c2, c3⟩ := h.2 (s + i) (by omega)
        rw [fX6_spells_p20, show Int32.ofNat (lenS k) = nI (lenS k) from rfl, if_neg (nI_ge (by omega) (by omega)), nI_add, ar_nI (f := tb) (by omega) (by decide), c3, sb_nI (by omega), ar_nI (f := chS k) (by omega) (by omega), w1, nI_1]
        by_cases y : tx (s + i) = wN k i
        · rw [if_pos (by rw [y])]
          refine ⟨fun w => r1 (fun j a b => w j (by omega) b), fun ⟨j, a, b, c⟩ => r2 ⟨j, ?_, b, c⟩⟩
          by_cases u : j = i
          · subst u
            exact absurd y c
          · omega
        · rw [if_neg (by rw [nI_eq (by omega) (by omega)]; exact y)]
          exact ⟨fun w => absurd (w i (Nat.le_refl _) (by omega)) y, fun _ => rfl⟩
    obtain ⟨r1, r2⟩ := loop L n 0 (by omega) (by omega)
    refine ⟨fun q => r1 (fun j _ b => q.2 j b), fun q => r2 ?_⟩
    apply Classical.byContradiction
    intro w
    apply q
    refine ⟨z, fun i hi => ?_⟩
    apply Classical.byContradiction
    intro v
    exact w ⟨i, Nat.zero_le _, hi, v⟩
  · rw [if_neg (by rw [nI_eq (by omega) (by omega)]; exact z)]
    exact ⟨fun q => absurd q.1 z, fun _ => rfl⟩
theorem M_isn (h : TX T tx tb mt) (hl : ∀ i, s ≤ i → i < s + L → isL (tx i)) (hT : s + L ≤ T) {len a b c d : Nat} (h3 : 3 ≤ len) (h5 : len ≤ 5) (ha : a < 128) (hb : b < 128) (hc : c < 128) (hd : d < 128) : fX9_is n mt (nI T) (nI (s + L)) (nI s) 1 (nI len) (nI a) (nI b) (nI c) (nI d) = some (g01 (L = len ∧ tx s = a ∧ tx (s + 1) = b ∧ tx (s + 2) = c ∧ (4 ≤ len → tx (s + 3) = d))) := by
  have h1 := h.1
  have t256 : ∀ i, i < 400 → tx i < 256 := fun i hi => (h.2 i hi).1
  unfold fX9_is
  rw [if_pos rfl, pk_sub (by omega), show s + L - s = L from by omega]
  by_cases z : L = len
  · rw [if_pos (by rw [z]), M_look h (by omega), bd1_some]
    have t0 := t256 s (by omega)
    by_cases y0 : tx s = a
    · rw [if_pos (by rw [y0]), nI_1, M_look h (by omega), bd1_some]
      have t1 := t256 (s + 1) (by omega)
      by_cases y1 : tx (s + 1) = b
      · rw [if_pos (by rw [y1]), show (2 : Int32) = nI 2 from rfl, nI_add, M_look h (by omega), bd1_some]
        have t2 := t256 (s + 2) (by omega)
        by_cases y2 : tx (s + 2) = c
        · rw [if_pos (by rw [y2]), show (4 : Int32) = nI 4 from rfl]
          by_cases y3 : len < 4
          · rw [if_pos (nI_lt y3 (by decide)), g01_t ⟨z, y0, y1, y2, fun q => by omega⟩]
          · have t3 := t256 (s + 3) (by omega)
            rw [if_neg (nI_nlt (by omega) (by omega)), show (3 : Int32) = nI 3 from rfl, nI_add, M_look h (by omega), bd1_some]
            by_cases y4 : tx (s + 3) = d
            · rw [if_pos (by rw [y4]), g01_t ⟨z, y0, y1, y2, fun _ => y4⟩]
            · rw [if_neg (by rw [nI_eq (by omega) (by omega)]; exact y4), g01_f (fun q => y4 (q.2.2.2.2 (by omega)))]
        · rw [if_neg (by rw [nI_eq (by omega) (by omega)]; exact y2), g01_f (fun q => y2 q.2.2.2.1)]
      · rw [if_neg (by rw [nI_eq (by omega) (by omega)]; exact y1), g01_f (fun q => y1 q.2.2.1)]
    · rw [if_neg (by rw [nI_eq (by omega) (by omega)]; exact y0), g01_f (fun q => y0 q.2.1)]
  · rw [if_neg (by rw [nI_eq (by omega) (by omega)]; exact z), g01_f (fun q => z q.1)]
theorem isK4 {k a b c d : Nat} (hk : lenS k = 4) (ha : wN k 0 = a) (hb : wN k 1 = b) (hc : wN k 2 = c) (hd : wN k 3 = d) : (L = 4 ∧ tx s = a ∧ tx (s + 1) = b ∧ tx (s + 2) = c ∧ (4 ≤ 4 → tx (s + 3) = d)) ↔ isK tx s L k := by
  unfold isK
  rw [hk]
  constructor
  · intro ⟨q, q0, q1, q2, q3⟩
    subst q
    refine ⟨rfl, fun i hi => ?_⟩
    rcases (show i = 0 ∨ i = 1 ∨ i = 2 ∨ i = 3 from by omega) with rfl | rfl | rfl | rfl
    · rw [ha]; exact q0
    · rw [hb]; exact q1
    · rw [hc]; exact q2
    · rw [hd]; exact q3 (by decide)
  · intro ⟨q, q1⟩
    subst q
    exact ⟨rfl, ha ▸ q1 0 (by decide), hb ▸ q1 1 (by decide), hc ▸ q1 2 (by decide), fun _ => hd ▸ q1 3 (by decide)⟩
theorem isK3 : (L = 3 ∧ tx s = 97 ∧ tx (s + 1) = 115 ∧ tx (s + 2) = 107 ∧ (4 ≤ 3 → tx (s + 3) = 0)) ↔ isK tx s L 5 := by
  unfold isK
  rw [show lenS 5 = 3 from rfl]
  constructor
  · intro ⟨q, q0, q1, q2, q3⟩
    subst q
    refine ⟨rfl, fun i hi => ?_⟩
    rcases (show i = 0 ∨ i = 1 ∨ i = 2 from by omega) with rfl | rfl | rfl
    · exact q0
    · exact q1
    · exact q2
  · intro ⟨q, q1⟩
    subst q
    exact ⟨rfl, q1 0 (by decide), q1 1 (by decide), q1 2 (by decide), fun w => absurd w (by decide)⟩
theorem isK5 : ((L = 5 ∧ tx s = 103 ∧ tx (s + 1) = 108 ∧ tx (s + 2) = 105 ∧ (4 ≤ 5 → tx (s + 3) = 100)) ∧ tx (s + 4) = 101) ↔ isK tx s L 2 := by
  unfold isK
  rw [show lenS 2 = 5 from rfl]
  constructor
  · intro ⟨⟨q, q0, q1, q2, q3⟩, q4⟩
    subst q
    refine ⟨rfl, fun i hi => ?_⟩
    rcases (show i = 0 ∨ i = 1 ∨ i = 2 ∨ i = 3 ∨ i = 4 from by omega) with rfl | rfl | rfl | rfl | rfl
    · exact q0
    · exact q1
    · exact q2
    · exact q3 (by decide)
    · exact q4
  · intro ⟨q, q1⟩
    subst q
    exact ⟨⟨rfl, q1 0 (by decide), q1 1 (by decide), q1 2 (by decide), fun _ => q1 3 (by decide)⟩, q1 4 (by decide)⟩
theorem P_key (h : TX T tx tb mt) (hl : ∀ i, s ≤ i → i < s + L → isL (tx i)) (hT : s + L ≤ T) : ∃ c, c ≤ 6 ∧ (∀ j, j < c → ¬ isK tx s L j) ∧ (c < 6 → isK tx s L c) ∧ fX9_lineNow n mt (nI T) (nI (s + L)) (nI s) 1 = some (if c = 6 then -4 else nI c) := by
  have h1 := h.1
  have i4 : ∀ {k a b c d : Nat}, lenS k = 4 → wN k 0 = a → wN k 1 = b → wN k 2 = c → wN k 3 = d → a < 128 → b < 128 → c < 128 → d < 128 → (isK tx s L k → fX9_is n mt (nI T) (nI (s + L)) (nI s) 1 (nI 4) (nI a) (nI b) (nI c) (nI d) = some 1) ∧ (¬ isK tx s L k → fX9_is n mt (nI T) (nI (s + L)) (nI s) 1 (nI 4) (nI a) (nI b) (nI c) (nI d) = some 0) := by
    intro k a b c d e0 e1 e2 e3 e4 a1 b1 c1 d1
    rw [M_isn h hl hT (by decide) (by decide) a1 b1 c1 d1]
    exact ⟨fun q => by rw [g01_t ((isK4 e0 e1 e2 e3 e4).mpr q)], fun q => by rw [g01_f (fun w => q ((isK4 e0 e1 e2 e3 e4).mp w))]⟩
  obtain ⟨a1, a0⟩ := i4 (k := 0) rfl rfl rfl rfl rfl (by decide) (by decide) (by decide) (by decide)
  obtain ⟨b1, b0⟩ := i4 (k := 1) rfl rfl rfl rfl rfl (by decide) (by decide) (by decide) (by decide)
  obtain ⟨d1, d0⟩ := i4 (k := 3) rfl rfl rfl rfl rfl (by decide) (by decide) (by decide) (by decide)
  obtain ⟨e1, e0⟩ := i4 (k := 4) rfl rfl rfl rfl rfl (by decide) (by decide) (by decide) (by decide)
  have f5 := M_isn (n := n) h hl hT (len := 3) (a := 97) (b := 115) (c := 107) (d := 0) (by decide) (by decide) (by decide) (by decide) (by decide) (by decide)
  have g5 := M_isn (n := n) h hl hT (len := 5) (a := 103) (b := 108) (c := 105) (d := 100) (by decide) (by decide) (by decide) (by decide) (by decide) (by decide)
  have low : ∀ c, ¬ isK tx s L 0 → ¬ isK tx s L 1 → ¬ isK tx s L 2 → c ≤ 3 → ∀ j, j < c → ¬ isK tx s L j := by
    intro c x y z hc j hj
    rcases (show j = 0 ∨ j = 1 ∨ j = 2 from by omega) with rfl | rfl | rfl
    · exact x
    · exact y
    · exact z
  have p69 : ¬ isK tx s L 0 → ¬ isK tx s L 1 → ¬ isK tx s L 2 → ∃ c, c ≤ 6 ∧ (∀ j, j < c → ¬ isK tx s L j) ∧ (c < 6 → isK tx s L c) ∧ fX9_lineNow_p69 n mt (nI T) (nI (s + L)) (nI s) 1 = some (if c = 6 then -4 else nI c) := by
    intro x y z
    unfold fX9_lineNow_p69
    by_cases k3 : isK tx s L 3
    · rw [show fX9_is n mt (nI T) (nI (s + L)) (nI s) 1 4 109 117 116 101 = _ from d1 k3, bd1_some, if_neg i10]
      exact ⟨3, by decide, low 3 x y z (by decide), fun _ => k3, rfl⟩
    · rw [show fX9_is n mt (nI T) (nI (s + L)) (nI s) 1 4 109 117 116 101 = _ from d0 k3, bd1_some, if_pos rfl]
      have low4 : ∀ c, c ≤ 4 → ∀ j, j < c → ¬ isK tx s L j := by
        intro c hc j hj
        by_cases j3 : j = 3
        · subst j3
          exact k3
        · exact low 3 x y z (by decide) j (by omega)
      by_cases k4 : isK tx s L 4
      · rw [show fX9_is n mt (nI T) (nI (s + L)) (nI s) 1 4 119 111 114 100 = _ from e1 k4, bd1_some, if_neg i10]
        exact ⟨4, by decide, low4 4 (by decide), fun _ => k4, rfl⟩
      · rw [show fX9_is n mt (nI T) (nI (s + L)) (nI s) 1 4 119 111 114 100 = _ from e0 k4, bd1_some, if_pos rfl, show fX9_is n mt (nI T) (nI (s + L)) (nI s) 1 3 97 115 107 0 = _ from f5, bd1_some, g01_if]
        have low5 : ∀ j, j < 5 → ¬ isK tx s L j := by
          intro j hj
          by_cases j4 : j = 4
          · subst j4
            exact k4
          · exact low4 4 (by decide) j (by omega)
        by_cases k5 : isK tx s L 5
        · rw [if_pos (isK3.mpr k5)]
          exact ⟨5, by decide, low5, fun _ => k5, rfl⟩
        · rw [if_neg (fun w => k5 (isK3.mp w))]
          refine ⟨6, by decide, fun j hj => ?_, fun w => absurd w (by decide), rfl⟩
          by_cases j5 : j = 5
          · subst j5
            exact k5
          · exact low5 j (by omega)
  unfold fX9_lineNow
  by_cases k0 : isK tx s L 0
  · rw [show fX9_is n mt (nI T) (nI (s + L)) (nI s) 1 4 104 105 103 104 = _ from a1 k0, bd1_some, if_neg i10]
    exact ⟨0, by decide, fun j hj => by omega, fun _ => k0, rfl⟩
  · rw [show fX9_is n mt (nI T) (nI (s + L)) (nI s) 1 4 104 105 103 104 = _ from a0 k0, bd1_some, if_pos rfl]
    by_cases k1 : isK tx s L 1
    · rw [show fX9_is n mt (nI T) (nI (s + L)) (nI s) 1 4 115 116 111 112 = _ from b1 k1, bd1_some, if_neg i10]
      refine ⟨1, by decide, fun j hj => ?_, fun _ => k1, rfl⟩
      rw [show j = 0 from by omega]
      exact k0
    · rw [show fX9_is n mt (nI T) (nI (s + L)) (nI s) 1 4 115 116 111 112 = _ from b0 k1, bd1_some, if_pos rfl, show fX9_is n mt (nI T) (nI (s + L)) (nI s) 1 5 103 108 105 100 = _ from g5, bd1_some, g01_if]
      by_cases q : (L = 5 ∧ tx s = 103 ∧ tx (s + 1) = 108 ∧ tx (s + 2) = 105 ∧ (4 ≤ 5 → tx (s + 3) = 100))
      · have q5 := q.1
        have t4 := (h.2 (s + 4) (by omega)).1
        rw [if_pos q, show (4 : Int32) = nI 4 from rfl, nI_add, M_look h (by omega), bd1_some]
        by_cases q4 : tx (s + 4) = 101
        · rw [if_pos (by rw [q4]; rfl)]
          refine ⟨2, by decide, fun j hj => ?_, fun _ => isK5.mp ⟨q, q4⟩, rfl⟩
          rcases (show j = 0 ∨ j = 1 from by omega) with rfl | rfl
          · exact k0
          · exact k1
        · rw [if_neg (by rw [show (101 : Int32) = nI 101 from rfl, nI_eq (by omega) (by decide)]; exact q4)]
          exact p69 k0 k1 (fun w => q4 (isK5.mpr w).2)
      · rw [if_neg q]
        exact p69 k0 k1 (fun w => q (isK5.mpr w).1)
end KY
