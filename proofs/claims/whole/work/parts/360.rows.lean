/-! rows of MARKS: the document's, and the class's in a long -/
def bm (m b : Nat) : Option Nat := if m < 16 then some (m / 2 ^ b) else if m < 20 then (if b < 2 then some m else if b < 4 then some 16 else none) else if m = 20 then (if b < 3 then some 20 else if b = 3 then some 16 else none) else none
def rstep (b : Nat) (acc : List Nat) (m : Nat) : List Nat := match bm m b with
  | none => acc
  | some x => if 3 ≤ b ∧ acc.getLast? = some x then acc else acc ++ [x]
def rowS (l : List Nat) (b : Nat) : List Nat := l.foldl (rstep b) []
def okL (l : List Nat) : Prop := l.length ≤ 8 ∧ ∀ m, m ∈ l → m ≤ 20
theorem bm_le {m b x : Nat} (hm : m ≤ 20) (h : bm m b = some x) : x ≤ 20 := by
  unfold bm at h
  have hd : m / 2 ^ b ≤ m := Nat.div_le_self _ _
  by_cases h1 : m < 16
  · rw [if_pos h1] at h
    cases h
    omega
  · rw [if_neg h1] at h
    by_cases h2 : m < 20
    · rw [if_pos h2] at h
      by_cases h3 : b < 2
      · rw [if_pos h3] at h; cases h; omega
      · rw [if_neg h3] at h
        by_cases h4 : b < 4
        · rw [if_pos h4] at h; cases h; decide
        · rw [if_neg h4] at h; cases h
    · rw [if_neg h2] at h
      by_cases h5 : m = 20
      · rw [if_pos h5] at h
        by_cases h3 : b < 3
        · rw [if_pos h3] at h; cases h; decide
        · rw [if_neg h3] at h
          by_cases h4 : b = 3
          · rw [if_pos h4] at h; cases h; decide
          · rw [if_neg h4] at h; cases h
      · rw [if_neg h5] at h; cases h
theorem rstep_len (b : Nat) (acc : List Nat) (m : Nat) : (rstep b acc m).length ≤ acc.length + 1 := by
  unfold rstep
  split
  · omega
  · split
    · omega
    · simp
theorem rstep_mem {b : Nat} {acc : List Nat} {m : Nat} (hm : m ≤ 20) (h : ∀ x, x ∈ acc → x ≤ 20) : ∀ x, x ∈ rstep b acc m → x ≤ 20 := by
  intro x hx
  unfold rstep at hx
  split at hx
  · exact h x hx
  · next y hy =>
    split at hx
    · exact h x hx
    · rcases List.mem_append.mp hx with q | q
      · exact h x q
      · rw [List.mem_singleton] at q
        subst q
        exact bm_le hm hy
theorem fold_ok (b : Nat) : ∀ (l acc : List Nat), (∀ m, m ∈ l → m ≤ 20) → (∀ m, m ∈ acc → m ≤ 20) → (l.foldl (rstep b) acc).length ≤ acc.length + l.length ∧ ∀ m, m ∈ l.foldl (rstep b) acc → m ≤ 20
  | [], acc, _, h => ⟨by simp, h⟩
  | m :: l, acc, hl, h => by
    have h1 := fold_ok b l (rstep b acc m) (fun x hx => hl x (List.mem_cons_of_mem _ hx)) (rstep_mem (hl m List.mem_cons_self) h)
    have h2 := rstep_len b acc m
    refine ⟨?_, h1.2⟩
    have h3 := h1.1
    rw [List.foldl_cons, List.length_cons]
    omega
theorem rowS_ok {l : List Nat} (h : okL l) (b : Nat) : okL (rowS l b) := by
  have h1 := fold_ok b l [] h.2 (fun m hm => by cases hm)
  refine ⟨?_, h1.2⟩
  have := h1.1
  have := h.1
  unfold rowS
  simp at *
  omega
/-! packed: five bits a MARK, one more than it -/
def pkl : List Nat → Nat
  | [] => 0
  | m :: l => (m + 1) + 32 * pkl l
theorem pkl_lt : ∀ (l : List Nat), (∀ m, m ∈ l → m ≤ 20) → pkl l < 2 ^ (5 * l.length)
  | [], _ => by decide
  | m :: l, h => by
    have h1 := pkl_lt l (fun x hx => h x (List.mem_cons_of_mem _ hx))
    have h2 := h m List.mem_cons_self
    rw [pkl, List.length_cons, show 5 * (l.length + 1) = 5 * l.length + 5 from by omega, Nat.pow_add]
    omega
theorem pkl_lt40 {l : List Nat} (h : okL l) : pkl l < 1099511627776 := Nat.lt_of_lt_of_le (pkl_lt l h.2) (Nat.le_trans (Nat.pow_le_pow_right (by decide) (show 5 * l.length ≤ 40 by have := h.1; omega)) (by decide))
theorem pkl_dig : ∀ (l : List Nat) (i : Nat), (∀ m, m ∈ l → m ≤ 20) → pkl l / 2 ^ (5 * i) % 32 = match l[i]? with
    | none => 0
    | some m => m + 1
  | [], i, _ => by simp [pkl]
  | m :: l, 0, h => by
    have h2 := h m List.mem_cons_self
    simp [pkl]
    omega
  | m :: l, i + 1, h => by
    have h1 := pkl_dig l i (fun x hx => h x (List.mem_cons_of_mem _ hx))
    have h2 := h m List.mem_cons_self
    rw [pkl, show 5 * (i + 1) = 5 + 5 * i from by omega, Nat.pow_add, ← Nat.div_div_eq_div_mul, show (m + 1 + 32 * pkl l) / 2 ^ 5 = pkl l from by omega, h1]
    simp
theorem pkl_inj : ∀ {l l' : List Nat}, (∀ m, m ∈ l → m ≤ 20) → (∀ m, m ∈ l' → m ≤ 20) → pkl l = pkl l' → l = l'
  | [], [], _, _, _ => rfl
  | [], m :: l', _, _, h => by simp [pkl] at h; omega
  | m :: l, [], _, _, h => by simp [pkl] at h
  | m :: l, m' :: l', h1, h2, h => by
    have a1 := h1 m List.mem_cons_self
    have a2 := h2 m' List.mem_cons_self
    rw [pkl, pkl] at h
    have e1 : m = m' := by omega
    have e2 : pkl l = pkl l' := by omega
    rw [e1, pkl_inj (fun x hx => h1 x (List.mem_cons_of_mem _ hx)) (fun x hx => h2 x (List.mem_cons_of_mem _ hx)) e2]
theorem pkl_app (x : Nat) : ∀ (l : List Nat), pkl (l ++ [x]) = pkl l + (x + 1) * 2 ^ (5 * l.length)
  | [] => by simp [pkl]
  | m :: l => by
    rw [List.cons_append, pkl, pkl_app x l, pkl, List.length_cons, show 5 * (l.length + 1) = 5 + 5 * l.length from by omega, Nat.pow_add, Nat.mul_add]
    have : (x + 1) * (2 ^ 5 * 2 ^ (5 * l.length)) = 32 * ((x + 1) * 2 ^ (5 * l.length)) := by
      rw [Nat.mul_left_comm]
    omega
/-- MARK i as the class answers it -/
def mkv (l : List Nat) (i : Nat) : Int32 := match l[i]? with
  | none => -4
  | some m => nI m
theorem X_markAt {n i : Nat} {l : List Nat} (h : okL l) (hi : i < 2147483648) : fX3_markAt n (lN (pkl l)) (nI i) = some (mkv l i) := by
  unfold fX3_markAt mkv
  rw [if_neg (nI_pos (by omega)), show (8 : Int32) = nI 8 from rfl]
  by_cases q : i < 8
  · have hp := pkl_lt40 h
    rw [if_pos (nI_lt q (by decide)), nm, show (5 : Int32) = nI 5 from rfl, pk_mul, wb_shr (by omega) (by omega), lN_i, show (31 : Int32) = nI (2 ^ 5 - 1) from rfl, fa_mask, show 2 ^ 5 = 32 from rfl, pkl_dig l i h.2]
    cases hm : l[i]? with
    | none =>
      rw [if_pos (by decide)]
    | some m =>
      have hm2 := h.2 m (List.mem_of_getElem? hm)
      show (if nI (m + 1) = 0 then some (-4) else some (nI (m + 1) - 1)) = some (nI m)
      rw [if_neg (nI_ne0 (by omega) (by omega)), nI_pred]
  · rw [if_neg (nI_nlt (by omega) (by omega)), List.getElem?_eq_none (by have := h.1; omega)]
theorem mkv_in {l : List Nat} {i : Nat} (h : i < l.length) : mkv l i = nI (l.getD i 0) := by
  unfold mkv
  rw [List.getElem?_eq_getElem h, List.getD_eq_getElem?_getD, List.getElem?_eq_getElem h]
  rfl
theorem mkv_out {l : List Nat} {i : Nat} (h : l.length ≤ i) : mkv l i = -4 := by
  unfold mkv
  rw [List.getElem?_eq_none h]
theorem getD_le {l : List Nat} (h : okL l) (i : Nat) : l.getD i 0 ≤ 20 := by
  rw [List.getD_eq_getElem?_getD]
  cases hm : l[i]? with
  | none => decide
  | some m => exact h.2 m (List.mem_of_getElem? hm)
theorem X_length {n : Nat} (hn : 1000 ≤ n) {l : List Nat} (h : okL l) : fX3_length n (lN (pkl l)) = some (nI l.length) := by
  unfold fX3_length
  have hl := h.1
  have g : ∀ (d k r : Nat), r + d = l.length → d < k → fX3_length_p2 n (lN (pkl l)) k (nI r) = some (nI l.length) := by
    intro d
    induction d with
    | zero =>
      intro k r hr hk
      obtain ⟨k, rfl⟩ : ∃ q, k = q + 1 := ⟨k - 1, by omega⟩
      rw [fX3_length_p2, show (8 : Int32) = nI 8 from rfl, show r = l.length from by omega]
      by_cases q : 8 ≤ l.length
      · rw [if_pos (nI_le q (by omega))]
      · rw [if_neg (nI_ge (by omega) (by decide)), X_markAt h (by omega), bd1_some, mkv_out (Nat.le_refl _), if_pos rfl]
    | succ d ih =>
      intro k r hr hk
      obtain ⟨k, rfl⟩ : ∃ q, k = q + 1 := ⟨k - 1, by omega⟩
      have hg := getD_le h r
      rw [fX3_length_p2, show (8 : Int32) = nI 8 from rfl, if_neg (nI_ge (by omega) (by decide)), X_markAt h (by omega), bd1_some, mkv_in (by omega), if_neg (ne_m4 (by omega)), nI_1]
      exact ih k (r + 1) (by omega) (by omega)
  exact g l.length n 0 (by omega) (by omega)
/-- how many of the first so many are heights -/
def hgt (l : List Nat) (r : Nat) : Nat := fb_ct (fun i => decide (l.getD i 0 < 16)) r
theorem X_heights {n : Nat} (hn : 1000 ≤ n) {l : List Nat} (h : okL l) : fX3_heights n (lN (pkl l)) = some (nI (hgt l l.length)) := by
  unfold fX3_heights
  have hl := h.1
  rw [X_length hn h, bd1_some]
  have g : ∀ (d k r : Nat), r + d = l.length → d < k → fX3_heights_p10 n (lN (pkl l)) (nI l.length) k (nI (hgt l r)) (nI r) = some (nI (hgt l l.length)) := by
    intro d
    induction d with
    | zero =>
      intro k r hr hk
      obtain ⟨k, rfl⟩ : ∃ q, k = q + 1 := ⟨k - 1, by omega⟩
      rw [fX3_heights_p10, show r = l.length from by omega, if_pos (nI_le (by omega) (by omega))]
    | succ d ih =>
      intro k r hr hk
      obtain ⟨k, rfl⟩ : ∃ q, k = q + 1 := ⟨k - 1, by omega⟩
      have hg := getD_le h r
      have hi := ih k (r + 1) (by omega) (by omega)
      unfold hgt at hi
      rw [fb_ct_succ] at hi
      rw [fX3_heights_p10, if_neg (nI_ge (by omega) (by omega)), X_markAt h (by omega), bd1_some, mkv_in (by omega), show (16 : Int32) = nI 16 from rfl]
      by_cases q : 16 ≤ l.getD r 0
      · rw [if_pos (nI_le q (by omega)), nI_1]
        rw [if_neg (by rw [decide_eq_true_eq]; omega)] at hi
        exact hi
      · rw [if_neg (nI_ge (by omega) (by omega)), nI_1, nI_1]
        rw [if_pos (by rw [decide_eq_true_eq]; omega)] at hi
        exact hi
  exact g l.length n 0 (by omega) (by omega)
theorem X_with {n x : Nat} {l : List Nat} (h : okL l) (hx : x ≤ 20) (h8 : l.length < 8) : fX3_with n (lN (pkl l)) (nI l.length) (nI x) = some (lN (pkl (l ++ [x]))) := by
  unfold fX3_with
  have hp := pkl_lt l h.2
  rw [nI_1, nI_l (by omega), show (5 : Int32) = nI 5 from rfl, pk_mul, wb_shl _ (by omega), pkl_app, Nat.mul_comm (x + 1), Nat.add_comm (pkl l)]
  congr 1
  have := fb_or_sumL (a := pkl l) (k := 5 * l.length) (x + 1) hp
  rw [← this, Int64.or_comm]
def opv (o : Option Nat) : Int32 := match o with
  | none => -4
  | some m => nI m
theorem X_blurMark_all : ∀ m, m < 21 → ∀ b, b < 6 → fX3_blurMark 0 (nI m) (nI b) = some (opv (bm m b)) := by decide +kernel
theorem X_blurMark {n m b : Nat} (hm : m ≤ 20) (hb : b < 6) : fX3_blurMark n (nI m) (nI b) = some (opv (bm m b)) := X_blurMark_all m (by omega) b hb
theorem opv_inj {a b : Option Nat} (ha : ∀ x, a = some x → x ≤ 20) (hb : ∀ x, b = some x → x ≤ 20) : opv a = opv b ↔ a = b := by
  cases a with
  | none =>
    cases b with
    | none => simp
    | some y =>
      have := hb y rfl
      constructor
      · intro q
        exact absurd q.symm (ne_m4 (a := y) (by omega))
      · intro q; cases q
  | some x =>
    have hx := ha x rfl
    cases b with
    | none =>
      constructor
      · intro q
        exact absurd q (ne_m4 (a := x) (by omega))
      · intro q; cases q
    | some y =>
      have hy := hb y rfl
      show nI x = nI y ↔ _
      rw [nI_eq (by omega) (by omega)]
      constructor
      · intro q; rw [q]
      · intro q; cases q; rfl
theorem take_succ_getD {l : List Nat} {r : Nat} (h : r < l.length) : l.take (r + 1) = l.take r ++ [l.getD r 0] := by
  rw [List.take_add_one, List.getElem?_eq_getElem h, List.getD_eq_getElem?_getD, List.getElem?_eq_getElem h]
  rfl
theorem X_blurRow {n b : Nat} (hn : 1000 ≤ n) (hb : b < 6) {l : List Nat} (h : okL l) : fX3_blurRow n (lN (pkl l)) (nI b) = some (lN (pkl (rowS l b))) := by
  unfold fX3_blurRow
  have hl := h.1
  rw [X_length hn h, bd1_some]
  have g : ∀ (d k r : Nat) (acc : List Nat), r + d = l.length → d < k → acc = (l.take r).foldl (rstep b) [] → fX3_blurRow_p18 n (lN (pkl l)) (nI b) (nI l.length) k (lN (pkl acc)) (nI acc.length) (opv acc.getLast?) (nI r) = some (lN (pkl (rowS l b))) := by
    intro d
    induction d with
    | zero =>
      intro k r acc hr hk ha
      obtain ⟨k, rfl⟩ : ∃ q, k = q + 1 := ⟨k - 1, by omega⟩
      rw [fX3_blurRow_p18, show r = l.length from by omega, if_pos (nI_le (by omega) (by omega)), ha, show r = l.length from by omega, List.take_length]
      rfl
    | succ d ih =>
      intro k r acc hr hk ha
      obtain ⟨k, rfl⟩ : ∃ q, k = q + 1 := ⟨k - 1, by omega⟩
      have hg := getD_le h r
      have hok : acc.length ≤ r ∧ ∀ m, m ∈ acc → m ≤ 20 := by
        have := fold_ok b (l.take r) [] (fun m hm => h.2 m (List.mem_of_mem_take hm)) (fun m hm => by cases hm)
        rw [← ha] at this
        refine ⟨?_, this.2⟩
        have := this.1
        simp at this
        omega
      have hL : okL acc := ⟨by omega, hok.2⟩
      have hlast : ∀ x, acc.getLast? = some x → x ≤ 20 := fun x hx => hok.2 x (List.mem_of_getLast? hx)
      have hnext : (l.take (r + 1)).foldl (rstep b) [] = rstep b acc (l.getD r 0) := by
        rw [take_succ_getD (by omega), List.foldl_append, ← ha]
        rfl
      have hi := ih k (r + 1) (rstep b acc (l.getD r 0)) (by omega) (by omega) hnext.symm
      rw [fX3_blurRow_p18, if_neg (nI_ge (by omega) (by omega)), X_markAt h (by omega), bd1_some, mkv_in (by omega), X_blurMark hg hb, bd1_some, show (3 : Int32) = nI 3 from rfl]
      have keep : rstep b acc (l.getD r 0) = acc → fX3_blurRow_p18 n (lN (pkl l)) (nI b) (nI l.length) k (lN (pkl acc)) (nI acc.length) (opv acc.getLast?) (nI r + 1) = some (lN (pkl (rowS l b))) := by
        intro e
        rw [e] at hi
        rw [nI_1]
        exact hi
      cases hbm : bm (l.getD r 0) b with
      | none =>
        have e : rstep b acc (l.getD r 0) = acc := by unfold rstep; rw [hbm]
        have hk2 := keep e
        have p54 : ∀ s0 : Int32, fX3_blurRow_p54 n (lN (pkl l)) (nI b) (lN (pkl acc)) (nI acc.length) (opv acc.getLast?) (nI l.length) (nI r) (opv none) s0 (fX3_blurRow_p18 n (lN (pkl l)) (nI b) (nI l.length) k) = some (lN (pkl (rowS l b))) := by
          intro s0
          unfold fX3_blurRow_p54
          rw [if_pos (show opv none = -4 from rfl)]
          exact hk2
        by_cases q : b < 3
        · rw [if_pos (nI_lt q (by decide))]
          exact p54 _
        · rw [if_neg (nI_nlt (by omega) (by omega))]
          by_cases q2 : opv none = opv acc.getLast?
          · rw [if_pos q2]
            exact p54 _
          · rw [if_neg q2]
            exact p54 _
      | some x =>
        have hx := bm_le hg hbm
        have hne : ¬ opv (some x) = -4 := ne_m4 (by omega)
        have app : rstep b acc (l.getD r 0) = acc ++ [x] → fX3_blurRow_p54 n (lN (pkl l)) (nI b) (lN (pkl acc)) (nI acc.length) (opv acc.getLast?) (nI l.length) (nI r) (opv (some x)) 0 (fX3_blurRow_p18 n (lN (pkl l)) (nI b) (nI l.length) k) = some (lN (pkl (rowS l b))) := by
          intro e
          unfold fX3_blurRow_p54
          rw [if_neg hne, if_pos rfl, show opv (some x) = nI x from rfl, X_with hL hx (by omega), bd1_some, nI_1, nI_1]
          rw [e, List.length_append, List.getLast?_append] at hi
          exact hi
        by_cases q : b < 3
        · rw [if_pos (nI_lt q (by decide))]
          refine app ?_
          unfold rstep
          rw [hbm]
          exact if_neg (fun z => absurd z.1 (by omega))
        · rw [if_neg (nI_nlt (by omega) (by omega))]
          by_cases q2 : opv (some x) = opv acc.getLast?
          · rw [if_pos q2]
            rw [opv_inj (fun y hy => by cases hy; exact hx) hlast] at q2
            unfold fX3_blurRow_p54
            rw [if_neg hne, if_neg i10]
            refine keep ?_
            unfold rstep
            rw [hbm]
            exact if_pos ⟨by omega, q2.symm⟩
          · rw [if_neg q2]
            rw [opv_inj (fun y hy => by cases hy; exact hx) hlast] at q2
            refine app ?_
            unfold rstep
            rw [hbm]
            exact if_neg (fun z => q2 z.2.symm)
  exact g l.length n 0 [] (by omega) (by omega) rfl
/-- they differ in one MARK alone -/
def dfc (l l' : List Nat) (r : Nat) : Nat := fb_ct (fun i => decide (l[i]? ≠ l'[i]?)) r
def dif1 (l l' : List Nat) : Bool := decide (l.length = l'.length) && decide (dfc l l' 8 = 1)
theorem mkv_opv (l : List Nat) (i : Nat) : mkv l i = opv l[i]? := rfl
theorem X_differInOne {n : Nat} (hn : 1000 ≤ n) {l l' : List Nat} (h : okL l) (h' : okL l') : fX3_differInOne n (lN (pkl l)) (lN (pkl l')) = some (if dif1 l l' = true then 1 else 0) := by
  unfold fX3_differInOne dif1
  rw [X_length hn h, X_length hn h', bd1_some, bd1_some]
  have b1 := h.1
  have b2 := h'.1
  by_cases e : l.length = l'.length
  · rw [if_pos (by rw [e])]
    have g : ∀ (d k r : Nat), r + d = 8 → d < k → fX3_differInOne_p19 n (lN (pkl l)) (lN (pkl l')) k (nI (dfc l l' r)) (nI r) = some (if dfc l l' 8 = 1 then 1 else 0) := by
      intro d
      induction d with
      | zero =>
        intro k r hr hk
        obtain ⟨k, rfl⟩ : ∃ q, k = q + 1 := ⟨k - 1, by omega⟩
        have hc : dfc l l' 8 ≤ 8 := fb_ct_le _ _
        rw [fX3_differInOne_p19, show r = 8 from by omega, if_pos (by decide)]
        by_cases q : dfc l l' 8 = 1
        · rw [if_pos (by rw [q]; rfl), if_pos q]
        · rw [if_neg (by rw [i1nI, nI_eq (by omega) (by decide)]; exact q), if_neg q]
      | succ d ih =>
        intro k r hr hk
        obtain ⟨k, rfl⟩ : ∃ q, k = q + 1 := ⟨k - 1, by omega⟩
        have hi := ih k (r + 1) (by omega) (by omega)
        unfold dfc at hi
        rw [fb_ct_succ] at hi
        rw [fX3_differInOne_p19, show (8 : Int32) = nI 8 from rfl, if_neg (nI_ge (by omega) (by decide)), X_markAt h (by omega), X_markAt h' (by omega), bd1_some, bd1_some, mkv_opv, mkv_opv]
        have oi := opv_inj (a := l[r]?) (b := l'[r]?) (fun x hx => h.2 x (List.mem_of_getElem? hx)) (fun x hx => h'.2 x (List.mem_of_getElem? hx))
        by_cases q : l[r]? = l'[r]?
        · rw [if_pos (oi.mpr q), nI_1]
          rw [if_neg (by simp [q])] at hi
          exact hi
        · rw [if_neg (fun z => q (oi.mp z)), nI_1, nI_1]
          rw [if_pos (by simp [q])] at hi
          exact hi
    have g0 : fX3_differInOne_p19 n (lN (pkl l)) (lN (pkl l')) n 0 0 = _ := g 8 n 0 (by omega) (by omega)
    rw [g0]
    simp [e]
  · rw [if_neg (by rw [nI_eq (by omega) (by omega)]; exact e)]
    simp [e]
