/-! rows of MARKS in the reference -/
def hold (f : Nat → Int32) (l : List Nat) : Prop := ∀ j, j < l.length → f j = nI (l.getD j 0)
def spc (f : Nat → Nat) : Nat → List Nat
  | 0 => []
  | n + 1 => if f n = 30 then spc f n else spc f n ++ [f n]
def okM (W : Nat) (ln : Nat → Nat) (mm : Nat → Nat → Nat) (letters wMany wLetters : Nat → Int32) : Prop := W ≤ 16 ∧ ∀ w, w < W → ln w ≤ 8 ∧ wMany w = nI (ln w) ∧ ∀ i, i < ln w → ∃ q, q < 26 ∧ wLetters (8 * w + i) = nI q ∧ letters q = nI (mm w i) ∧ (mm w i ≤ 20 ∨ mm w i = 30)
theorem spc_ok {f : Nat → Nat} : ∀ {n : Nat}, (∀ i, i < n → f i ≤ 20 ∨ f i = 30) → (spc f n).length ≤ n ∧ ∀ m, m ∈ spc f n → m ≤ 20
  | 0, _ => ⟨Nat.le_refl _, fun m hm => by cases hm⟩
  | n + 1, h => by
    have ih := spc_ok (f := f) (n := n) (fun i hi => h i (by omega))
    rw [spc]
    by_cases q : f n = 30
    · rw [if_pos q]
      exact ⟨by omega, ih.2⟩
    · rw [if_neg q]
      refine ⟨by rw [List.length_append]; have := ih.1; simp; omega, fun m hm => ?_⟩
      rcases List.mem_append.mp hm with z | z
      · exact ih.2 m z
      · rw [List.mem_singleton] at z
        rw [z]
        exact (h n (by omega)).resolve_right q
theorem spc_okL {f : Nat → Nat} {n : Nat} (hn : n ≤ 8) (h : ∀ i, i < n → f i ≤ 20 ∨ f i = 30) : okL (spc f n) := ⟨Nat.le_trans (spc_ok h).1 hn, (spc_ok h).2⟩
theorem okM_L {W : Nat} {ln : Nat → Nat} {mm : Nat → Nat → Nat} {letters wMany wLetters : Nat → Int32} (h : okM W ln mm letters wMany wLetters) {w : Nat} (hw : w < W) : okL (spc (mm w) (ln w)) := by
  obtain ⟨h1, h2, h3⟩ := h.2 w hw
  refine spc_okL h1 (fun i hi => ?_)
  obtain ⟨q, -, -, -, h4⟩ := h3 i hi
  exact h4
def omv (o : Option Nat) : Int32 := match o with
  | none => -1
  | some m => nI m
theorem M_markAt_all : ∀ m, m < 21 → ∀ b, b < 6 → fX9_markAt 0 (nI m) (nI b) = some (omv (bm m b)) := by decide +kernel
theorem M_markAt_30 : ∀ b, b < 6 → fX9_markAt 0 (nI 30) (nI b) = some (-1) := by decide +kernel
theorem last_getD {l : List Nat} (h : 0 < l.length) : l.getLast? = some (l.getD (l.length - 1) 0) := by
  rw [List.getLast?_eq_getElem?, List.getD_eq_getElem?_getD, List.getElem?_eq_getElem (by omega)]
  rfl
theorem hold_app {f : Nat → Int32} {l : List Nat} (h : hold f l) (x : Nat) : hold (upd f l.length (nI x)) (l ++ [x]) := by
  intro j hj
  rw [List.length_append, List.length_singleton] at hj
  by_cases e : j = l.length
  · subst e
    rw [pk_us, List.getD_eq_getElem?_getD, List.getElem?_append_right (Nat.le_refl _), Nat.sub_self]
    rfl
  · rw [pk_un e, h j (by omega), List.getD_eq_getElem?_getD, List.getD_eq_getElem?_getD, List.getElem?_append_left (by omega)]
theorem M_rowOf {n W b : Nat} (hn : 1000 ≤ n) (hb : b < 6) {ln : Nat → Nat} {mm : Nat → Nat → Nat} {letters wMany wLetters : Nat → Int32} (h : okM W ln mm letters wMany wLetters) {w : Nat} (hw : w < W) (row : Nat → Int32) : ∃ f, fX9_rowOf n letters wMany wLetters row (nI w) (nI b) = some (nI (rowS (spc (mm w) (ln w)) b).length, f) ∧ hold f (rowS (spc (mm w) (ln w)) b) := by
  have hW := h.1
  obtain ⟨h1, h2, h3⟩ := h.2 w hw
  unfold fX9_rowOf
  have g : ∀ (d k r : Nat) (acc : List Nat) (f : Nat → Int32), r + d = ln w → d < k → acc = rowS (spc (mm w) r) b → hold f acc → ∃ f', fX9_rowOf_p6 n letters wMany wLetters (nI w) (nI b) k f (nI acc.length) (nI r) = some (nI (rowS (spc (mm w) (ln w)) b).length, f') ∧ hold f' (rowS (spc (mm w) (ln w)) b) := by
    intro d
    induction d with
    | zero =>
      intro k r acc f hr hk ha hf
      obtain ⟨k, rfl⟩ : ∃ q, k = q + 1 := ⟨k - 1, by omega⟩
      have e : r = ln w := by omega
      subst ha
      refine ⟨f, ?_, ?_⟩
      · rw [fX9_rowOf_p6, ar_nI (by omega) (by decide), h2, if_pos (nI_le (by omega) (by omega)), e]
      · rw [← e]
        exact hf
    | succ d ih =>
      intro k r acc f hr hk ha hf
      obtain ⟨k, rfl⟩ : ∃ q, k = q + 1 := ⟨k - 1, by omega⟩
      obtain ⟨q, hq1, hq2, hq3, hq4⟩ := h3 r (by omega)
      have hok := spc_ok (f := mm w) (n := r) (fun i hi => by obtain ⟨_, -, -, -, h4⟩ := h3 i (by omega); exact h4)
      have hL : okL (spc (mm w) r) := ⟨by omega, hok.2⟩
      have hacc : acc.length ≤ r ∧ ∀ m, m ∈ acc → m ≤ 20 := by
        have := fold_ok b (spc (mm w) r) [] hok.2 (fun m hm => by cases hm)
        rw [ha]
        refine ⟨?_, this.2⟩
        have := this.1
        unfold rowS
        simp at this
        omega
      rw [fX9_rowOf_p6, ar_nI (by omega) (by decide), h2, if_neg (nI_ge (by omega) (by omega)), show (8 : Int32) = nI 8 from rfl, pk_mul, nI_add, ar_nI (by omega) (by decide), hq2, ar_nI hq1 (by decide), hq3]
      have keep : rowS (spc (mm w) (r + 1)) b = acc → ∃ f', fX9_rowOf_p6 n letters wMany wLetters (nI w) (nI b) k f (nI acc.length) (nI r + 1) = some (nI (rowS (spc (mm w) (ln w)) b).length, f') ∧ hold f' (rowS (spc (mm w) (ln w)) b) := by
        intro e
        rw [nI_1]
        exact ih k (r + 1) acc f (by omega) (by omega) e.symm hf
      have app : ∀ x, rowS (spc (mm w) (r + 1)) b = acc ++ [x] → ∃ f', (aw (nI acc.length) 8 f (nI x) fun f8 => fX9_rowOf_p6 n letters wMany wLetters (nI w) (nI b) k f8 (nI acc.length + 1) (nI r + 1)) = some (nI (rowS (spc (mm w) (ln w)) b).length, f') ∧ hold f' (rowS (spc (mm w) (ln w)) b) := by
        intro x e
        rw [aw_nI (by omega) (by decide), nI_1, nI_1]
        have := ih k (r + 1) (acc ++ [x]) (upd f acc.length (nI x)) (by omega) (by omega) e.symm (hold_app hf x)
        rw [List.length_append] at this
        exact this
      by_cases mu : mm w r = 30
      · have hm : fX9_markAt n (nI (mm w r)) (nI b) = some (-1) := by rw [mu]; exact M_markAt_30 b hb
        rw [hm, bd1_some, if_pos (by decide)]
        refine keep ?_
        rw [spc, if_pos mu]
        exact ha.symm
      · have hm20 : mm w r ≤ 20 := hq4.resolve_right mu
        have hm : fX9_markAt n (nI (mm w r)) (nI b) = some (omv (bm (mm w r) b)) := M_markAt_all _ (by omega) b hb
        have hst : rowS (spc (mm w) (r + 1)) b = rstep b acc (mm w r) := by
          rw [spc, if_neg mu, ha]
          unfold rowS
          rw [List.foldl_append]
          rfl
        rw [hm, bd1_some]
        cases hbm : bm (mm w r) b with
        | none =>
          rw [if_pos (show omv none < 0 from by decide)]
          refine keep ?_
          rw [hst]
          unfold rstep
          rw [hbm]
        | some x =>
          have hx := bm_le hm20 hbm
          rw [show omv (some x) = nI x from rfl, if_neg (nI_pos (by omega)), show (3 : Int32) = nI 3 from rfl]
          have hr1 : rstep b acc (mm w r) = if 3 ≤ b ∧ acc.getLast? = some x then acc else acc ++ [x] := by
            unfold rstep
            rw [hbm]
          by_cases q : b < 3
          · rw [if_pos (nI_lt q (by decide))]
            refine app x ?_
            rw [hst, hr1, if_neg (fun z => absurd z.1 (by omega))]
          · rw [if_neg (nI_nlt (by omega) (by omega))]
            by_cases z : acc.length = 0
            · rw [if_pos (by rw [z]; decide)]
              refine app x ?_
              have e : acc = [] := List.length_eq_zero_iff.mp z
              rw [hst, hr1, e]
              simp
            · have hgl := last_getD (l := acc) (by omega)
              have h20 := hacc.2 (acc.getD (acc.length - 1) 0) (List.mem_of_getLast? hgl)
              rw [if_neg (nI_nle (by omega) (by omega)), i1nI, pk_sub (by omega), ar_nI (by omega) (by decide), hf _ (by omega)]
              by_cases y : acc.getD (acc.length - 1) 0 = x
              · rw [if_pos (by rw [y])]
                refine keep ?_
                rw [hst, hr1, hgl, y, if_pos ⟨by omega, rfl⟩]
              · rw [if_neg (by rw [nI_eq (by omega) (by omega)]; exact y)]
                refine app x ?_
                rw [hst, hr1, hgl, if_neg (fun z => y (Option.some.inj z.2))]
  exact g (ln w) n 0 [] row (by omega) (by omega) rfl (fun j hj => absurd hj (by simp))
theorem holds_eq {f g : Nat → Int32} {l l' : List Nat} (hf : hold f l) (hg : hold g l') (h : okL l) (h' : okL l') (e : l.length = l'.length) : (∀ i, i < l.length → f i = g i) ↔ l = l' := by
  constructor
  · intro q
    refine List.ext_getElem e (fun i h1 h2 => ?_)
    have := q i h1
    rw [hf i h1, hg i h2] at this
    have a1 := getD_le h i
    have a2 := getD_le h' i
    rw [nI_eq (by omega) (by omega), List.getD_eq_getElem?_getD, List.getD_eq_getElem?_getD, List.getElem?_eq_getElem h1, List.getElem?_eq_getElem h2] at this
    exact this
  · intro q i hi
    subst q
    rw [hf i hi, hg i hi]
theorem M_areOne {n W b : Nat} (hn : 1000 ≤ n) (hb : b < 6) {ln : Nat → Nat} {mm : Nat → Nat → Nat} {letters wMany wLetters : Nat → Int32} (h : okM W ln mm letters wMany wLetters) {v w : Nat} (hv : v < W) (hw : w < W) (a c : Int32) (ra rc : Nat → Int32) : ∃ a' f c' g, fX9_areOne n letters wMany wLetters a ra c rc (nI v) (nI w) (nI b) = some (if rowS (spc (mm v) (ln v)) b = rowS (spc (mm w) (ln w)) b then 1 else 0, a', f, c', g) := by
  obtain ⟨f, f1, f2⟩ := M_rowOf hn hb h hv ra
  obtain ⟨g, g1, g2⟩ := M_rowOf hn hb h hw rc
  have okv := rowS_ok (okM_L h hv) b
  have okw := rowS_ok (okM_L h hw) b
  generalize rowS (spc (mm v) (ln v)) b = l at *
  generalize rowS (spc (mm w) (ln w)) b = l' at *
  have b1 := okv.1
  have b2 := okw.1
  unfold fX9_areOne
  rw [f1, g1, bd2_some, bd2_some]
  have zero : ∀ (k : Nat) (i : Nat), 0 < k → fX9_areOne_p49 n (nI l.length) f (nI l'.length) g k 0 (nI i) = some (0, nI l.length, f, nI l'.length, g) := by
    intro k i hk
    obtain ⟨k, rfl⟩ : ∃ q, k = q + 1 := ⟨k - 1, by omega⟩
    rw [fX9_areOne_p49, rb_0, if_pos rfl, ite_self]
  refine ⟨nI l.length, f, nI l'.length, g, ?_⟩
  by_cases e : l.length = l'.length
  · rw [if_pos (by rw [e])]
    have key : ∀ (d k r : Nat), r + d = l.length → d + 1 < k → (∀ i, i < r → f i = g i) → fX9_areOne_p49 n (nI l.length) f (nI l'.length) g k 1 (nI r) = some (if l = l' then 1 else 0, nI l.length, f, nI l'.length, g) := by
      intro d
      induction d with
      | zero =>
        intro k r hr hk hq
        obtain ⟨k, rfl⟩ : ∃ q, k = q + 1 := ⟨k - 1, by omega⟩
        rw [fX9_areOne_p49, if_pos (nI_le (by omega) (by omega)), rb_1, if_pos ((holds_eq f2 g2 okv okw e).mp (fun i hi => hq i (by omega)))]
      | succ d ih =>
        intro k r hr hk hq
        obtain ⟨k, rfl⟩ : ∃ q, k = q + 1 := ⟨k - 1, by omega⟩
        rw [fX9_areOne_p49, if_neg (nI_ge (by omega) (by omega)), if_neg i10, ar_nI (by omega) (by decide), ar_nI (by omega) (by decide)]
        by_cases q : f r = g r
        · rw [if_pos q, nI_1]
          exact ih k (r + 1) (by omega) (by omega) (lt_s hq q)
        · rw [if_neg q, nI_1, zero k (r + 1) (by omega), if_neg]
          intro z
          exact q ((holds_eq f2 g2 okv okw e).mpr z r (by omega))
    exact key l.length n 0 (by omega) (by omega) (fun i hi => absurd hi (by omega))
  · rw [if_neg (by rw [nI_eq (by omega) (by omega)]; exact e), if_neg (fun z => e (by rw [z]))]
    exact zero n 0 (by omega)
