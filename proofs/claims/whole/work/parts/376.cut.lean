/-! CUT, and pairs that are not APART -/
def prs (R : Nat → Nat → Bool) : Nat → Nat
  | 0 => 0
  | w + 1 => prs R w + fb_ct (fun v => R v w) w
theorem sm_ct (p : Nat → Bool) : ∀ N, fb_sm (fun w => if p w then 1 else 0) N = fb_ct p N
  | 0 => rfl
  | N + 1 => by rw [fb_sm_succ, fb_ct_succ, sm_ct p N]
theorem dbl {R : Nat → Nat → Bool} (hs : ∀ v w, R v w = R w v) : ∀ N, fb_sm (fun w => fb_ct (fun v => R v w && decide (v ≠ w)) N) N = 2 * prs R N
  | 0 => rfl
  | N + 1 => by
    have ih := dbl hs N
    rw [fb_sm_succ, prs]
    have e1 : fb_sm (fun w => fb_ct (fun v => R v w && decide (v ≠ w)) (N + 1)) N = fb_sm (fun w => fb_ct (fun v => R v w && decide (v ≠ w)) N + (if R w N then 1 else 0)) N := by
      refine fb_sm_cong (fun w hw => ?_)
      rw [fb_ct_succ, hs N w]
      have : N ≠ w := by omega
      simp [this]
    have e2 : fb_ct (fun v => R v N && decide (v ≠ N)) (N + 1) = fb_ct (fun v => R v N) N := by
      rw [fb_ct_succ]
      simp
      refine fb_ct_cong (fun k hk => ?_)
      have : ¬ k = N := by omega
      simp [this]
    rw [e1, e2, fb_sm_add, ih, sm_ct]
    omega
theorem prs_le (R : Nat → Nat → Bool) : ∀ N, prs R N ≤ N * N
  | 0 => Nat.le_refl _
  | N + 1 => by
    have ih := prs_le R N
    have h := fb_ct_le (fun v => R v N) N
    rw [prs, Nat.succ_mul_succ]
    omega
/-- among the words, and alike -/
def RR (g : Nat) (rw : Nat → List Nat) : Nat → Nat → Bool := fun v w => g.testBit v && (g.testBit w && decide (rw v = rw w))
theorem RR_sym (g : Nat) (rw : Nat → List Nat) (v w : Nat) : RR g rw v w = RR g rw w v := by
  unfold RR
  have h : decide (rw v = rw w) = decide (rw w = rw v) := by
    by_cases q : rw v = rw w
    · simp [q]
    · have q2 : ¬ rw w = rw v := fun z => q z.symm
      simp [q, q2]
  rw [h, Bool.and_left_comm]
def al (g : Nat) (rw : Nat → List Nat) (w : Nat) : Nat → Bool := fun v => g.testBit v && decide (rw v = rw w)
def fs (g : Nat) (rw : Nat → List Nat) : Nat → Bool := fun w => g.testBit w && decide (fb_ct (al g rw w) w = 0)
theorem fs_iff {g : Nat} {rw : Nat → List Nat} {w : Nat} (hw : g.testBit w = true) : mk (fun v => decide (rw v = rw w) && fs g rw v) w = 0 ↔ fs g rw w = true := by
  have hfw : fs g rw w = decide (fb_ct (al g rw w) w = 0) := by
    unfold fs
    rw [hw, Bool.true_and]
  rw [hfw, decide_eq_true_eq, fb_ct_zero]
  constructor
  · intro h k hk
    cases hal : al g rw w k with
    | false => rfl
    | true =>
      exfalso
      obtain ⟨i, hi, hp, hmin⟩ := fb_first (p := fun j => al g rw w j = true) (n := w) ⟨k, hk, hal⟩
      have hbit : (mk (fun v => decide (rw v = rw w) && fs g rw v) w).testBit i = true := by
        rw [mk_bit]
        unfold al at hp
        rw [Bool.and_eq_true, decide_eq_true_eq] at hp
        have hfs : fs g rw i = true := by
          unfold fs
          rw [hp.1, Bool.true_and, decide_eq_true_eq, fb_ct_zero]
          intro j hj
          have := hmin j hj
          unfold al at this ⊢
          rw [hp.2]
          simpa using this
        rw [hfs, hp.2]
        simp [hi]
      rw [h] at hbit
      simp at hbit
  · intro h
    refine msk_ext (N := w) (mk_lt _ _) (Nat.two_pow_pos w) (fun j hj => ?_)
    rw [mk_bit, Nat.zero_testBit]
    have := h j hj
    unfold al at this
    unfold fs
    by_cases q : g.testBit j = true
    · rw [q, Bool.true_and] at this
      rw [this]
      simp
    · simp [q]
theorem and_mk2 {p q : Nat → Bool} {M N : Nat} (h : N ≤ M) : mk p M &&& mk q N = mk (fun v => p v && q v) N := by
  refine msk_ext (N := N) (Nat.lt_of_le_of_lt Nat.and_le_right (mk_lt q N)) (mk_lt _ _) (fun j hj => ?_)
  rw [Nat.testBit_and, mk_bit, mk_bit, mk_bit]
  have : j < M := by omega
  simp [hj, this]
section CU
variable {n W Q nl : Nat} {ln : Nat → Nat} {mm : Nat → Nat → Nat} {am : Nat → Nat} {spelled alike near asks : Nat → Int32} {rows : Nat → Int64} {letters words askCount : Int32} {mletters wMany wLetters aWords : Nat → Int32} {mwords masks : Int32}
theorem X_cutOf (hn : 1000 ≤ n) (hX : okX W Q nl ln (mLf ln mm) am spelled rows alike near asks letters words askCount) {g b : Nat} (hg : g < 2 ^ W) (hb : b < 6) : fX7_cutOf n alike words (nI g) (nI b) = some (nI (mk (fs g (fun w => rowS (mLf ln mm w) b)) W)) := by
  have hW := hX.1
  have h16 := pow16 hW hg
  have e := hX.2.2.2.2.1
  unfold fX7_cutOf
  have h : ∀ (d k r : Nat), r + d = W → d < k → fX7_cutOf_p5 n alike words (nI g) (nI b) k (nI (mk (fs g (fun w => rowS (mLf ln mm w) b)) r)) (nI r) = some (nI (mk (fs g (fun w => rowS (mLf ln mm w) b)) W)) := by
    intro d
    induction d with
    | zero =>
      intro k r hr hk
      obtain ⟨k, rfl⟩ : ∃ q, k = q + 1 := ⟨k - 1, by omega⟩
      rw [fX7_cutOf_p5, e, if_pos (nI_le (by omega) (by omega)), show r = W from by omega]
    | succ d ih =>
      intro k r hr hk
      obtain ⟨k, rfl⟩ : ∃ q, k = q + 1 := ⟨k - 1, by omega⟩
      have hi := ih k (r + 1) (by omega) (by omega)
      rw [fX7_cutOf_p5, e, if_neg (nI_ge (by omega) (by omega)), ← e, X_isIn (by omega) (by omega), bd1_some]
      by_cases q : g.testBit r = true
      · rw [if_pos q, if_neg i10, X_alikeTo hX (by omega) hb, bd1_some, fa_and, and_mk2 (by omega)]
        have hf := fs_iff (g := g) (rw := fun w => rowS (mLf ln mm w) b) (w := r) q
        have hlt : mk (fun v => decide (rowS (mLf ln mm v) b = rowS (mLf ln mm r) b) && fs g (fun w => rowS (mLf ln mm w) b) v) r < 65536 := pow16 (W := r) (by omega) (mk_lt _ _)
        by_cases z : fs g (fun w => rowS (mLf ln mm w) b) r = true
        · rw [if_pos (by rw [hf.mpr z]; rfl), nm, or_mk (by omega) z, nI_1]
          exact hi
        · rw [if_neg (by rw [i0nI, nI_eq (by omega) (by decide)]; exact fun y => z (hf.mp y)), nI_1]
          rw [mk_no (by simpa using z)] at hi
          exact hi
      · rw [if_neg q, if_pos rfl, nI_1]
        rw [mk_no (by unfold fs; simp [q])] at hi
        exact hi
  exact h W n 0 (by omega) (by omega)
theorem ends_eq {g : Nat} {rw : Nat → List Nat} {w : Nat} (hw : w < W) : fb_ct (fun v => RR g rw v w && decide (v ≠ w)) W = if g.testBit w then fb_ct (al g rw w) W - 1 else 0 := by
  by_cases q : g.testBit w = true
  · rw [if_pos q]
    have h := fb_ct_upd (al g rw w) false (i := w) hw
    rw [if_pos (by unfold al; simp [q]), if_neg (by decide)] at h
    have e : fb_ct (fun v => RR g rw v w && decide (v ≠ w)) W = fb_ct (fun k => if k = w then false else al g rw w k) W := by
      refine fb_ct_cong (fun k hk => ?_)
      by_cases z : k = w
      · simp [z]
      · rw [if_neg z]
        unfold RR al
        simp [z, q]
    omega
  · rw [if_neg q, fb_ct_zero]
    intro k hk
    unfold RR
    simp [q]
theorem X_pairs (hn : 1000 ≤ n) (hX : okX W Q nl ln (mLf ln mm) am spelled rows alike near asks letters words askCount) {g b : Nat} (hg : g < 2 ^ W) (hb : b < 6) : fX7_alikePairs n alike words (nI g) (nI b) = some (nI (prs (RR g (fun w => rowS (mLf ln mm w) b)) W)) := by
  have hW := hX.1
  have h16 := pow16 hW hg
  have e := hX.2.2.2.2.1
  unfold fX7_alikePairs
  have bnd : ∀ r, r ≤ W → fb_sm (fun w => fb_ct (fun v => RR g (fun w => rowS (mLf ln mm w) b) v w && decide (v ≠ w)) W) r ≤ r * 16 := fun r hr => fb_sm_bound (fun k hk => Nat.le_trans (fb_ct_le _ _) hW)
  have h : ∀ (d k r : Nat), r + d = W → d < k → fX7_alikePairs_p5 n alike words (nI g) (nI b) k (nI (fb_sm (fun w => fb_ct (fun v => RR g (fun w => rowS (mLf ln mm w) b) v w && decide (v ≠ w)) W) r)) (nI r) = some (nI (prs (RR g (fun w => rowS (mLf ln mm w) b)) W)) := by
    intro d
    induction d with
    | zero =>
      intro k r hr hk
      obtain ⟨k, rfl⟩ : ∃ q, k = q + 1 := ⟨k - 1, by omega⟩
      have hp := prs_le (RR g (fun w => rowS (mLf ln mm w) b)) W
      have : W * W ≤ 16 * 16 := Nat.mul_le_mul hW hW
      rw [fX7_alikePairs_p5, e, if_pos (nI_le (by omega) (by omega)), show r = W from by omega, dbl (RR_sym g _), show (2 : Int32) = nI 2 from rfl, pk_div (by omega) (by decide) (by decide), Nat.mul_div_cancel_left _ (by decide)]
    | succ d ih =>
      intro k r hr hk
      obtain ⟨k, rfl⟩ : ∃ q, k = q + 1 := ⟨k - 1, by omega⟩
      have hi := ih k (r + 1) (by omega) (by omega)
      have hbb := bnd r (by omega)
      rw [fb_sm_succ, ends_eq (by omega)] at hi
      rw [fX7_alikePairs_p5, e, if_neg (nI_ge (by omega) (by omega)), ← e, X_isIn (by omega) (by omega), bd1_some]
      by_cases q : g.testBit r = true
      · rw [if_pos q] at hi
        rw [if_pos q, if_neg i10, X_alikeTo hX (by omega) hb, bd1_some, Int32.and_comm, fa_and, and_mk]
        have hlt : mk (al g (fun w => rowS (mLf ln mm w) b) r) W < 65536 := pow16 hW (mk_lt _ _)
        have hm : (fun v => g.testBit v && decide (rowS (mLf ln mm v) b = rowS (mLf ln mm r) b)) = al g (fun w => rowS (mLf ln mm w) b) r := rfl
        rw [hm, J_bitCount hlt, bd1_some, nm, ct_mk hW]
        have hpos : 0 < fb_ct (al g (fun w => rowS (mLf ln mm w) b) r) W := fb_ct_pos.mpr ⟨r, by omega, by unfold al; simp [q]⟩
        rw [i1nI, pk_sub (by omega), nI_add, ← i1nI, nI_1]
        exact hi
      · rw [if_neg q, Nat.add_zero] at hi
        rw [if_neg q, if_pos rfl, nI_1]
        exact hi
  exact h W n 0 (by omega) (by omega)
def F01 (p : Prop) [Decidable p] : Int32 := if p then 1 else 0
theorem M_cutloop (hn : 1000 ≤ n) (hM : okMT W Q nl ln mm am mletters mwords wMany wLetters masks aWords) {g b : Nat} (hg : g < 2 ^ W) (hb : b < 6) (x3 : Int32) : ∀ (d k w : Nat) (s t : Int32) (rs rt : Nat → Int32), w + d = W → d < k → ∃ s' f t' h, fX9_cut_p69 n mletters mwords wMany wLetters (nI b) x3 (nI g) k s rs t rt (nI (mk (fs g (fun w => rowS (mLf ln mm w) b)) w)) (nI (prs (RR g (fun w => rowS (mLf ln mm w) b)) w)) (nI w) = fX9_cut_p209 n s' f t' h x3 (nI (mk (fs g (fun w => rowS (mLf ln mm w) b)) W)) (nI (prs (RR g (fun w => rowS (mLf ln mm w) b)) W)) := by
  have hW := hM.1.1
  have h16 := pow16 hW hg
  have e := hM.2.2.1
  intro d
  induction d with
  | zero =>
    intro k w s t rs rt hw hk
    obtain ⟨k, rfl⟩ : ∃ q, k = q + 1 := ⟨k - 1, by omega⟩
    rw [fX9_cut_p69, e, if_pos (nI_le (by omega) (by omega)), show w = W from by omega]
    exact ⟨_, _, _, _, rfl⟩
  | succ d ih =>
    intro k w s t rs rt hw hk
    obtain ⟨k, rfl⟩ : ∃ q, k = q + 1 := ⟨k - 1, by omega⟩
    -- behind the inner loop
    have fin : ∀ (s t : Int32) (rs rt : Nat → Int32) (x6 x8 : Int32), x6 = nI (prs (RR g (fun w => rowS (mLf ln mm w) b)) (w + 1)) → x8 = F01 (fs g (fun w => rowS (mLf ln mm w) b) w = true) → ∃ s' f t' h, fX9_cut_p185 n mletters mwords wMany wLetters s rs t rt (nI b) x3 (nI g) (nI (mk (fs g (fun w => rowS (mLf ln mm w) b)) w)) x6 (nI w) x8 (fX9_cut_p69 n mletters mwords wMany wLetters (nI b) x3 (nI g) k) = fX9_cut_p209 n s' f t' h x3 (nI (mk (fs g (fun w => rowS (mLf ln mm w) b)) W)) (nI (prs (RR g (fun w => rowS (mLf ln mm w) b)) W)) := by
      intro s t rs rt x6 x8 h6 h8
      subst h6 h8
      unfold fX9_cut_p185
      by_cases z : fs g (fun w => rowS (mLf ln mm w) b) w = true
      · rw [if_neg (by unfold F01; rw [if_pos z]; decide), nm, or_mk (by omega) z, nI_1]
        exact ih k (w + 1) _ _ _ _ (by omega) (by omega)
      · rw [if_pos (by unfold F01; rw [if_neg z]), nm, i0nI, fa_or, Nat.or_zero, nI_1, ← mk_no (p := fs g (fun w => rowS (mLf ln mm w) b)) (k := w) (by simpa using z)]
        exact ih k (w + 1) _ _ _ _ (by omega) (by omega)
    rw [fX9_cut_p69, e, if_neg (nI_ge (by omega) (by omega)), ← e]
    by_cases q : g.testBit w = true
    · rw [if_pos ((bitv1 (by omega) (by omega)).mpr q)]
      have hR : ∀ v, RR g (fun w => rowS (mLf ln mm w) b) v w = al g (fun w => rowS (mLf ln mm w) b) w v := by
        intro v
        unfold RR al
        simp [q]
      have pe : prs (RR g (fun w => rowS (mLf ln mm w) b)) (w + 1) = prs (RR g (fun w => rowS (mLf ln mm w) b)) w + fb_ct (al g (fun w => rowS (mLf ln mm w) b) w) w := by
        rw [prs]
        congr 1
        exact fb_ct_cong (fun k hk => hR k)
      have inner : ∀ (d k2 v : Nat) (s t : Int32) (rs rt : Nat → Int32), v + d = w → d < k2 → ∃ s' f t' h, fX9_cut_p99 n mletters mwords wMany wLetters (nI b) x3 (nI g) (nI (mk (fs g (fun w => rowS (mLf ln mm w) b)) w)) (nI w) (fX9_cut_p69 n mletters mwords wMany wLetters (nI b) x3 (nI g) k) k2 s rs t rt (nI (prs (RR g (fun w => rowS (mLf ln mm w) b)) w + fb_ct (al g (fun w => rowS (mLf ln mm w) b) w) v)) (F01 (fb_ct (al g (fun w => rowS (mLf ln mm w) b) w) v = 0)) (nI v) = fX9_cut_p209 n s' f t' h x3 (nI (mk (fs g (fun w => rowS (mLf ln mm w) b)) W)) (nI (prs (RR g (fun w => rowS (mLf ln mm w) b)) W)) := by
        intro d
        induction d with
        | zero =>
          intro k2 v s t rs rt hv hk2
          obtain ⟨k2, rfl⟩ : ∃ q, k2 = q + 1 := ⟨k2 - 1, by omega⟩
          rw [fX9_cut_p99, show v = w from by omega, if_pos (nI_le (by omega) (by omega))]
          refine fin _ _ _ _ _ _ (by rw [pe]) ?_
          unfold fs F01
          rw [q, Bool.true_and]
          by_cases z : fb_ct (al g (fun w => rowS (mLf ln mm w) b) w) w = 0
          · rw [if_pos z, if_pos (by simpa using z)]
          · rw [if_neg z, if_neg (by simpa using z)]
        | succ d ih2 =>
          intro k2 v s t rs rt hv hk2
          obtain ⟨k2, rfl⟩ : ∃ q, k2 = q + 1 := ⟨k2 - 1, by omega⟩
          -- no pair here
          have none_ : ∀ (s t : Int32) (rs rt : Nat → Int32), al g (fun w => rowS (mLf ln mm w) b) w v = false → ∃ s' f t' h, fX9_cut_p144 n mletters mwords wMany wLetters s rs t rt (nI b) x3 (nI g) (nI (mk (fs g (fun w => rowS (mLf ln mm w) b)) w)) (nI (prs (RR g (fun w => rowS (mLf ln mm w) b)) w + fb_ct (al g (fun w => rowS (mLf ln mm w) b) w) v)) (nI w) (F01 (fb_ct (al g (fun w => rowS (mLf ln mm w) b) w) v = 0)) (nI v) (fX9_cut_p69 n mletters mwords wMany wLetters (nI b) x3 (nI g) k) (fX9_cut_p99 n mletters mwords wMany wLetters (nI b) x3 (nI g) (nI (mk (fs g (fun w => rowS (mLf ln mm w) b)) w)) (nI w) (fX9_cut_p69 n mletters mwords wMany wLetters (nI b) x3 (nI g) k) k2) = fX9_cut_p209 n s' f t' h x3 (nI (mk (fs g (fun w => rowS (mLf ln mm w) b)) W)) (nI (prs (RR g (fun w => rowS (mLf ln mm w) b)) W)) := by
            intro s t rs rt hal
            have hi := ih2 k2 (v + 1) s t rs rt (by omega) (by omega)
            rw [fb_ct_succ, hal, if_neg (by decide), Nat.add_zero] at hi
            unfold fX9_cut_p144 fX9_cut_p162
            by_cases z : fb_ct (al g (fun w => rowS (mLf ln mm w) b) w) v = 0
            · have e1 : F01 (fb_ct (al g (fun w => rowS (mLf ln mm w) b) w) v = 0) = 1 := if_pos z
              rw [e1] at hi ⊢
              rw [if_neg i10, if_pos rfl, if_pos rfl, nm, Int32.add_zero, nI_1]
              exact hi
            · have e1 : F01 (fb_ct (al g (fun w => rowS (mLf ln mm w) b) w) v = 0) = 0 := if_neg z
              rw [e1] at hi ⊢
              rw [if_pos rfl, if_pos rfl, nm, Int32.add_zero, nI_1]
              exact hi
          rw [fX9_cut_p99, if_neg (nI_ge (by omega) (by omega)), if_pos ((bitv1 (by omega) (by omega)).mpr q)]
          by_cases qv : g.testBit v = true
          · rw [if_pos ((bitv1 (by omega) (by omega)).mpr qv)]
            obtain ⟨s', f, t', h, ha⟩ := M_areOne hn hb hM.1 (by omega : v < W) (by omega : w < W) s t rs rt
            rw [ha, bd5_some]
            by_cases z : rowS (spc (mm v) (ln v)) b = rowS (spc (mm w) (ln w)) b
            · rw [if_pos z, if_neg i10]
              have hal : al g (fun w => rowS (mLf ln mm w) b) w v = true := by unfold al mLf; simp [qv, z]
              have hi := ih2 k2 (v + 1) s' t' f h (by omega) (by omega)
              rw [fb_ct_succ, hal, if_pos rfl] at hi
              have e2 : F01 (fb_ct (al g (fun w => rowS (mLf ln mm w) b) w) v + 1 = 0) = 0 := if_neg (by omega)
              rw [e2] at hi
              have p162 : fX9_cut_p162 n mletters mwords wMany wLetters s' f t' h (nI b) x3 (nI g) (nI (mk (fs g (fun w => rowS (mLf ln mm w) b)) w)) (nI (prs (RR g (fun w => rowS (mLf ln mm w) b)) w + fb_ct (al g (fun w => rowS (mLf ln mm w) b) w) v)) (nI w) (nI v) 1 0 (fX9_cut_p69 n mletters mwords wMany wLetters (nI b) x3 (nI g) k) (fX9_cut_p99 n mletters mwords wMany wLetters (nI b) x3 (nI g) (nI (mk (fs g (fun w => rowS (mLf ln mm w) b)) w)) (nI w) (fX9_cut_p69 n mletters mwords wMany wLetters (nI b) x3 (nI g) k) k2) = fX9_cut_p99 n mletters mwords wMany wLetters (nI b) x3 (nI g) (nI (mk (fs g (fun w => rowS (mLf ln mm w) b)) w)) (nI w) (fX9_cut_p69 n mletters mwords wMany wLetters (nI b) x3 (nI g) k) k2 s' f t' h (nI (prs (RR g (fun w => rowS (mLf ln mm w) b)) w + (fb_ct (al g (fun w => rowS (mLf ln mm w) b) w) v + 1))) 0 (nI (v + 1)) := by
                unfold fX9_cut_p162
                rw [if_neg i10, nm, nI_1, nI_1]
                rfl
              rw [p162]
              rw [if_neg i10, ite_self]
              exact hi
            · rw [if_neg z, if_pos rfl]
              exact none_ _ _ _ _ (by unfold al mLf; simp [z])
          · rw [if_neg (fun z => qv ((bitv1 (by omega) (by omega)).mp z))]
            exact none_ _ _ _ _ (by unfold al; simp [qv])
      have e0 : F01 (fb_ct (al g (fun w => rowS (mLf ln mm w) b) w) 0 = 0) = 1 := if_pos rfl
      have := inner w n 0 s t rs rt (by omega) (by omega)
      rw [e0] at this
      exact this
    · rw [if_neg (fun z => q ((bitv1 (by omega) (by omega)).mp z))]
      obtain ⟨n', hn'⟩ : ∃ q, n = q + 1 := ⟨n - 1, by omega⟩
      have e99 : fX9_cut_p99 n mletters mwords wMany wLetters (nI b) x3 (nI g) (nI (mk (fs g (fun w => rowS (mLf ln mm w) b)) w)) (nI w) (fX9_cut_p69 n mletters mwords wMany wLetters (nI b) x3 (nI g) k) (n' + 1) s rs t rt (nI (prs (RR g (fun w => rowS (mLf ln mm w) b)) w)) 0 0 = fX9_cut_p185 n mletters mwords wMany wLetters s rs t rt (nI b) x3 (nI g) (nI (mk (fs g (fun w => rowS (mLf ln mm w) b)) w)) (nI (prs (RR g (fun w => rowS (mLf ln mm w) b)) w)) (nI w) 0 (fX9_cut_p69 n mletters mwords wMany wLetters (nI b) x3 (nI g) k) := by
        rw [fX9_cut_p99, if_neg (fun z => q ((bitv1 (by omega) (by omega)).mp z)), ite_self]
      have hne : fX9_cut_p99 n mletters mwords wMany wLetters (nI b) x3 (nI g) (nI (mk (fs g (fun w => rowS (mLf ln mm w) b)) w)) (nI w) (fX9_cut_p69 n mletters mwords wMany wLetters (nI b) x3 (nI g) k) n s rs t rt (nI (prs (RR g (fun w => rowS (mLf ln mm w) b)) w)) 0 0 = fX9_cut_p99 n mletters mwords wMany wLetters (nI b) x3 (nI g) (nI (mk (fs g (fun w => rowS (mLf ln mm w) b)) w)) (nI w) (fX9_cut_p69 n mletters mwords wMany wLetters (nI b) x3 (nI g) k) (n' + 1) s rs t rt (nI (prs (RR g (fun w => rowS (mLf ln mm w) b)) w)) 0 0 := by rw [← hn']
      rw [hne, e99]
      refine fin _ _ _ _ _ _ ?_ ?_
      · rw [prs]
        have z : fb_ct (fun v => RR g (fun w => rowS (mLf ln mm w) b) v w) w = 0 := fb_ct_zero.mpr (fun k hk => by unfold RR; simp [q])
        rw [z, Nat.add_zero]
      · unfold F01 fs
        simp [q]
end CU
