/-! GROUPS of a CHILD: closure against labels; childOf -/
section GR
def Cn (E : Nat → Nat → Bool) (W u v : Nat) : Prop := ∀ P : Nat → Prop, P u → (∀ a b, a < W → b < W → P a → E a b = true → P b) → P v
theorem Cn_st {E : Nat → Nat → Bool} {W u v w : Nat} (h : Cn E W u v) (hv : v < W) (hw : w < W) (e : E v w = true) : Cn E W u w := fun P p c => c v w hv hw (h P p c) e
theorem Cn_tr {E : Nat → Nat → Bool} {W u v w : Nat} (h : Cn E W u v) (h' : Cn E W v w) : Cn E W u w := fun P p c => h' P (h P p c) c
theorem Cn_sy {E : Nat → Nat → Bool} {W u v : Nat} (hs : ∀ a b, a < W → b < W → E a b = E b a) (h : Cn E W u v) : Cn E W v u :=
  h (fun x => Cn E W x u) (fun _ p _ => p) (fun a b ha hb q e => fun P p c => q P (c b a hb ha p (by rw [hs b a hb ha]; exact e)) c)
/-- good labels: the least of a group -/
def GL (E : Nat → Nat → Bool) (W : Nat) (G : Nat → Nat) : Prop := (∀ v, v < W → G v ≤ v ∧ G (G v) = G v ∧ Cn E W v (G v)) ∧ ∀ a b, a < W → b < W → E a b = true → G a = G b
theorem GL_iff {E : Nat → Nat → Bool} {W u v : Nat} {G : Nat → Nat} (hs : ∀ a b, a < W → b < W → E a b = E b a) (h : GL E W G) (hu : u < W) (hv : v < W) : Cn E W u v ↔ G v = G u := by
  constructor
  · intro q
    exact q (fun x => G x = G u) rfl (fun a b ha hb z e => by rw [← z]; exact (h.2 a b ha hb e).symm)
  · intro e
    have h1 := (h.1 u hu).2.2
    have h2 := Cn_sy hs (h.1 v hv).2.2
    rw [← e] at h1
    exact Cn_tr h1 h2
theorem ct_strict {p q : Nat → Bool} : ∀ {n : Nat}, (∀ k, k < n → p k = true → q k = true) → (∃ k, k < n ∧ q k = true ∧ p k = false) → fb_ct p n < fb_ct q n
  | 0, _, h => by
    obtain ⟨k, hk, _⟩ := h
    omega
  | n + 1, h, ⟨k, hk, h1, h2⟩ => by
    rw [fb_ct_succ, fb_ct_succ]
    have s := fb_ct_sub (n := n) (p := p) (q := q) (fun k hk => h k (by omega))
    have t := h n (by omega)
    by_cases e : k = n
    · subst e
      rw [h1, h2, if_pos rfl, if_neg (by decide)]
      omega
    · have := ct_strict (n := n) (p := p) (q := q) (fun k hk => h k (by omega)) ⟨k, by omega, h1, h2⟩
      by_cases z : p n = true
      · rw [if_pos z, if_pos (t z)]
        omega
      · rw [if_neg z]
        omega
/-- a group widened by the words of it below r -/
def stp (E : Nat → Nat → Bool) (p : Nat → Bool) (r : Nat) : Nat → Bool := fun v => p v || decide (0 < fb_ct (fun u => p u && E v u) r)
variable {n W Q nl Ch : Nat} {ln : Nat → Nat} {mm : Nat → Nat → Nat} {am : Nat → Nat} {spelled alike near asks : Nat → Int32} {rows : Nat → Int64} {letters words askCount : Int32} {mletters wMany wLetters aWords : Nat → Int32} {mwords masks : Int32} {lm : Nat → Nat → Nat} {nlr mlr : Nat → Int32} {ns mc : Int32}
theorem X_widen (hX : okX W Q nl ln (mLf ln mm) am spelled rows alike near asks letters words askCount) (hN : RN W Ch lm nlr mlr ns mc) {c : Nat} (hc : c < Ch) (p : Nat → Bool) (x5 : Int32) (rec8 : Int32 → Int32 → Option Int32) : ∀ (d k r : Nat), r + d = W → d < k →
    fX2_groupWith_p22 n nlr near words (nI c) (nI (mk p W)) x5 rec8 k (nI (mk (stp (cfB lm (mLf ln mm) c) p r) W)) (nI r) = if mk (stp (cfB lm (mLf ln mm) c) p W) W = mk p W then some (nI (mk p W)) else rec8 (nI (mk (stp (cfB lm (mLf ln mm) c) p W) W)) (x5 + 1) := by
  have hW := hX.1
  have e := hX.2.2.2.2.1
  have h16 : ∀ q : Nat → Bool, mk q W < 65536 := fun q => pow16 hW (mk_lt q W)
  intro d
  induction d with
  | zero =>
    intro k r hr hk
    obtain ⟨k, rfl⟩ : ∃ q, k = q + 1 := ⟨k - 1, by omega⟩
    rw [fX2_groupWith_p22, e, if_pos (nI_le (by omega) (by omega)), show r = W from by omega]
    have z := h16 p
    have z2 := h16 (stp (cfB lm (mLf ln mm) c) p W)
    by_cases y : mk (stp (cfB lm (mLf ln mm) c) p W) W = mk p W
    · rw [if_pos (by rw [y]), if_pos y]
    · rw [if_neg (by rw [nI_eq (by omega) (by omega)]; exact y), if_neg y]
  | succ d ih =>
    intro k r hr hk
    obtain ⟨k, rfl⟩ : ∃ q, k = q + 1 := ⟨k - 1, by omega⟩
    have z := h16 p
    rw [fX2_groupWith_p22, e, if_neg (nI_ge (by omega) (by omega)), X_isIn (by omega) (by omega), bd1_some, mk_bit, ← e]
    have hi := ih k (r + 1) (by omega) (by omega)
    have rW : r < W := by omega
    by_cases y : p r = true
    · rw [if_neg (show ¬ (if (decide (r < W) && p r) = true then (1 : Int32) else 0) = 0 by rw [if_pos (by simp [rW, y])]; decide), X_confusedWith hX hN hc rW, bd1_some, nm, fa_or, nI_1]
      have : mk (stp (cfB lm (mLf ln mm) c) p r) W ||| mk (fun v => cfB lm (mLf ln mm) c v r) W = mk (stp (cfB lm (mLf ln mm) c) p (r + 1)) W := by
        refine msk_ext (N := W) (Nat.or_lt_two_pow (mk_lt _ _) (mk_lt _ _)) (mk_lt _ _) (fun j hj => ?_)
        rw [Nat.testBit_or, mk_bit, mk_bit, mk_bit]
        unfold stp
        rw [fb_ct_succ]
        by_cases x : cfB lm (mLf ln mm) c j r = true
        · simp [hj, x, y]
        · simp [hj, x, y]
      rw [this]
      exact hi
    · rw [if_pos (show (if (decide (r < W) && p r) = true then (1 : Int32) else 0) = 0 from if_neg (by simp [y])), nI_1]
      have : mk (stp (cfB lm (mLf ln mm) c) p (r + 1)) W = mk (stp (cfB lm (mLf ln mm) c) p r) W := by
        refine mk_cong (fun j hj => ?_)
        unfold stp
        rw [fb_ct_succ]
        simp [y]
      rw [this] at hi
      exact hi
theorem X_grow (hn : 1000 ≤ n) (hX : okX W Q nl ln (mLf ln mm) am spelled rows alike near asks letters words askCount) (hN : RN W Ch lm nlr mlr ns mc) {c w : Nat} (hc : c < Ch) (hw : w < W) : ∀ (d k r : Nat) (p : Nat → Bool), r + d = 16 → d < k → r + 1 ≤ fb_ct p W → p w = true → (∀ v, v < W → p v = true → Cn (cfB lm (mLf ln mm) c) W w v) →
    ∃ S : Nat → Bool, fX2_groupWith_p8 n nlr near words (nI c) k (nI (mk p W)) (nI r) = some (nI (mk S W)) ∧ S w = true ∧ (∀ v, v < W → S v = true → Cn (cfB lm (mLf ln mm) c) W w v) ∧ ∀ a b, a < W → b < W → S a = true → cfB lm (mLf ln mm) c a b = true → S b = true := by
  have hW := hX.1
  intro d
  induction d with
  | zero =>
    intro k r p hr hk hp
    have := fb_ct_le p W
    omega
  | succ d ih =>
    intro k r p hr hk hp h1 h2
    obtain ⟨k, rfl⟩ : ∃ q, k = q + 1 := ⟨k - 1, by omega⟩
    have e0 : mk (stp (cfB lm (mLf ln mm) c) p 0) W = mk p W := mk_cong (fun j hj => by unfold stp; simp [fb_ct])
    have hx := X_widen (n := n) hX hN hc p (nI r) (fX2_groupWith_p8 n nlr near words (nI c) k) W n 0 (by omega) (by omega)
    rw [e0] at hx
    rw [fX2_groupWith_p8, show (16 : Int32) = nI 16 from rfl, if_neg (nI_ge (by omega) (by omega)), i0nI, hx]
    have hs : ∀ a b, a < W → b < W → cfB lm (mLf ln mm) c a b = cfB lm (mLf ln mm) c b a := fun a b ha hb => cfB_sym hN hc (by omega) (by omega)
    by_cases y : mk (stp (cfB lm (mLf ln mm) c) p W) W = mk p W
    · rw [if_pos y]
      refine ⟨p, rfl, h1, h2, fun a b ha hb q e => ?_⟩
      have t : (mk (stp (cfB lm (mLf ln mm) c) p W) W).testBit b = (mk p W).testBit b := by rw [y]
      rw [mk_bit, mk_bit] at t
      have t2 : stp (cfB lm (mLf ln mm) c) p W b = true := by
        unfold stp
        have : 0 < fb_ct (fun u => p u && cfB lm (mLf ln mm) c b u) W := fb_ct_pos.mpr ⟨a, ha, by rw [hs b a hb ha, q, e]; rfl⟩
        simp [this]
      rw [t2] at t
      simp only [hb, decide_true, Bool.and_true, Bool.true_and] at t
      exact t.symm
    · rw [if_neg y, nI_1]
      have sub : ∀ v, v < W → p v = true → stp (cfB lm (mLf ln mm) c) p W v = true := fun v _ q => by unfold stp; simp [q]
      refine ih k (r + 1) _ (by omega) (by omega) ?_ (sub w hw h1) ?_
      · have : fb_ct p W < fb_ct (stp (cfB lm (mLf ln mm) c) p W) W := by
          refine ct_strict sub ?_
          apply Classical.byContradiction
          intro nq
          apply y
          refine mk_cong (fun j hj => ?_)
          by_cases z : p j = true
          · rw [z, sub j hj z]
          · by_cases z2 : stp (cfB lm (mLf ln mm) c) p W j = true
            · exact absurd ⟨j, hj, z2, by simpa using z⟩ nq
            · rw [Bool.not_eq_true] at z z2
              rw [z, z2]
        omega
      · intro v hv q
        unfold stp at q
        rw [Bool.or_eq_true, decide_eq_true_eq] at q
        rcases q with q | q
        · exact h2 v hv q
        · obtain ⟨u, hu, q⟩ := fb_ct_pos.mp q
          rw [Bool.and_eq_true] at q
          exact Cn_st (h2 u hu q.1) hu hv (by rw [hs u v hu hv]; exact q.2)
theorem X_groupWith (hn : 1000 ≤ n) (hX : okX W Q nl ln (mLf ln mm) am spelled rows alike near asks letters words askCount) (hN : RN W Ch lm nlr mlr ns mc) {c w : Nat} (hc : c < Ch) (hw : w < W) {G : Nat → Nat} (hG : GL (cfB lm (mLf ln mm) c) W G) :
    fX2_groupWith n nlr near words (nI c) (nI w) = some (nI (mk (fun v => decide (G v = G w)) W)) := by
  have hW := hX.1
  have e1 : nI (2 ^ w) = nI (mk (fun v => decide (v = w)) W) := by
    congr 1
    refine msk_ext (N := W) (Nat.pow_lt_pow_right (by decide) hw) (mk_lt _ _) (fun j hj => ?_)
    rw [mk_bit, Nat.testBit_two_pow]
    by_cases z : w = j
    · simp [z, hj]
    · simp [z]
      intro _ y
      exact z y.symm
  unfold fX2_groupWith
  rw [shl1 (by omega), nm, e1, i0nI]
  obtain ⟨S, h1, h2, h3, h4⟩ := X_grow hn hX hN hc hw 16 n 0 (fun v => decide (v = w)) (by omega) (by omega) (fb_ct_pos.mpr ⟨w, hw, by simp⟩) (by simp) (fun v hv q => by
    have : v = w := by simpa using q
    rw [this]
    exact fun P p _ => p)
  rw [h1]
  congr 2
  refine mk_cong (fun v hv => ?_)
  have hs : ∀ a b, a < W → b < W → cfB lm (mLf ln mm) c a b = cfB lm (mLf ln mm) c b a := fun a b ha hb => cfB_sym hN hc (by omega) (by omega)
  have i := GL_iff hs hG hw hv
  by_cases y : G v = G w
  · rw [decide_eq_true y]
    exact (i.mpr y) (fun x => S x = true) h2 h4
  · rw [decide_eq_false y]
    rw [← Bool.not_eq_true]
    exact fun z => y (i.mp (h3 v hv z))
/-! the lowest bit of a mask -/
theorem ntz_pow {n t : Nat} (ht : t < 16) : fJ6_numberOfTrailingZeros_0f7a4_p34 n (nI (2 ^ t - 1)) 1 = some (nI t) ∨ t = 0 := by
  have : t = 0 ∨ t = 1 ∨ t = 2 ∨ t = 3 ∨ t = 4 ∨ t = 5 ∨ t = 6 ∨ t = 7 ∨ t = 8 ∨ t = 9 ∨ t = 10 ∨ t = 11 ∨ t = 12 ∨ t = 13 ∨ t = 14 ∨ t = 15 := by omega
  rcases this with rfl | rfl | rfl | rfl | rfl | rfl | rfl | rfl | rfl | rfl | rfl | rfl | rfl | rfl | rfl | rfl
  · exact Or.inr rfl
  all_goals exact Or.inl rfl
theorem low_mask {x t : Nat} (hx : x < 65536) (h1 : x.testBit t = true) (h2 : ∀ j, j < t → x.testBit j = false) : (nI x ^^^ (-1)) &&& (nI x - 1) = nI (2 ^ t - 1) := by
  have x0 : 1 ≤ x := by
    rcases Nat.eq_zero_or_pos x with z | z
    · rw [z] at h1; simp at h1
    · exact z
  have m0 : x % 2 ^ t = 0 := by
    apply Nat.eq_of_testBit_eq
    intro j
    rw [Nat.testBit_mod_two_pow]
    by_cases z : j < t
    · simp [h2 j z]
    · simp [z]
  obtain ⟨q, hq⟩ : ∃ q, x = 2 ^ t * q := ⟨x / 2 ^ t, by have := Nat.div_add_mod x (2 ^ t); omega⟩
  have pz : 0 < 2 ^ t := Nat.pow_pos (by decide)
  have qo : q % 2 = 1 := by
    rw [hq, Nat.testBit_two_pow_mul] at h1
    simpa [Nat.testBit_zero] using h1
  obtain ⟨s, hs⟩ : ∃ s, q = 2 * s + 1 := ⟨q / 2, by omega⟩
  have xe : x - 1 = 2 ^ t * (2 * s) + (2 ^ t - 1) := by
    rw [hq, hs, Nat.mul_add, Nat.mul_one]
    omega
  rw [show nI x - 1 = nI (x - 1) from by rw [i1nI, pk_sub x0]]
  apply b_ext
  intro i hi
  rw [b_and, b_xor, b_m1 i hi, bt_nI hi, bt_nI hi, bt_nI hi, Nat.testBit_two_pow_sub_one, xe, Nat.testBit_two_pow_mul_add _ (by omega)]
  by_cases z : i < t
  · rw [if_pos z, h2 i z, Nat.testBit_two_pow_sub_one]
    simp [z]
  · rw [if_neg z, hq, hs, Nat.testBit_two_pow_mul]
    have z2 : t ≤ i := by omega
    cases hd : i - t with
    | zero => simp [z, z2, Nat.testBit_zero]
    | succ m =>
      rw [Nat.testBit_succ, Nat.testBit_succ, show 2 * s / 2 = s from by omega, show (2 * s + 1) / 2 = s from by omega]
      simp [z, z2]
theorem J_ntz {n t N : Nat} {p : Nat → Bool} (hN : N ≤ 16) (ht : t < N) (h1 : p t = true) (h2 : ∀ j, j < t → p j = false) : fJ6_numberOfTrailingZeros_0f7a4 n (nI (mk p N)) = some (nI t) := by
  unfold fJ6_numberOfTrailingZeros_0f7a4
  rw [low_mask (t := t) (pow16 hN (mk_lt p N)) (by rw [mk_bit, h1]; simp [ht]) (fun j hj => by rw [mk_bit, h2 j hj]; simp), nm]
  have b : 2 ^ t < 65536 := pow16 hN (Nat.pow_lt_pow_right (by decide) ht)
  rcases ntz_pow (n := n) (t := t) (by omega) with h | h
  · by_cases t0 : t = 0
    · subst t0
      rfl
    · have : 2 ≤ 2 ^ t := by
        have := Nat.pow_le_pow_right (show 0 < 2 by decide) (show 1 ≤ t by omega)
        omega
      rw [i0nI, if_pos (nI_lt (by omega) (by omega)), show (65536 : Int32) = nI 65536 from rfl, if_pos (nI_le (by omega) (by omega)), h]
  · subst h
    rfl
end GR
