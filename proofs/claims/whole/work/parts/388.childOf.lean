/-! the reference's labels; childOf -/
section CO
variable {n W Q nl Ch : Nat} {ln : Nat → Nat} {mm : Nat → Nat → Nat} {am : Nat → Nat} {spelled alike near asks : Nat → Int32} {rows : Nat → Int64} {letters words askCount : Int32} {mletters wMany wLetters aWords : Nat → Int32} {mwords masks : Int32} {lm : Nat → Nat → Nat} {nlr mlr : Nat → Int32} {ns mc : Int32}
theorem M_relabel {W : Nat} (hW : W ≤ 16) (em : mwords = nI W) {G : Nat → Nat} (hG : ∀ v, v < W → G v < W) {a b : Nat} (hb : b < W) (s t : Int32) (rs rt : Nat → Int32) (x1 x2 x3 : Int32) (rec25 rec35 : Int32 → (Nat → Int32) → Int32 → (Nat → Int32) → (Nat → Int32) → Int32 → Option (Int32 × (Nat → Int32) × Int32 × (Nat → Int32) × (Nat → Int32))) : ∀ (d k r : Nat) (f : Nat → Int32), r + d = W → d < k → (∀ v, v < W → f v = nI (if v < r ∧ G v = b then a else G v)) →
    ∃ f' : Nat → Int32, fX9_findGroups_p118 n mletters mwords wMany wLetters s rs t rt mlr x1 x2 x3 (nI a) (nI b) rec25 rec35 k f (nI r) = rec35 s rs t rt f' (x3 + 1) ∧ ∀ v, v < W → f' v = nI (if G v = b then a else G v) := by
  intro d
  induction d with
  | zero =>
    intro k r f hr hk hf
    obtain ⟨k, rfl⟩ : ∃ q, k = q + 1 := ⟨k - 1, by omega⟩
    rw [fX9_findGroups_p118, em, if_pos (nI_le (by omega) (by omega))]
    refine ⟨f, rfl, fun v hv => ?_⟩
    rw [hf v hv]
    have : v < r := by omega
    simp [this]
  | succ d ih =>
    intro k r f hr hk hf
    obtain ⟨k, rfl⟩ : ∃ q, k = q + 1 := ⟨k - 1, by omega⟩
    have rW : r < W := by omega
    have g1 := hG r rW
    have fr : f r = nI (G r) := by
      rw [hf r rW]
      simp
    rw [fX9_findGroups_p118, em, if_neg (nI_ge (by omega) (by omega)), ar_nI (by omega) (by decide), fr, ← em]
    by_cases y : G r = b
    · rw [if_pos (by rw [y]), aw_nI (by omega) (by decide), nI_1]
      refine ih k (r + 1) _ (by omega) (by omega) (fun v hv => ?_)
      by_cases z : v = r
      · subst z
        rw [pk_us, if_pos ⟨by omega, y⟩]
      · rw [pk_un (by omega), hf v hv]
        have : (v < r + 1) ↔ v < r := by omega
        simp only [this]
    · rw [if_neg (by rw [nI_eq (by omega) (by omega)]; exact y), ar_nI (by omega) (by decide), aw_nI (by omega) (by decide), nI_1]
      refine ih k (r + 1) _ (by omega) (by omega) (fun v hv => ?_)
      by_cases z : v = r
      · subst z
        rw [pk_us, fr, if_neg (fun q => y q.2)]
      · rw [pk_un (by omega), hf v hv]
        have : (v < r + 1) ↔ v < r := by omega
        simp only [this]
theorem M_findGroups (hn : 1000 ≤ n) (hM : okMT W Q nl ln mm am mletters mwords wMany wLetters masks aWords) (hN : RN W Ch lm nlr mlr ns mc) {c : Nat} (hc : c < Ch) (s t : Int32) (rs rt gr : Nat → Int32) : ∃ s' f t' g gr' G, fX9_findGroups n mletters mwords wMany wLetters s rs t rt mlr gr (nI c) = some (s', f, t', g, gr') ∧ (∀ v, v < W → gr' v = nI (G v)) ∧ GL (cfB lm (mLf ln mm) c) W G := by
  have hW := hM.1.1
  have em := hM.2.2.1
  have hs : ∀ a b, a < W → b < W → cfB lm (mLf ln mm) c a b = cfB lm (mLf ln mm) c b a := fun a b ha hb => cfB_sym hN hc (by omega) (by omega)
  have hr : ∀ a, cfB lm (mLf ln mm) c a a = false := fun a => by unfold cfB; simp
  unfold fX9_findGroups
  have outer : ∀ (d k v : Nat) (s t : Int32) (rs rt gr : Nat → Int32) (G : Nat → Nat), v + d = W → d < k → (∀ u, u < W → gr u = nI (G u)) → (∀ u, u < W → G u ≤ u ∧ G (G u) = G u ∧ Cn (cfB lm (mLf ln mm) c) W u (G u)) → (∀ a b, a < v → b < a → cfB lm (mLf ln mm) c a b = true → G a = G b) →
      ∃ s' f t' g gr' G, fX9_findGroups_p25 n mletters mwords wMany wLetters mlr (nI c) k s rs t rt gr (nI v) = some (s', f, t', g, gr') ∧ (∀ v, v < W → gr' v = nI (G v)) ∧ GL (cfB lm (mLf ln mm) c) W G := by
    intro d
    induction d with
    | zero =>
      intro k v s t rs rt gr G hv hk h1 h2 h3
      obtain ⟨k, rfl⟩ : ∃ q, k = q + 1 := ⟨k - 1, by omega⟩
      rw [fX9_findGroups_p25, em, if_pos (nI_le (by omega) (by omega))]
      refine ⟨_, _, _, _, _, G, rfl, h1, h2, fun a b ha hb e => ?_⟩
      rcases Nat.lt_trichotomy a b with z | z | z
      · exact (h3 b a (by omega) z (by rw [hs b a hb ha]; exact e)).symm
      · rw [z]
      · exact h3 a b (by omega) z e
    | succ d ih =>
      intro k v s t rs rt gr G hv hk h1 h2 h3
      obtain ⟨k, rfl⟩ : ∃ q, k = q + 1 := ⟨k - 1, by omega⟩
      have vW : v < W := by omega
      rw [fX9_findGroups_p25, em, if_neg (nI_ge (by omega) (by omega)), ← em]
      have inner : ∀ (d2 k2 w : Nat) (s t : Int32) (rs rt gr : Nat → Int32) (G : Nat → Nat), w + d2 = v → d2 < k2 → (∀ u, u < W → gr u = nI (G u)) → (∀ u, u < W → G u ≤ u ∧ G (G u) = G u ∧ Cn (cfB lm (mLf ln mm) c) W u (G u)) → (∀ a b, (a < v ∧ b < a ∨ a = v ∧ b < w) → cfB lm (mLf ln mm) c a b = true → G a = G b) →
          ∃ s' f t' g gr' G, fX9_findGroups_p35 n mletters mwords wMany wLetters mlr (nI c) (nI v) (fX9_findGroups_p25 n mletters mwords wMany wLetters mlr (nI c) k) k2 s rs t rt gr (nI w) = some (s', f, t', g, gr') ∧ (∀ v, v < W → gr' v = nI (G v)) ∧ GL (cfB lm (mLf ln mm) c) W G := by
        intro d2
        induction d2 with
        | zero =>
          intro k2 w s t rs rt gr G hw hk2 h1 h2 h3
          obtain ⟨k2, rfl⟩ : ∃ q, k2 = q + 1 := ⟨k2 - 1, by omega⟩
          rw [fX9_findGroups_p35, if_pos (nI_le (by omega) (by omega)), nI_1]
          refine ih k (v + 1) s t rs rt gr G (by omega) (by omega) h1 h2 (fun a b ha hb e => h3 a b (by omega) e)
        | succ d2 ih2 =>
          intro k2 w s t rs rt gr G hw hk2 h1 h2 h3
          obtain ⟨k2, rfl⟩ : ∃ q, k2 = q + 1 := ⟨k2 - 1, by omega⟩
          have wW : w < W := by omega
          obtain ⟨s', f, t', g, h⟩ := M_confuse hn hM hN hc vW wW s t rs rt
          rw [fX9_findGroups_p35, if_neg (nI_ge (by omega) (by omega)), h, bd5_some]
          by_cases y : cfB lm (mLf ln mm) c v w = true
          · have gv := h2 v vW
            have gw := h2 w wW
            rw [if_pos y, if_neg i10, ar_nI (by omega) (by decide), ar_nI (by omega) (by decide), h1 v vW, h1 w wW]
            by_cases z : G v = G w
            · rw [if_pos (by rw [z]), nI_1]
              refine ih2 k2 (w + 1) s' t' f g gr G (by omega) (by omega) h1 h2 (fun a b ha e => ?_)
              by_cases q : a = v ∧ b = w
              · rw [q.1, q.2, z]
              · exact h3 a b (by omega) e
            · rw [if_neg (by rw [nI_eq (by omega) (by omega)]; exact z), ar_nI (by omega) (by decide), ar_nI (by omega) (by decide), h1 v vW, h1 w wW]
              have fin : ∀ a b : Nat, a < b → (a = G v ∧ b = G w ∨ a = G w ∧ b = G v) → ∃ s'' f' t'' g' gr' G, fX9_findGroups_p95 n mletters mwords wMany wLetters s' f t' g mlr gr (nI c) (nI v) (nI w) (nI a) (fX9_findGroups_p25 n mletters mwords wMany wLetters mlr (nI c) k) (fX9_findGroups_p35 n mletters mwords wMany wLetters mlr (nI c) (nI v) (fX9_findGroups_p25 n mletters mwords wMany wLetters mlr (nI c) k) k2) = some (s'', f', t'', g', gr') ∧ (∀ v, v < W → gr' v = nI (G v)) ∧ GL (cfB lm (mLf ln mm) c) W G := by
                intro a b hab hq
                unfold fX9_findGroups_p95
                have bW : b < W := by omega
                rw [ar_nI (by omega) (by decide), ar_nI (by omega) (by decide), h1 v vW, h1 w wW, nm, nI_add, pk_sub (by omega), show G v + G w - a = b from by omega]
                obtain ⟨f', e1, e2⟩ := M_relabel (n := n) (mletters := mletters) (wMany := wMany) (wLetters := wLetters) (mlr := mlr) hW em (G := G) (fun v hv => by have := h2 v hv; omega) (a := a) (b := b) bW s' t' f g (nI c) (nI v) (nI w) (fX9_findGroups_p25 n mletters mwords wMany wLetters mlr (nI c) k) (fX9_findGroups_p35 n mletters mwords wMany wLetters mlr (nI c) (nI v) (fX9_findGroups_p25 n mletters mwords wMany wLetters mlr (nI c) k) k2) W n 0 gr (by omega) (by omega) (fun v hv => by rw [h1 v hv]; simp)
                rw [i0nI, e1, nI_1]
                have ab : G a = a ∧ G b = b := by
                  rcases hq with ⟨q1, q2⟩ | ⟨q1, q2⟩
                  · rw [q1, q2]; exact ⟨gv.2.1, gw.2.1⟩
                  · rw [q1, q2]; exact ⟨gw.2.1, gv.2.1⟩
                have cba : Cn (cfB lm (mLf ln mm) c) W b a := by
                  have c1 : Cn (cfB lm (mLf ln mm) c) W (G v) (G w) := Cn_tr (Cn_st (Cn_sy hs gv.2.2) vW wW y) gw.2.2
                  rcases hq with ⟨q1, q2⟩ | ⟨q1, q2⟩
                  · rw [q1, q2]; exact Cn_sy hs c1
                  · rw [q1, q2]; exact c1
                refine ih2 k2 (w + 1) s' t' f g f' (fun v => if G v = b then a else G v) (by omega) (by omega) e2 (fun u hu => ?_) (fun p q hpq e => ?_)
                · have gu := h2 u hu
                  by_cases q : G u = b
                  · simp only [q, if_true]
                    rw [ab.1, if_neg (by omega)]
                    refine ⟨by omega, rfl, ?_⟩
                    have := gu.2.2
                    rw [q] at this
                    exact Cn_tr this cba
                  · simp only [q, if_false]
                    rw [gu.2.1, if_neg q]
                    exact ⟨gu.1, rfl, gu.2.2⟩
                · by_cases x : p = v ∧ q = w
                  · rw [x.1, x.2]
                    rcases hq with ⟨q1, q2⟩ | ⟨q1, q2⟩
                    · simp only [← q1, ← q2, if_true]
                      rw [if_neg (by omega)]
                    · simp only [← q1, ← q2, if_true]
                      rw [if_neg (by omega)]
                  · simp only [h3 p q (by omega) e]
              by_cases x : G w ≤ G v
              · rw [if_pos (nI_le x (by omega)), ar_nI (by omega) (by decide), h1 w wW]
                exact fin (G w) (G v) (by omega) (Or.inr ⟨rfl, rfl⟩)
              · rw [if_neg (nI_ge (by omega) (by omega)), ar_nI (by omega) (by decide), h1 v vW]
                exact fin (G v) (G w) (by omega) (Or.inl ⟨rfl, rfl⟩)
          · rw [if_neg y, if_pos rfl, nI_1]
            refine ih2 k2 (w + 1) s' t' f g gr G (by omega) (by omega) h1 h2 (fun a b ha e => ?_)
            by_cases q : a = v ∧ b = w
            · rw [q.1, q.2] at e
              exact absurd e y
            · exact h3 a b (by omega) e
      exact inner v n 0 s t rs rt gr G (by omega) (by omega) h1 h2 (fun a b ha e => h3 a b (by omega) (by omega) e)
  have init : ∀ (d k v : Nat) (gr : Nat → Int32), v + d = W → d < k → (∀ u, u < v → gr u = nI u) → ∃ s' f t' g gr' G, fX9_findGroups_p2 n mletters mwords wMany wLetters s rs t rt mlr (nI c) k gr (nI v) = some (s', f, t', g, gr') ∧ (∀ v, v < W → gr' v = nI (G v)) ∧ GL (cfB lm (mLf ln mm) c) W G := by
    intro d
    induction d with
    | zero =>
      intro k v gr hv hk h1
      obtain ⟨k, rfl⟩ : ∃ q, k = q + 1 := ⟨k - 1, by omega⟩
      rw [fX9_findGroups_p2, em, if_pos (nI_le (by omega) (by omega)), ← em]
      exact outer W n 0 s t rs rt gr (fun v => v) (by omega) (by omega) (fun u hu => h1 u (by omega)) (fun u _ => ⟨Nat.le_refl _, rfl, fun P p _ => p⟩) (fun a b ha => by omega)
    | succ d ih =>
      intro k v gr hv hk h1
      obtain ⟨k, rfl⟩ : ∃ q, k = q + 1 := ⟨k - 1, by omega⟩
      rw [fX9_findGroups_p2, em, if_neg (nI_ge (by omega) (by omega)), aw_nI (by omega) (by decide), nI_1, ← em]
      refine ih k (v + 1) _ (by omega) (by omega) (fun u hu => ?_)
      by_cases z : u = v
      · rw [z, pk_us]
      · rw [pk_un (by omega), h1 u (by omega)]
  exact init W n 0 gr (by omega) (by omega) (fun u hu => by omega)
theorem prs_cong {R R' : Nat → Nat → Bool} : ∀ {N : Nat}, (∀ v w, v < w → w < N → R v w = R' v w) → prs R N = prs R' N
  | 0, _ => rfl
  | N + 1, h => by
    rw [prs, prs, prs_cong (fun v w h1 h2 => h v w h1 (by omega)), fb_ct_cong (fun v hv => h v N hv (by omega))]
theorem ct_below (p : Nat → Bool) {v W : Nat} (h : v ≤ W) : fb_ct (fun u => decide (u < v) && p u) W = fb_ct p v := by
  obtain ⟨d, rfl⟩ : ∃ d, W = v + d := ⟨W - v, by omega⟩
  rw [fb_ct_split]
  have z : fb_ct (fun k => decide (v + k < v) && p (v + k)) d = 0 := fb_ct_zero.mpr (fun k _ => by rw [decide_eq_false (by omega)]; rfl)
  rw [z, Nat.add_zero]
  exact fb_ct_cong (fun k hk => by simp [hk])
def mx (f : Nat → Nat) : Nat → Nat
  | 0 => 0
  | k + 1 => if f k ≤ mx f k then mx f k else f k
theorem mx_le {f : Nat → Nat} {B : Nat} : ∀ {N : Nat}, mx f N ≤ B ↔ ∀ i, i < N → f i ≤ B
  | 0 => by simp [mx]
  | N + 1 => by
    have h := mx_le (f := f) (B := B) (N := N)
    rw [mx]
    constructor
    · intro q i hi
      by_cases z : f N ≤ mx f N
      · rw [if_pos z] at q
        by_cases e : i = N
        · subst e; omega
        · exact h.mp q i (by omega)
      · rw [if_neg z] at q
        by_cases e : i = N
        · subst e; exact q
        · exact h.mp (by omega) i (by omega)
    · intro q
      by_cases z : f N ≤ mx f N
      · rw [if_pos z]
        exact h.mpr (fun i hi => q i (by omega))
      · rw [if_neg z]
        exact q N (by omega)
theorem ge_mx {f : Nat → Nat} {N i : Nat} (h : i < N) : f i ≤ mx f N := mx_le.mp (Nat.le_refl _) i h
/-- the pairs learned, on both sides of the mask -/
def R1 (lm : Nat → Nat → Nat) (c : Nat) : Nat → Nat → Bool := fun v w => decide (v < 16) && (decide (w < 16) && (lm c w).testBit v)
theorem X_learnedPairs (hn : 1000 ≤ n) (hW : W ≤ 16) (hN : RN W Ch lm nlr mlr ns mc) {c : Nat} (hc : c < Ch) : fX2_learnedPairs n nlr (nI c) = some (nI (prs (R1 lm c) W)) := by
  have hC := hN.1
  obtain ⟨-, h⟩ := hN.2.2.2.1 c hc
  have sy : ∀ v w, R1 lm c v w = R1 lm c w v := by
    intro v w
    unfold R1
    by_cases hv : v < 16
    · by_cases hw : w < 16
      · simp only [hv, hw, decide_true, Bool.true_and]
        exact (h w hw).2.2.2.2.2 v hv
      · simp [hw]
    · simp [hv]
  have up : ∀ d, W + d ≤ 16 → prs (R1 lm c) (W + d) = prs (R1 lm c) W := by
    intro d
    induction d with
    | zero => intro _; rfl
    | succ d ih =>
      intro hd
      rw [← Nat.add_assoc, prs, ih (by omega)]
      have z : fb_ct (fun v => R1 lm c v (W + d)) (W + d) = 0 := fb_ct_zero.mpr (fun k _ => by unfold R1; rw [(h (W + d) (by omega)).2.2.2.2.1 (by omega)]; simp)
      rw [z, Nat.add_zero]
  have tot := up (16 - W) (by omega)
  rw [show W + (16 - W) = 16 from by omega] at tot
  have d2 := dbl sy 16
  have t16 := prs_le (R1 lm c) 16
  have lp : ∀ (d k r : Nat), r + d = 16 → d < k → fX2_learnedPairs_p4 n nlr (nI c) k (nI (fb_sm (fun w => fb_ct (fun v => R1 lm c v w && decide (v ≠ w)) 16) r)) (nI r) = some (nI (prs (R1 lm c) W)) := by
    intro d
    induction d with
    | zero =>
      intro k r hr hk
      obtain ⟨k, rfl⟩ : ∃ q, k = q + 1 := ⟨k - 1, by omega⟩
      rw [fX2_learnedPairs_p4, show r = 16 from by omega, if_pos (by decide), d2, show (2 : Int32) = nI 2 from rfl, pk_div (by omega) (by decide) (by decide), show 2 * prs (R1 lm c) 16 / 2 = prs (R1 lm c) 16 from by omega, tot]
    | succ d ih =>
      intro k r hr hk
      obtain ⟨k, rfl⟩ : ∃ q, k = q + 1 := ⟨k - 1, by omega⟩
      have hi := ih k (r + 1) (by omega) (by omega)
      obtain ⟨a1, a2, a3, a4, a5, a6⟩ := h r (by omega)
      rw [fX2_learnedPairs_p4, show (16 : Int32) = nI 16 from rfl, if_neg (nI_ge (by omega) (by omega)), pk_mul, nI_add, ar_nI (by omega) (by decide), a2, J_bitCount (pow16 hW a1), bd1_some, nm, nI_add, nI_1]
      have : fb_ct (fun v => R1 lm c v r && decide (v ≠ r)) 16 = ct (lm c r) := by
        unfold ct
        refine fb_ct_cong (fun v hv => ?_)
        unfold R1
        have r16 : r < 16 := by omega
        by_cases e : v = r
        · rw [e, a4]; simp
        · simp [e, hv, r16]
      rw [fb_sm_succ, this] at hi
      exact hi
  exact lp 16 n 0 (by omega) (by omega)
theorem P_childOf (hn : 1000 ≤ n) (hX : okX W Q nl ln (mLf ln mm) am spelled rows alike near asks letters words askCount) (hM : okMT W Q nl ln mm am mletters mwords wMany wLetters masks aWords) (hN : RN W Ch lm nlr mlr ns mc) (s t : Int32) (rs rt gr : Nat → Int32) (x1 x2 : Int32) :
    ∃ (r s' : Int32) (f : Nat → Int32) (t' : Int32) (g gr' : Nat → Int32), fX8_childOf n nlr ns near words x1 x2 = some r ∧ fX9_childOf n mletters mwords wMany wLetters s rs t rt mc mlr gr x1 x2 = some (r, s', f, t', g, gr') := by
  have hW := hX.1
  have hC := hN.1
  have e := hX.2.2.2.2.1
  have em := hM.2.2.1
  unfold fX8_childOf fX9_childOf
  rw [hN.2.1, hN.2.2.1]
  rcases ixc x1 Ch with ⟨c, hc, rfl⟩ | q
  · rw [fX2_isChild_y hc (by omega), fX9_isChild_y hc (by omega), bd1_some, bd1_some, if_neg i10, if_neg i10]
    obtain ⟨-, h⟩ := hN.2.2.2.1 c hc
    obtain ⟨s1, f1, t1, g1, gr1, G, m1, m2, m3⟩ := M_findGroups hn hM hN hc s t rs rt gr
    have gW : ∀ v, v < W → G v < W := fun v hv => by have := (m3.1 v hv).1; omega
    have hs : ∀ a b, a < W → b < W → cfB lm (mLf ln mm) c a b = cfB lm (mLf ln mm) c b a := fun a b ha hb => cfB_sym hN hc (by omega) (by omega)
    -- the reference's loops
    have loop : ∀ (x2 : Int32) (d k v : Nat) (s t : Int32) (rs rt : Nat → Int32), v + d = W → d < k → ∃ s' f t' g, fX9_childOf_p60 n mletters mwords wMany wLetters mlr gr1 (nI c) x2 k s rs t rt (nI (prs (R1 lm c) v)) (nI (prs (fun a b => cfB lm (mLf ln mm) c b a) v)) (nI (fb_ct (fun u => decide (G u = u)) v)) (nI (mx (fun x => fb_ct (fun u => decide (G u = x)) W) v)) (nI v) = fX9_childOf_p216 n s' f t' g gr1 x2 (nI (prs (R1 lm c) W)) (nI (prs (fun a b => cfB lm (mLf ln mm) c b a) W)) (nI (fb_ct (fun u => decide (G u = u)) W)) (nI (mx (fun x => fb_ct (fun u => decide (G u = x)) W) W)) := by
      intro x2 d
      induction d with
      | zero =>
        intro k v s t rs rt hv hk
        obtain ⟨k, rfl⟩ : ∃ q, k = q + 1 := ⟨k - 1, by omega⟩
        rw [fX9_childOf_p60, em, if_pos (nI_le (by omega) (by omega)), show v = W from by omega]
        exact ⟨_, _, _, _, rfl⟩
      | succ d ih =>
        intro k v s t rs rt hv hk
        obtain ⟨k, rfl⟩ : ∃ q, k = q + 1 := ⟨k - 1, by omega⟩
        have vW : v < W := by omega
        have inner : ∀ (d2 k2 w : Nat) (s t : Int32) (rs rt : Nat → Int32), w + d2 = W → d2 < k2 → ∃ s' f t' g, fX9_childOf_p97 n mletters mwords wMany wLetters mlr gr1 (nI c) x2 (nI (fb_ct (fun u => decide (G u = u)) (v + 1))) (nI (mx (fun x => fb_ct (fun u => decide (G u = x)) W) v)) (nI v) (fX9_childOf_p60 n mletters mwords wMany wLetters mlr gr1 (nI c) x2 k) k2 s rs t rt (nI (prs (R1 lm c) v + fb_ct (fun u => decide (u < v) && R1 lm c u v) w)) (nI (prs (fun a b => cfB lm (mLf ln mm) c b a) v + fb_ct (fun u => decide (u < v) && cfB lm (mLf ln mm) c v u) w)) (nI (fb_ct (fun u => decide (G u = v)) w)) (nI w) = fX9_childOf_p216 n s' f t' g gr1 x2 (nI (prs (R1 lm c) W)) (nI (prs (fun a b => cfB lm (mLf ln mm) c b a) W)) (nI (fb_ct (fun u => decide (G u = u)) W)) (nI (mx (fun x => fb_ct (fun u => decide (G u = x)) W) W)) := by
          intro d2
          induction d2 with
          | zero =>
            intro k2 w s t rs rt hw hk2
            obtain ⟨k2, rfl⟩ : ∃ q, k2 = q + 1 := ⟨k2 - 1, by omega⟩
            rw [fX9_childOf_p97, em, if_pos (nI_le (by omega) (by omega)), ← em, show w = W from by omega]
            unfold fX9_childOf_p194
            have c1 := ct_below (fun u => R1 lm c u v) (show v ≤ W by omega)
            have c2 := ct_below (fun u => cfB lm (mLf ln mm) c v u) (show v ≤ W by omega)
            have hi := ih k (v + 1) s t rs rt (by omega) (by omega)
            rw [prs, prs, mx] at hi
            rw [c1, c2]
            have b1 := fb_ct_le (fun u => decide (G u = v)) W
            have b2 : mx (fun x => fb_ct (fun u => decide (G u = x)) W) v ≤ W := mx_le.mpr (fun i _ => fb_ct_le _ _)
            by_cases z : fb_ct (fun u => decide (G u = v)) W ≤ mx (fun x => fb_ct (fun u => decide (G u = x)) W) v
            · rw [if_pos z] at hi
              rw [if_pos (nI_le z (by omega)), nI_1]
              exact hi
            · rw [if_neg z] at hi
              rw [if_neg (nI_ge (by omega) (by omega)), nI_1]
              exact hi
          | succ d2 ih2 =>
            intro k2 w s t rs rt hw hk2
            obtain ⟨k2, rfl⟩ : ∃ q, k2 = q + 1 := ⟨k2 - 1, by omega⟩
            have wW : w < W := by omega
            have gw := gW w wW
            rw [fX9_childOf_p97, em, if_neg (nI_ge (by omega) (by omega)), ar_nI (by omega) (by decide), m2 w wW, ← em]
            have rest : ∀ z : Nat, z = (if decide (G w = v) = true then 1 else 0) → ∃ s' f t' g, fX9_childOf_p125 n mletters mwords wMany wLetters s rs t rt mlr gr1 (nI c) x2 (nI (prs (R1 lm c) v + fb_ct (fun u => decide (u < v) && R1 lm c u v) w)) (nI (prs (fun a b => cfB lm (mLf ln mm) c b a) v + fb_ct (fun u => decide (u < v) && cfB lm (mLf ln mm) c v u) w)) (nI (fb_ct (fun u => decide (G u = u)) (v + 1))) (nI (mx (fun x => fb_ct (fun u => decide (G u = x)) W) v)) (nI v) (nI w) (nI (fb_ct (fun u => decide (G u = v)) w)) (nI z) (fX9_childOf_p60 n mletters mwords wMany wLetters mlr gr1 (nI c) x2 k) (fX9_childOf_p97 n mletters mwords wMany wLetters mlr gr1 (nI c) x2 (nI (fb_ct (fun u => decide (G u = u)) (v + 1))) (nI (mx (fun x => fb_ct (fun u => decide (G u = x)) W) v)) (nI v) (fX9_childOf_p60 n mletters mwords wMany wLetters mlr gr1 (nI c) x2 k) k2) = fX9_childOf_p216 n s' f t' g gr1 x2 (nI (prs (R1 lm c) W)) (nI (prs (fun a b => cfB lm (mLf ln mm) c b a) W)) (nI (fb_ct (fun u => decide (G u = u)) W)) (nI (mx (fun x => fb_ct (fun u => decide (G u = x)) W) W)) := by
              intro z hz
              unfold fX9_childOf_p125
              rw [nI_add, nm]
              by_cases lt : w < v
              · rw [if_neg (nI_ge (by omega) (by omega)), show (16 : Int32) = nI 16 from rfl, pk_mul, nI_add, Nat.mul_comm, ar_nI (by omega) (by decide), (h v (by omega)).2.2.1, bitv (by have := pow16 hW (h v (by omega)).1; omega) (by omega)]
                unfold fX9_childOf_p157
                rw [nI_add, nm, if_neg (nI_ge (by omega) (by omega))]
                obtain ⟨s', f, t', g, hc2⟩ := M_confuse hn hM hN hc vW wW s t rs rt
                rw [hc2, bd5_some]
                have hi := ih2 k2 (w + 1) s' t' f g (by omega) (by omega)
                have r1 : R1 lm c w v = (lm c v).testBit w := by
                  unfold R1
                  have y1 : w < 16 := by omega
                  have y2 : v < 16 := by omega
                  simp [y1, y2]
                rw [fb_ct_succ _ w, fb_ct_succ _ w, fb_ct_succ _ w, ← hz, r1, decide_eq_true lt, Bool.true_and, Bool.true_and, ← Nat.add_assoc, ← Nat.add_assoc] at hi
                by_cases y : cfB lm (mLf ln mm) c v w = true
                · rw [if_pos y, if_neg i10, nI_1, nm, nI_1]
                  rw [if_pos y] at hi
                  exact hi
                · rw [if_neg y, if_pos rfl, Int32.add_zero, nm, nI_1]
                  rw [if_neg y, Nat.add_zero] at hi
                  exact hi
              · rw [if_pos (nI_le (by omega) (by omega))]
                unfold fX9_childOf_p157
                rw [Int32.add_zero, nm, if_pos (nI_le (by omega) (by omega)), Int32.add_zero, nm, nI_1]
                have hi := ih2 k2 (w + 1) s t rs rt (by omega) (by omega)
                rw [fb_ct_succ _ w, fb_ct_succ _ w, fb_ct_succ _ w, ← hz, decide_eq_false lt, Bool.false_and, Bool.false_and, if_neg (by decide), Nat.add_zero, Nat.add_zero] at hi
                exact hi
            by_cases y : G w = v
            · rw [if_pos (by rw [y])]
              exact rest 1 (by simp [y])
            · rw [if_neg (by rw [nI_eq (by omega) (by omega)]; exact y)]
              exact rest 0 (by simp [y])
        have gv := gW v vW
        rw [fX9_childOf_p60, em, if_neg (nI_ge (by omega) (by omega)), ar_nI (by omega) (by decide), m2 v vW, ← em]
        have fi := inner W n 0 s t rs rt (by omega) (by omega)
        rw [fb_ct_succ] at fi
        by_cases y : G v = v
        · rw [if_pos (by rw [y]), nm, nI_1]
          rw [if_pos (decide_eq_true y)] at fi
          exact fi
        · rw [if_neg (by rw [nI_eq (by omega) (by omega)]; exact y), nm, Int32.add_zero]
          rw [if_neg (by simp [y]), Nat.add_zero] at fi
          exact fi
    obtain ⟨s2, f2, t2, g2, m4⟩ := loop x2 W n 0 s1 t1 f1 g1 (by omega) (by omega)
    have run : fX9_childOf_p41 n mletters mwords wMany wLetters s rs t rt mlr gr (nI c) x2 = fX9_childOf_p216 n s2 f2 t2 g2 gr1 x2 (nI (prs (R1 lm c) W)) (nI (prs (fun a b => cfB lm (mLf ln mm) c b a) W)) (nI (fb_ct (fun u => decide (G u = u)) W)) (nI (mx (fun x => fb_ct (fun u => decide (G u = x)) W) W)) := by
      unfold fX9_childOf_p41
      rw [m1, bd5_some]
      exact m4
    rw [run]
    have gm : ∀ w, w < W → fJ6_numberOfTrailingZeros_0f7a4 n (nI (mk (fun v => decide (G v = G w)) W)) = some (nI (G w)) := fun w hw =>
      J_ntz hW (gW w hw) (by simp [(m3.1 w hw).2.1]) (fun j hj => by
        have := (m3.1 j (by have := gW w hw; omega)).1
        simp only [decide_eq_false_iff_not]
        omega)
    have in4 : ∀ j, j < 4 → fX9_in n (nI j).toInt64 (0 : Int64) (3 : Int64) = some 1 := fun j hj => by
      rw [show (0 : Int64) = lN 0 from rfl, show (3 : Int64) = lN 3 from rfl, M_in_y (by omega) (by decide)]
    rcases ixc x2 4 with ⟨j, hj, rfl⟩ | q
    · rw [in4 j hj, bd1_some, if_neg i10]
      have : j = 0 ∨ j = 1 ∨ j = 2 ∨ j = 3 := by omega
      rcases this with rfl | rfl | rfl | rfl
      · rw [if_pos (by decide), X_learnedPairs hn hW hN hc, bd1_some]
        unfold fX9_childOf_p216
        rw [if_pos (by decide)]
        exact ⟨_, _, _, _, _, _, rfl, rfl⟩
      · rw [if_neg (by decide), if_pos (by decide)]
        unfold fX7_allWords
        have hb : 2 ^ W - 1 < 2 ^ W := by
          have : 0 < 2 ^ W := Nat.pow_pos (by decide)
          omega
        rw [bd1_some, show ((1 : Int32) <<< (words &&& 31)) - 1 = nI (2 ^ W - 1) from by rw [e]; exact allW hW, X_confPairs hn hX hN hc hb, bd1_some]
        unfold fX9_childOf_p216
        rw [if_neg (by decide), if_pos (by decide)]
        refine ⟨_, s2, f2, t2, g2, gr1, rfl, ?_⟩
        rw [prs_cong (R := RC lm (mLf ln mm) c (2 ^ W - 1)) (R' := fun a b => cfB lm (mLf ln mm) c b a) (fun v w h1 h2 => ?_)]
        unfold RC
        have y1 : v < W := by omega
        have y3 : v < 16 := by omega
        have y4 : w < 16 := by omega
        rw [Nat.testBit_two_pow_sub_one, Nat.testBit_two_pow_sub_one, hs v w y1 h2]
        simp [y1, h2, y3, y4]
      · rw [if_neg (by decide), if_neg (by decide), if_pos (by decide)]
        unfold fX9_childOf_p216
        rw [if_neg (by decide), if_neg (by decide), if_pos (by decide)]
        have lp : ∀ (d k r : Nat), r + d = W → d < k → fX2_groups_p5 n nlr near words (nI c) k (nI (fb_ct (fun u => decide (G u = u)) r)) (nI r) = some (nI (fb_ct (fun u => decide (G u = u)) W)) := by
          intro d
          induction d with
          | zero =>
            intro k r hr hk
            obtain ⟨k, rfl⟩ : ∃ q, k = q + 1 := ⟨k - 1, by omega⟩
            rw [fX2_groups_p5, e, if_pos (nI_le (by omega) (by omega)), show r = W from by omega]
          | succ d ih =>
            intro k r hr hk
            obtain ⟨k, rfl⟩ : ∃ q, k = q + 1 := ⟨k - 1, by omega⟩
            have rW : r < W := by omega
            have gr := gW r rW
            have hi := ih k (r + 1) (by omega) (by omega)
            rw [fX2_groups_p5, e, if_neg (nI_ge (by omega) (by omega)), ← e, X_groupWith hn hX hN hc rW m3, bd1_some, gm r rW, bd1_some]
            rw [fb_ct_succ] at hi
            by_cases y : G r = r
            · rw [if_pos (by rw [y]), nI_1, nI_1]
              rw [if_pos (decide_eq_true y)] at hi
              exact hi
            · rw [if_neg (by rw [nI_eq (by omega) (by omega)]; exact y), nI_1]
              rw [if_neg (by simp [y]), Nat.add_zero] at hi
              exact hi
        unfold fX2_groups
        have := lp W n 0 (by omega) (by omega)
        rw [show fX2_groups_p5 n nlr near words (nI c) n 0 0 = some (nI (fb_ct (fun u => decide (G u = u)) W)) from this, bd1_some]
        exact ⟨_, _, _, _, _, _, rfl, rfl⟩
      · rw [if_neg (by decide), if_neg (by decide), if_neg (by decide), if_pos (by decide)]
        unfold fX9_childOf_p216
        rw [if_neg (by decide), if_neg (by decide), if_neg (by decide), if_pos (by decide)]
        have lp : ∀ (d k r : Nat), r + d = W → d < k → fX2_greatestGroup_p5 n nlr near words (nI c) k (nI (mx (fun w => fb_ct (fun v => decide (G v = G w)) W) r)) (nI r) = some (nI (mx (fun w => fb_ct (fun v => decide (G v = G w)) W) W)) := by
          intro d
          induction d with
          | zero =>
            intro k r hr hk
            obtain ⟨k, rfl⟩ : ∃ q, k = q + 1 := ⟨k - 1, by omega⟩
            rw [fX2_greatestGroup_p5, e, if_pos (nI_le (by omega) (by omega)), show r = W from by omega]
          | succ d ih =>
            intro k r hr hk
            obtain ⟨k, rfl⟩ : ∃ q, k = q + 1 := ⟨k - 1, by omega⟩
            have rW : r < W := by omega
            have hi := ih k (r + 1) (by omega) (by omega)
            rw [fX2_greatestGroup_p5, e, if_neg (nI_ge (by omega) (by omega)), ← e, X_groupWith hn hX hN hc rW m3, bd1_some, J_bitCount (pow16 hW (mk_lt _ _)), bd1_some, ct_mk hW]
            have b1 := fb_ct_le (fun v => decide (G v = G r)) W
            have b2 : mx (fun w => fb_ct (fun v => decide (G v = G w)) W) r ≤ W := mx_le.mpr (fun i _ => fb_ct_le _ _)
            rw [mx] at hi
            by_cases y : fb_ct (fun v => decide (G v = G r)) W ≤ mx (fun w => fb_ct (fun v => decide (G v = G w)) W) r
            · rw [if_pos y] at hi
              rw [if_neg (nI_nlt y (by omega)), nm, nI_1]
              exact hi
            · rw [if_neg y] at hi
              rw [if_pos (nI_lt (by omega) (by omega)), nm, nI_1]
              exact hi
        unfold fX2_greatestGroup
        have := lp W n 0 (by omega) (by omega)
        rw [show fX2_greatestGroup_p5 n nlr near words (nI c) n 0 0 = some (nI (mx (fun w => fb_ct (fun v => decide (G v = G w)) W) W)) from this, bd1_some]
        have mxe : mx (fun w => fb_ct (fun v => decide (G v = G w)) W) W = mx (fun x => fb_ct (fun u => decide (G u = x)) W) W := by
          apply Nat.le_antisymm
          · exact mx_le.mpr (fun i hi => ge_mx (f := fun x => fb_ct (fun u => decide (G u = x)) W) (gW i hi))
          · refine mx_le.mpr (fun i hi => ?_)
            rcases Nat.eq_zero_or_pos (fb_ct (fun u => decide (G u = i)) W) with z | z
            · show fb_ct (fun u => decide (G u = i)) W ≤ _
              rw [z]; exact Nat.zero_le _
            · obtain ⟨v, hv, y⟩ := fb_ct_pos.mp z
              have y2 : G v = i := by simpa using y
              have := ge_mx (f := fun w => fb_ct (fun v => decide (G v = G w)) W) hv
              simp only [y2] at this
              exact this
        rw [mxe]
        exact ⟨_, _, _, _, _, _, rfl, rfl⟩
    · have ne : ∀ j, j < 4 → ¬ x2 = nI j := fun j hj z => q (by rw [z]; exact nI_inR hj (by decide))
      have n0 : ¬ x2 = 0 := ne 0 (by decide)
      have n1 : ¬ x2 = 1 := ne 1 (by decide)
      have n2 : ¬ x2 = 2 := ne 2 (by decide)
      have n3 : ¬ x2 = 3 := ne 3 (by decide)
      rw [if_neg n0, if_neg n1, if_neg n2, if_neg n3]
      rw [show (0 : Int64) = lN 0 from rfl, show (3 : Int64) = lN 3 from rfl, M_in_n (by decide) q, bd1_some, if_pos rfl, M_in, bd1_some, i32_64, i32_64, e, em]
      have l9 : ((9 : Int32) + nI W).toInt = 9 + W := by
        rw [show (9 : Int32) = nI 9 from rfl, nI_add, nI_toInt (by omega)]
        omega
      rw [l9, show (10 : Int64).toInt = 10 from rfl]
      by_cases y : (10 : Int) ≤ x2.toInt ∧ x2.toInt ≤ 9 + W
      · obtain ⟨m, hm, rfl⟩ := inR_nI (x := x2) (N := 10 + W) ⟨by omega, by omega⟩
        rw [nI_toInt (by omega)] at y
        obtain ⟨w, hw⟩ : ∃ w, m = 10 + w := ⟨m - 10, by omega⟩
        subst hw
        have wW : w < W := by omega
        rw [nI_toInt (by omega), if_pos y, if_neg i10]
        rw [show (10 : Int32) = nI 10 from rfl, if_neg (nI_nlt (by omega) (by omega)), pk_sub (by omega), show 10 + w - 10 = w from by omega, fX7_isWord_y wW (by omega), bd1_some, if_neg i10, ← e, X_groupWith hn hX hN hc wW m3, bd1_some, gm w wW, bd1_some]
        unfold fX9_childOf_p216
        rw [if_neg n0, if_neg n1, if_neg n2, if_neg n3, show (10 : Int32) = nI 10 from rfl, pk_sub (by omega), show 10 + w - 10 = w from by omega, ar_nI (by omega) (by decide), m2 w wW]
        exact ⟨_, _, _, _, _, _, rfl, rfl⟩
      · rw [if_neg y, if_pos rfl]
        by_cases z : x2 < (10 : Int32)
        · rw [if_pos z]
          exact ⟨_, _, _, _, _, _, rfl, rfl⟩
        · have rg := fb_rng x2
          rw [fa_lt, show (10 : Int32).toInt = 10 from rfl] at z
          have sb : (x2 - (10 : Int32)).toInt = x2.toInt - 10 := by
            rw [fb_subI] <;> rw [show (10 : Int32).toInt = 10 from rfl] <;> omega
          rw [if_neg (by rw [fa_lt, show (10 : Int32).toInt = 10 from rfl]; exact z), fX7_isWord_n (by omega) (by unfold inR; rw [sb]; omega), bd1_some, if_pos rfl]
          exact ⟨_, _, _, _, _, _, rfl, rfl⟩
  · rw [fX2_isChild_n (by omega) q, fX9_isChild_n (by omega) q, bd1_some, bd1_some, if_pos rfl, if_pos rfl]
    exact ⟨_, _, _, _, _, _, rfl, rfl⟩
end CO
