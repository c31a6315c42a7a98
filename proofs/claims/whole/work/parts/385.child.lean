/-! CHILDREN: child, learn -/
def RN (W Ch : Nat) (lm : Nat → Nat → Nat) (nl ml : Nat → Int32) (ns mc : Int32) : Prop :=
  Ch ≤ 4 ∧ ns = nI Ch ∧ mc = nI Ch ∧ (∀ c, c < Ch → W ≤ 16 ∧ ∀ w, w < 16 → lm c w < 2 ^ W ∧ nl (c * 16 + w) = nI (lm c w) ∧ ml (c * 16 + w) = nI (lm c w) ∧ (lm c w).testBit w = false ∧ (W ≤ w → lm c w = 0) ∧ ∀ v, v < 16 → (lm c w).testBit v = (lm c v).testBit w) ∧ ∀ c, Ch ≤ c → c < 4 → ∀ w, w < 16 → nl (c * 16 + w) = 0
theorem M_childloop {n Ch : Nat} (hC : Ch < 4) : ∀ (d k w : Nat) (f : Nat → Int32), w + d = 16 → d < k → ∃ f', fX9_child_p13 n (nI Ch) k f (nI w) = some (nI Ch, nI (Ch + 1), f') ∧ (∀ j, (j < Ch * 16 + w ∨ Ch * 16 + 16 ≤ j) → f' j = f j) ∧ ∀ v, w ≤ v → v < 16 → f' (Ch * 16 + v) = 0 := by
  intro d
  induction d with
  | zero =>
    intro k w f hw hk
    obtain ⟨k, rfl⟩ : ∃ q, k = q + 1 := ⟨k - 1, by omega⟩
    refine ⟨f, ?_, fun _ _ => rfl, fun v h1 h2 => absurd h2 (by omega)⟩
    rw [fX9_child_p13, show w = 16 from by omega, if_pos (by decide), nm, nI_1, nI_pred]
  | succ d ih =>
    intro k w f hw hk
    obtain ⟨k, rfl⟩ : ∃ q, k = q + 1 := ⟨k - 1, by omega⟩
    obtain ⟨f', e, h1, h2⟩ := ih k (w + 1) (upd f (Ch * 16 + w) 0) (by omega) (by omega)
    refine ⟨f', ?_, fun j hj => ?_, fun v hv1 hv2 => ?_⟩
    · rw [fX9_child_p13, show (16 : Int32) = nI 16 from rfl, if_neg (nI_ge (by omega) (by decide)), pk_mul, nI_add, Nat.mul_comm, aw_nI (by omega) (by decide), nI_1]
      exact e
    · rw [h1 j (by omega), pk_un (by omega)]
    · by_cases z : v = w
      · subst z
        rw [h1 _ (by omega), pk_us]
      · exact h2 v (by omega) hv2
theorem P_child {n W Ch : Nat} (hn : 1000 ≤ n) (hW : W ≤ 16) {lm : Nat → Nat → Nat} {nl ml : Nat → Int32} {ns mc : Int32} (h : RN W Ch lm nl ml ns mc) :
    ∃ (r a b : Int32) (g : Nat → Int32) (Ch' : Nat) (lm' : Nat → Nat → Nat), fX8_child n ns = some (r, a) ∧ fX9_child n mc ml = some (r, b, g) ∧ RN W Ch' lm' nl g a b := by
  obtain ⟨h1, rfl, rfl, h4, h5⟩ := h
  unfold fX8_child fX9_child
  by_cases q : Ch < 4
  · obtain ⟨f', e, g1, g2⟩ := M_childloop (n := n) q 16 n 0 ml (by omega) (by omega)
    refine ⟨nI Ch, nI (Ch + 1), nI (Ch + 1), f', Ch + 1, fun c w => if c = Ch then 0 else lm c w, ?_, ?_, by omega, rfl, rfl, fun c hc => ⟨hW, fun w hw => ?_⟩, fun c hc hc4 w hw => h5 c (by omega) hc4 w hw⟩
    · rw [show (4 : Int32) = nI 4 from rfl, if_pos (nI_lt q (by decide)), nm, nI_1, nI_pred]
    · rw [show (4 : Int32) = nI 4 from rfl, if_neg (by rw [nI_eq (by omega) (by decide)]; omega)]
      exact e
    · dsimp only
      by_cases z : c = Ch
      · subst z
        rw [h5 c (Nat.le_refl _) q w hw, g2 w (by omega) hw]
        refine ⟨by rw [if_pos rfl]; exact Nat.two_pow_pos W, by rw [if_pos rfl]; rfl, by rw [if_pos rfl]; rfl, by rw [if_pos rfl, Nat.zero_testBit], fun _ => if_pos rfl, fun v hv => by rw [if_pos rfl, if_pos rfl, Nat.zero_testBit, Nat.zero_testBit]⟩
      · obtain ⟨-, h4⟩ := h4 c (by omega)
        obtain ⟨a1, a2, a3, a4, a5, a6⟩ := h4 w hw
        rw [g1 (c * 16 + w) (by omega)]
        refine ⟨by rw [if_neg z]; exact a1, by rw [if_neg z]; exact a2, by rw [if_neg z]; exact a3, by rw [if_neg z]; exact a4, fun y => by rw [if_neg z]; exact a5 y, fun v hv => by rw [if_neg z, if_neg z]; exact a6 v hv⟩
  · have e : Ch = 4 := by omega
    subst e
    exact ⟨-3, nI 4, nI 4, ml, 4, lm, rfl, rfl, Nat.le_refl _, rfl, rfl, h4, h5⟩
theorem or_bit2 {m k : Nat} (hk : k < 31) : nI m ||| ((1 : Int32) <<< (nI k &&& 31)) = nI (m ||| 2 ^ k) := by
  rw [shl1 hk, fa_or]
theorem P_learn {n W Ch : Nat} {lm : Nat → Nat → Nat} {nl ml : Nat → Int32} {ns mc words mwords : Int32} (hW : W ≤ 16) (ew : words = nI W) (em : mwords = nI W) (h : RN W Ch lm nl ml ns mc) (x1 x2 x3 : Int32) :
    ∃ (r : Int32) (f g : Nat → Int32) (lm' : Nat → Nat → Nat), fX8_learn n nl ns words x1 x2 x3 = some (r, f) ∧ fX9_learn n mwords mc ml x1 x2 x3 = some (r, g) ∧ RN W Ch lm' f g ns mc := by
  have h0 := h
  obtain ⟨h1, rfl, rfl, h4, h5⟩ := h
  unfold fX8_learn fX9_learn
  rw [ew, em]
  rcases ixc x1 Ch with ⟨c, hc, rfl⟩ | q
  · rw [fX2_isChild_y hc (by omega), fX9_isChild_y hc (by omega), bd1_some, bd1_some, if_neg i10, if_neg i10]
    rcases ixc x2 W with ⟨v, hv, rfl⟩ | q
    · rw [fX7_isWord_y hv (by omega), fX9_isWord_y hv (by omega), bd1_some, bd1_some, if_neg i10, if_neg i10]
      rcases ixc x3 W with ⟨w, hw, rfl⟩ | q
      · rw [fX7_isWord_y hw (by omega), fX9_isWord_y hw (by omega), bd1_some, bd1_some, if_neg i10, if_neg i10]
        by_cases z : v = w
        · rw [if_pos (by rw [z]), if_pos (by rw [z])]
          exact ⟨_, nl, ml, lm, rfl, rfl, h0⟩
        · rw [if_neg (by rw [nI_eq (by omega) (by omega)]; exact z), if_neg (by rw [nI_eq (by omega) (by omega)]; exact z)]
          obtain ⟨-, h4c⟩ := h4 c hc
          obtain ⟨a1, a2, a3, a4, a5, a6⟩ := h4c v (by omega)
          obtain ⟨b1, b2, b3, b4, b5, b6⟩ := h4c w (by omega)
          have l1 := pow16 hW a1
          have l2 := pow16 hW b1
          have iv : nI 16 * nI c + nI v = nI (c * 16 + v) := by rw [pk_mul, nI_add, Nat.mul_comm]
          have iw : nI 16 * nI c + nI w = nI (c * 16 + w) := by rw [pk_mul, nI_add, Nat.mul_comm]
          have jv : nI c * nI 16 + nI v = nI (c * 16 + v) := by rw [pk_mul, nI_add]
          have jw : nI c * nI 16 + nI w = nI (c * 16 + w) := by rw [pk_mul, nI_add]
          have ne : c * 16 + w ≠ c * 16 + v := by omega
          -- the reference
          have eM : (ar ((16 : Int32) * nI c + nI v) 64 ml fun v8 => nm ((v8 >>> (nI w &&& 31)) &&& 1) fun v9 => ar ((16 : Int32) * nI c + nI v) 64 ml fun v10 => aw ((16 : Int32) * nI c + nI v) 64 ml (v10 ||| (1 <<< (nI w &&& 31))) fun f11 => ar ((16 : Int32) * nI c + nI w) 64 f11 fun v12 => aw ((16 : Int32) * nI c + nI w) 64 f11 (v12 ||| (1 <<< (nI v &&& 31))) fun f13 => some (1 - v9, f13)) = some (1 - nI (if (lm c v).testBit w then 1 else 0), upd (upd ml (c * 16 + v) (nI (lm c v ||| 2 ^ w))) (c * 16 + w) (nI (lm c w ||| 2 ^ v))) := by
            rw [show (16 : Int32) = nI 16 from rfl, iv, iw, ar_nI (by omega) (by decide), a3, nm, bitv (by omega) (by omega), ar_nI (by omega) (by decide), a3, or_bit2 (by omega), aw_nI (by omega) (by decide), ar_nI (by omega) (by decide), pk_un ne, b3, or_bit2 (by omega), aw_nI (by omega) (by decide)]
          rw [eM]
          unfold fX2_teach
          rw [nm, show (16 : Int32) = nI 16 from rfl, jv, jw, ar_nI (by omega) (by decide), a2, X_isIn (by omega) (by omega), bd1_some]
          by_cases y : (lm c v).testBit w = true
          · -- it had
            have yw : (lm c w).testBit v = true := by rw [b6 v (by omega)]; exact y
            have e1 : lm c v ||| 2 ^ w = lm c v := by
              refine msk_ext (N := 16) (Nat.or_lt_two_pow (n := 16) (by omega) (Nat.pow_lt_pow_right (by decide) (by omega))) (by omega) (fun j hj => ?_)
              rw [Nat.testBit_or, Nat.testBit_two_pow]
              by_cases t : w = j
              · subst t; simp [y]
              · simp [t]
            have e2 : lm c w ||| 2 ^ v = lm c w := by
              refine msk_ext (N := 16) (Nat.or_lt_two_pow (n := 16) (by omega) (Nat.pow_lt_pow_right (by decide) (by omega))) (by omega) (fun j hj => ?_)
              rw [Nat.testBit_or, Nat.testBit_two_pow]
              by_cases t : v = j
              · subst t; simp [yw]
              · simp [t]
            rw [if_pos y, if_neg i10, bd2_some, if_pos rfl, e1, e2]
            refine ⟨0, nl, _, lm, rfl, by rw [if_pos y]; rfl, h1, rfl, rfl, fun c' hc' => ⟨hW, fun u hu => ?_⟩, h5⟩
            obtain ⟨-, h4d⟩ := h4 c' hc'
            obtain ⟨d1, d2, d3, d4, d5, d6⟩ := h4d u hu
            refine ⟨d1, d2, ?_, d4, d5, d6⟩
            by_cases t1 : c' * 16 + u = c * 16 + w
            · have t2 : c' = c := by omega
              have t3 : u = w := by omega
              subst t2 t3
              rw [pk_us]
            · rw [pk_un t1]
              by_cases t4 : c' * 16 + u = c * 16 + v
              · have t2 : c' = c := by omega
                have t3 : u = v := by omega
                subst t2 t3
                rw [pk_us]
              · rw [pk_un t4]
                exact d3
          · rw [if_neg y, if_pos rfl, ar_nI (by omega) (by decide), a2, or_bit2 (by omega), aw_nI (by omega) (by decide), ar_nI (by omega) (by decide), pk_un ne, b2, or_bit2 (by omega), aw_nI (by omega) (by decide), bd2_some, if_neg i10]
            refine ⟨1, _, _, fun c' u => if c' = c ∧ u = w then lm c w ||| 2 ^ v else if c' = c ∧ u = v then lm c v ||| 2 ^ w else lm c' u, rfl, by rw [if_neg y]; rfl, h1, rfl, rfl, fun c' hc' => ⟨hW, fun u hu => ?_⟩, fun c' hc1 hc2 u hu => ?_⟩
            · dsimp only
              obtain ⟨-, h4d⟩ := h4 c' hc'
              obtain ⟨d1, d2, d3, d4, d5, d6⟩ := h4d u hu
              have pw : 2 ^ v < 2 ^ W := Nat.pow_lt_pow_right (by decide) hv
              have pv : 2 ^ w < 2 ^ W := Nat.pow_lt_pow_right (by decide) hw
              have sym : ∀ v', v' < 16 → (if c' = c ∧ u = w then lm c w ||| 2 ^ v else if c' = c ∧ u = v then lm c v ||| 2 ^ w else lm c' u).testBit v' = (if c' = c ∧ v' = w then lm c w ||| 2 ^ v else if c' = c ∧ v' = v then lm c v ||| 2 ^ w else lm c' v').testBit u := by
                intro v' hv'
                have s1 := d6 v' hv'
                by_cases k1 : c' = c
                · subst k1
                  by_cases k2 : u = w
                  · subst k2
                    rw [if_pos ⟨rfl, rfl⟩, Nat.testBit_or, Nat.testBit_two_pow]
                    by_cases k3 : v' = u
                    · subst k3
                      rw [if_pos ⟨rfl, rfl⟩, Nat.testBit_or, Nat.testBit_two_pow]
                    · rw [if_neg (fun t => k3 t.2)]
                      by_cases k4 : v' = v
                      · subst k4
                        rw [if_pos ⟨rfl, rfl⟩, Nat.testBit_or, Nat.testBit_two_pow]
                        simp
                      · rw [if_neg (fun t => k4 t.2), s1]
                        have : ¬ v = v' := fun t => k4 t.symm
                        simp [this]
                  · rw [if_neg (fun t => k2 t.2)]
                    by_cases k5 : u = v
                    · subst k5
                      rw [if_pos ⟨rfl, rfl⟩, Nat.testBit_or, Nat.testBit_two_pow]
                      by_cases k3 : v' = w
                      · subst k3
                        rw [if_pos ⟨rfl, rfl⟩, Nat.testBit_or, Nat.testBit_two_pow]
                        simp
                      · rw [if_neg (fun t => k3 t.2)]
                        have n1 : ¬ w = v' := fun t => k3 t.symm
                        by_cases k4 : v' = u
                        · subst k4
                          rw [if_pos ⟨rfl, rfl⟩, Nat.testBit_or, Nat.testBit_two_pow]
                        · rw [if_neg (fun t => k4 t.2), s1]
                          simp [n1]
                    · rw [if_neg (fun t => k5 t.2), s1]
                      by_cases k3 : v' = w
                      · subst k3
                        rw [if_pos ⟨rfl, rfl⟩, Nat.testBit_or, Nat.testBit_two_pow]
                        have : ¬ v = u := fun t => k5 t.symm
                        simp [this]
                      · rw [if_neg (fun t => k3 t.2)]
                        by_cases k4 : v' = v
                        · subst k4
                          rw [if_pos ⟨rfl, rfl⟩, Nat.testBit_or, Nat.testBit_two_pow]
                          have : ¬ w = u := fun t => k2 t.symm
                          simp [this]
                        · rw [if_neg (fun t => k4 t.2)]
                · rw [if_neg (fun t => k1 t.1), if_neg (fun t => k1 t.1), if_neg (fun t => k1 t.1), if_neg (fun t => k1 t.1)]
                  exact s1
              by_cases k1 : c' = c ∧ u = w
              · obtain ⟨rfl, rfl⟩ := k1
                have t0 : ¬ v = u := z
                refine ⟨by rw [if_pos ⟨rfl, rfl⟩]; exact Nat.or_lt_two_pow b1 pw, by rw [if_pos ⟨rfl, rfl⟩, pk_us], by rw [if_pos ⟨rfl, rfl⟩, pk_us], by rw [if_pos ⟨rfl, rfl⟩, Nat.testBit_or, Nat.testBit_two_pow, b4]; simp [t0], fun t => absurd hw (by omega), sym⟩
              · by_cases k2 : c' = c ∧ u = v
                · obtain ⟨rfl, rfl⟩ := k2
                  have t0 : ¬ w = u := fun t => z t.symm
                  have t1 : c' * 16 + u ≠ c' * 16 + w := by omega
                  refine ⟨by rw [if_neg k1, if_pos ⟨rfl, rfl⟩]; exact Nat.or_lt_two_pow a1 pv, by rw [if_neg k1, if_pos ⟨rfl, rfl⟩, pk_un t1, pk_us], by rw [if_neg k1, if_pos ⟨rfl, rfl⟩, pk_un t1, pk_us], by rw [if_neg k1, if_pos ⟨rfl, rfl⟩, Nat.testBit_or, Nat.testBit_two_pow, a4]; simp [t0], fun t => absurd hv (by omega), sym⟩
                · have t1 : c' * 16 + u ≠ c * 16 + w := fun t => k1 ⟨by omega, by omega⟩
                  have t2 : c' * 16 + u ≠ c * 16 + v := fun t => k2 ⟨by omega, by omega⟩
                  refine ⟨by rw [if_neg k1, if_neg k2]; exact d1, by rw [if_neg k1, if_neg k2, pk_un t1, pk_un t2]; exact d2, by rw [if_neg k1, if_neg k2, pk_un t1, pk_un t2]; exact d3, by rw [if_neg k1, if_neg k2]; exact d4, fun t => by rw [if_neg k1, if_neg k2]; exact d5 t, sym⟩
            · rw [pk_un (by omega), pk_un (by omega)]
              exact h5 c' hc1 hc2 u hu
      · rw [fX7_isWord_n (by omega) q, fX9_isWord_n (by omega) q, bd1_some, bd1_some, if_pos rfl, if_pos rfl]
        exact ⟨_, nl, ml, lm, rfl, rfl, h0⟩
    · rw [fX7_isWord_n (by omega) q, fX9_isWord_n (by omega) q, bd1_some, bd1_some, if_pos rfl, if_pos rfl]
      exact ⟨_, nl, ml, lm, rfl, rfl, h0⟩
  · rw [fX2_isChild_n (by omega) q, fX9_isChild_n (by omega) q, bd1_some, bd1_some, if_pos rfl, if_pos rfl]
    exact ⟨_, nl, ml, lm, rfl, rfl, h0⟩
