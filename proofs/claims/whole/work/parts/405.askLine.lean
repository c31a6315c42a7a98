/-! the text: the line of an ask -/
section AL
variable {n T : Nat} {tx : Nat → Nat} {tb mt : Nat → Int32}
section AF
variable {dA : Nat → Int32} {dw das td pos fr so va F wr x1 x2 s0 s1 : Int32}
theorem ra121_F (h0 : ¬ F = 0) : fX9_readAsk_p121 n das dA pos fr so va F wr x1 = some (das, dA, pos, fr, so, va, F, wr) := by
  unfold fX9_readAsk_p121
  rw [if_neg h0]
theorem ra4_F {k : Nat} (h0 : ¬ F = 0) : fX9_readAsk_p4 n dw das dA mt td (k + 1) pos fr so va F wr x1 x2 = some (das, dA, pos, fr, so, va, F, wr) := by
  rw [fX9_readAsk_p4]
  by_cases z : x2 = 0
  · rw [if_pos z, ra121_F h0]
  · rw [if_neg z, if_neg h0, ra121_F h0]
theorem ra90_F {k : Nat} (h0 : ¬ F = 0) (h1 : ¬ F ≤ 0) : fX9_readAsk_p90 n dw das dA mt td pos fr so va F wr s0 s1 (fX9_readAsk_p4 n dw das dA mt td (k + 1)) = some (das, dA, pos, fr, so, va, F, wr) := by
  unfold fX9_readAsk_p90
  rw [nm, next_F h1, bd6_some]
  by_cases z : so = 4
  · rw [if_pos z, if_neg i10, next_F h1, bd6_some, ra4_F h0]
  · rw [if_neg z, if_pos rfl, ra4_F h0]
theorem ra29_0 {k : Nat} : fX9_readAsk_p29 n dw das dA mt td pos fr so va 0 wr x1 0 (fX9_readAsk_p4 n dw das dA mt td (k + 1)) = some (das, dA, pos, fr, so, va, 2, fr) := by
  unfold fX9_readAsk_p29
  rw [wants0, bd2_some, if_neg (by decide), if_neg (by decide), ra90_F (by decide) (by decide)]
theorem ra68_0 {k : Nat} : fX9_readAsk_p68 n dw das dA mt td pos fr so va 0 wr x1 0 (fX9_readAsk_p4 n dw das dA mt td (k + 1)) = some (das, dA, pos, fr, so, va, 3, fr) := by
  unfold fX9_readAsk_p68
  rw [wants0, bd2_some, if_neg (by decide), ra90_F (by decide) (by decide)]
end AF
theorem or_new {a v W : Nat} (hW : W ≤ 16) (ha : a < 2 ^ W) (hv : v < W) (hb : a.testBit v = false) : ∃ a', a' < 2 ^ W ∧ nI a ||| ((1 : Int32) <<< (nI v &&& 31)) = nI a' ∧ ct a' = ct a + 1 := by
  have hv2 : 2 ^ v < 2 ^ W := Nat.pow_lt_pow_right (by decide) hv
  have a16 := pow16 hW ha
  have v16 := pow16 hW hv2
  have hor : a ||| 2 ^ v < 2 ^ W := Nat.or_lt_two_pow ha hv2
  refine ⟨a ||| 2 ^ v, hor, ?_, ?_⟩
  · rw [shl1 (by omega), fa_or]
  · have e : ∀ x, x < 65536 → ct x = fb_ct (fun k => x.testBit k) 16 := fun x hx => by
      have := ct_mk (p := fun k => x.testBit k) (N := 16) (by decide)
      rw [mk_self (by omega)] at this
      exact this
    rw [e _ (pow16 hW hor), e _ a16]
    have u := fb_ct_upd (fun k => a.testBit k) true (i := v) (n := 16) (by omega)
    rw [hb] at u
    rw [fb_ct_cong (q := fun k => if k = v then true else a.testBit k) (fun k hk => ?_)]
    · exact u
    · show (a ||| 2 ^ v).testBit k = _
      rw [Nat.testBit_or, Nat.testBit_two_pow]
      by_cases z : k = v
      · subst z
        rw [if_pos rfl]
        simp
      · rw [if_neg z, decide_eq_false (fun q => z q.symm), Bool.or_false]
/-- one number of an ask and on: the class stands before the number at p, the reference has read it -/
theorem P_askLoop (hn : 1000 ≤ n) (h : TX T tx tb mt) {W Q : Nat} (hW : W ≤ 16) (hQ : Q < 6) (asks dA : Nat → Int32) {dl dM dT : Nat → Int32} (rf rp mw : Int32) : ∀ (d k k' p a : Nat) (xk xs xn mf ms mv : Int32), p + d = T → d < k → d + 1 < k' → a < 2 ^ W →
    (∃ (F A : Nat) (x1 x2 x3 x4 : Int32) (f : Nat → Int32) (x5 : Int32), 0 < F ∧ F ≤ 6 ∧ A ≤ T ∧ fX6_readAsk_p23 n tb (nI T) asks (nI W) (nI Q) k rf rp xk xs (nI p) xn (nI a) (nI (ct a)) = some (0, nI F, nI A, x1, x2, x3, x4, f, x5) ∧ FM F A (bd6 (fX9_next n mt (nI T) (nI p) mf ms mv 0 mw) (fun a1 a2 a3 a4 a5 a6 => bd8 (fX9_readAsk_p4 n (nI W) (nI Q) dA mt (nI T) k' a1 a2 a3 a4 a5 a6 (nI a) 1) (fun v13 f14 v15 v16 v17 v18 v19 v20 => fX9_readLine_p138 n dl (nI W) dM dT v13 f14 mt (nI T) v15 v16 v17 v18 v19 v20)))) ∨
    (∃ (p' a' : Nat) (x1 x2 x4 y1 y2 y3 : Int32), p < p' ∧ p' ≤ T ∧ a' < 2 ^ W ∧ fX6_readAsk_p23 n tb (nI T) asks (nI W) (nI Q) k rf rp xk xs (nI p) xn (nI a) (nI (ct a)) = some (1, rf, rp, x1, x2, nI p', x4, upd asks Q (nI a'), nI (Q + 1)) ∧ bd6 (fX9_next n mt (nI T) (nI p) mf ms mv 0 mw) (fun a1 a2 a3 a4 a5 a6 => bd8 (fX9_readAsk_p4 n (nI W) (nI Q) dA mt (nI T) k' a1 a2 a3 a4 a5 a6 (nI a) 1) (fun v13 f14 v15 v16 v17 v18 v19 v20 => fX9_readLine_p138 n dl (nI W) dM dT v13 f14 mt (nI T) v15 v16 v17 v18 v19 v20)) = bd6 (fX9_next n mt (nI T) (nI p') y1 y2 y3 0 mw) (fun a1 a2 a3 a4 a5 a6 => some (dl, nI W, dM, dT, nI (Q + 1), upd dA Q (nI a'), a1, a2, a3, a4, a5, a6))) := by
  have h1 := h.1
  intro d
  induction d using Nat.strongRecOn with
  | _ d ih =>
  intro k k' p a xk xs xn mf ms mv hpd hk hk' ha
  have a16 := pow16 hW ha
  have c16 := ct_le a
  obtain ⟨k, rfl⟩ : ∃ q, k = q + 1 := ⟨k - 1, by omega⟩
  obtain ⟨k', rfl⟩ : ∃ q, k' = q + 2 := ⟨k' - 2, by omega⟩
  rw [fX6_readAsk_p23, show (16 : Int32) = nI 16 from rfl, if_neg (nI_nlt c16 (by decide))]
  rcases P_tok hn h (p := p) (by omega) xk xs xn mf ms mv mw with ⟨kd, s, e, xn', mv', g, eX, eM⟩ | ⟨s, e, xn', a1, a2, a3, hs, eX, eM⟩
  · obtain ⟨g1, g2, g3, g4, g5, g6, g7⟩ := g
    rw [eM, bd6_some, fX9_readAsk_p4, if_neg i10, if_pos rfl]
    by_cases z : kd = 2
    · subst z
      have d0 : 0 < d := by omega
      obtain ⟨v, v1, v2, v3⟩ := g7 rfl
      clear g7
      rw [exp_y (c := 2) eX, bd7_some, if_neg i10, if_pos (show nI 2 = 2 from rfl), v2, v3]
      unfold fX9_readAsk_p29
      rw [wants1, bd2_some, if_pos rfl]
      by_cases y : v < W
      · rw [fX7_isWord_y y (by omega), bd1_some, if_neg i10, X_isIn (by omega) (by omega), bd1_some, if_neg (nI_ge y (by omega))]
        by_cases b : a.testBit v = true
        · rw [b, if_pos rfl, if_neg i10, ref_n (by decide), bd3_some, rb_0, if_neg (fun q => by rw [(bitv0 (by omega) (by omega)).mp q] at b; exact absurd b (by decide)), ra68_0, bd8_some, ln138_F (by decide) (by decide)]
          exact Or.inl ⟨3, s, _, _, _, _, _, _, by decide, by decide, by omega, rfl, ⟨_, _, _, _, _, _, _, _, _, _, rfl⟩⟩
        · have b' : a.testBit v = false := by
            cases q : a.testBit v
            · rfl
            · exact absurd q b
          obtain ⟨a', o1, o2, o3⟩ := or_new hW ha y b'
          rw [if_neg b, if_pos rfl, if_pos ((bitv0 (by omega) (by omega)).mpr b'), o2, nm]
          unfold fX9_readAsk_p68 fX9_readAsk_p90
          rw [wants1, bd2_some, if_pos rfl, o2, nm]
          rcases P_tok hn h (p := e) g3 2 (nI s) (nI v) (nI s) (nI 2) (nI v) mw with ⟨kd2, s2, e2, xn2, mv2, g', eX2, eM2⟩ | ⟨s2, e2, xn2, b1, b2, b3, hs2, eX2, eM2⟩
          · obtain ⟨j1, j2, j3, j4, j5, j6, -⟩ := g'
            rw [eM2, bd6_some, eX2, bd4_some]
            by_cases u3 : kd2 = 3
            · subst u3
              rw [if_pos (show nI 3 = 3 from rfl), if_neg (show ¬ nI 3 = 4 from by decide), if_pos rfl, fX9_readAsk_p4, if_pos rfl]
              unfold fX7_tellAsk fX9_readAsk_p121
              rw [aw_nI (by omega) (by decide), nm, bd2_some, if_pos rfl, aw_nI (by omega) (by decide), nm, bd8_some, nI_1, show (nI 3 : Int32) = 3 from rfl, ln138_y]
              exact Or.inr ⟨e2, a', _, _, _, _, _, _, by omega, j3, o1, rfl, rfl⟩
            · rw [if_neg (show ¬ nI kd2 = (3 : Int32) from kd_ne (c := 3) j4 (by decide) u3)]
              by_cases u4 : kd2 = 4
              · subst u4
                rw [if_pos (show nI 4 = 4 from rfl), if_pos (show nI 4 = 4 from rfl), if_neg i10, nI_1, ← o3]
                have d2 : T - e2 < d := by omega
                have r := ih (T - e2) d2 k (k' + 1) e2 a' (nI 4) (nI s2) xn2 (nI s2) (nI 4) mv2 (by omega) (by omega) (by omega) o1
                have asc : ∀ (o : Option (Int32 × Int32 × Int32 × Int32 × Int32 × Int32)), bd8 (bd6 o (fun v17 v18 v19 v20 v21 v22 => fX9_readAsk_p4 n (nI W) (nI Q) dA mt (nI T) (k' + 1) v17 v18 v19 v20 v21 v22 (nI a') 1)) (fun v13 f14 v15 v16 v17 v18 v19 v20 => fX9_readLine_p138 n dl (nI W) dM dT v13 f14 mt (nI T) v15 v16 v17 v18 v19 v20) = bd6 o (fun a1 a2 a3 a4 a5 a6 => bd8 (fX9_readAsk_p4 n (nI W) (nI Q) dA mt (nI T) (k' + 1) a1 a2 a3 a4 a5 a6 (nI a') 1) (fun v13 f14 v15 v16 v17 v18 v19 v20 => fX9_readLine_p138 n dl (nI W) dM dT v13 f14 mt (nI T) v15 v16 v17 v18 v19 v20)) := by
                  intro o
                  cases o with
                  | none => rfl
                  | some q => rfl
                rw [asc]
                rcases r with ⟨F, A, x1, x2, x3, x4, f, x5, r1, r2, r3, r4, r5⟩ | ⟨p', a2, x1, x2, x4, y1, y2, y3, r1, r2, r3, r4, r5⟩
                · exact Or.inl ⟨F, A, x1, x2, x3, x4, f, x5, r1, r2, r3, r4, r5⟩
                · exact Or.inr ⟨p', a2, x1, x2, x4, y1, y2, y3, by omega, r2, r3, r4, r5⟩
              · rw [if_neg (show ¬ nI kd2 = (4 : Int32) from kd_ne (c := 4) j4 (by decide) u4), if_neg (show ¬ nI kd2 = (4 : Int32) from kd_ne (c := 4) j4 (by decide) u4), if_pos rfl, fX9_readAsk_p4, if_pos rfl, ref_n (kd_ne (c := 5) j4 (by decide) (by omega)), bd3_some, rb_0]
                unfold fX9_readAsk_p121
                rw [if_pos rfl, aw_nI (by omega) (by decide), nm, bd8_some, ln138_n (kd_ne (c := 3) j4 (by decide) u3)]
                exact Or.inl ⟨2, s2, _, _, _, _, _, _, by decide, by decide, by omega, rfl, ⟨_, _, _, _, _, _, _, _, _, _, rfl⟩⟩
          · rw [eM2, bd6_some, eX2, bd4_some, if_neg (show ¬ (5 : Int32) = 3 from by decide), if_neg (show ¬ (5 : Int32) = 4 from by decide)]
            have r5 : fX6_refuse n rf rp 5 (nI s2) 2 = some (0, 1, nI s2) := by
              unfold fX6_refuse
              rw [if_pos rfl]
            rw [r5, bd3_some, rb_0]
            refine Or.inl ⟨1, s2, _, _, _, _, _, _, by decide, by decide, by omega, rfl, ?_⟩
            by_cases u : b2 = 4
            · rw [if_pos u, if_neg i10, next_F (by decide), bd6_some, ra4_F (by decide), bd8_some, ln138_F (by decide) (by decide)]
              exact ⟨_, _, _, _, _, _, _, _, _, _, rfl⟩
            · rw [if_neg u, if_pos rfl, ra4_F (by decide), bd8_some, ln138_F (by decide) (by decide)]
              exact ⟨_, _, _, _, _, _, _, _, _, _, rfl⟩
      · have ni : ¬ inR (nI v) W := by
          unfold inR
          rw [nI_toInt (by omega)]
          omega
        rw [fX7_isWord_n (by omega) ni, bd1_some, if_pos rfl, ref_n (by decide), bd3_some, rb_0, if_pos (nI_le (by omega) (by omega)), ra68_0, bd8_some, ln138_F (by decide) (by decide)]
        exact Or.inl ⟨3, s, _, _, _, _, _, _, by decide, by decide, by omega, rfl, ⟨_, _, _, _, _, _, _, _, _, _, rfl⟩⟩
    · rw [exp_n (c := 2) eX (kd_ne (c := 2) g4 (by decide) z) (kd_ne (c := 5) g4 (by decide) (by omega)), bd7_some, if_pos rfl, if_neg (show ¬ nI kd = (2 : Int32) from kd_ne (c := 2) g4 (by decide) z)]
      rw [ra29_0, bd8_some, ln138_F (by decide) (by decide)]
      exact Or.inl ⟨2, s, _, _, _, _, _, _, by decide, by decide, by omega, rfl, ⟨_, _, _, _, _, _, _, _, _, _, rfl⟩⟩
  · rw [eM, bd6_some, ra4_F (by decide), bd8_some, ln138_F (by decide) (by decide), exp_b (c := 2) eX (by decide), bd7_some, if_pos rfl]
    exact Or.inl ⟨1, s, _, _, _, _, _, _, by decide, by decide, by omega, rfl, ⟨_, _, _, _, _, _, _, _, _, _, rfl⟩⟩
end AL
