/-! the text: a line that tells a letter -/
section LT
variable {n T : Nat} {tx : Nat → Nat} {tb mt : Nat → Int32}
/-- the letters told so far -/
def DL (lm dl : Nat → Int32) : Prop := ∀ k, k < 26 → (lm k = -1 ∧ dl k = -1) ∨ (lm k = -2 ∧ dl k = nI 30) ∨ (∃ v, v ≤ 20 ∧ lm k = nI v ∧ dl k = nI v)
theorem m1_ne {v : Nat} (h : v < 1000) : ¬ nI v = -1 := by
  intro e
  have := congrArg Int32.toInt e
  rw [nI_toInt (by omega), show (-1 : Int32).toInt = -1 from rfl] at this
  omega
theorem m2_ne {v : Nat} (h : v < 1000) : ¬ nI v = -2 := by
  intro e
  have := congrArg Int32.toInt e
  rw [nI_toInt (by omega), show (-2 : Int32).toInt = -2 from rfl] at this
  omega
theorem DL_iff {lm dl : Nat → Int32} (h : DL lm dl) {k : Nat} (hk : k < 26) : lm k = -1 ↔ dl k = -1 := by
  rcases h k hk with ⟨a, b⟩ | ⟨a, b⟩ | ⟨v, c, a, b⟩
  · exact ⟨fun _ => b, fun _ => a⟩
  · rw [a, b]
    exact ⟨fun z => absurd z (by decide), fun z => absurd z (m1_ne (by decide))⟩
  · rw [a, b]
theorem X_letterAt (h : TX T tx tb mt) {q : Nat} (hq : q < T) (hl : isL (tx q)) : fX6_letterAt n tb (nI q) = some (nI (tx q - 97)) := by
  have h1 := h.1
  obtain ⟨c1, c2, c3⟩ := h.2 q (by omega)
  unfold isL at hl
  unfold fX6_letterAt
  rw [ar_nI (by omega) (by decide), c3, sb_nI (by omega), show (97 : Int32) = nI 97 from rfl, pk_sub (by omega)]
theorem M_sub97 {c : Nat} (hl : isL c) : nI c - 97 = nI (c - 97) := by
  unfold isL at hl
  rw [show (97 : Int32) = nI 97 from rfl, pk_sub (by omega)]
theorem rl121_c {c base lim v : Nat} {dl : Nat → Int32} {td pos fr so wr x2 : Int32} (hc : (c = 0 ∧ base = 0 ∧ lim = 16) ∨ (c = 1 ∧ base = 16 ∧ lim = 4)) (hv : v < 100) : fX9_readLetter_p121 n dl mt td pos fr so (nI v) 0 wr (nI c) x2 1 = if v < lim then fX9_readLetter_p177 n dl mt td pos fr so (nI v) 0 wr x2 (nI (base + v)) else some (dl, pos, fr, so, nI v, 3, fr) := by
  unfold fX9_readLetter_p121
  rw [wants1, bd2_some, if_pos rfl]
  rcases hc with ⟨rfl, rfl, rfl⟩ | ⟨rfl, rfl, rfl⟩
  · rw [if_pos (show nI 0 = 0 from rfl)]
    unfold fX9_readLetter_p152
    rw [show (0 : Int64) = lN 0 from rfl, show (15 : Int64) = lN 15 from rfl, M_in2 (by omega) (by decide) (by decide), bd1_some]
    by_cases z : v < 16
    · rw [if_pos (by omega), wants1, bd2_some, if_pos (show nI 0 = 0 from rfl), if_pos z, Nat.zero_add]
    · rw [if_neg (by omega), wants0, bd2_some, if_pos (show nI 0 = 0 from rfl), if_neg z, rl177_F (by decide) (by decide)]
  · rw [if_neg (show ¬ nI 1 = 0 from by decide)]
    unfold fX9_readLetter_p152
    rw [show (0 : Int64) = lN 0 from rfl, show (3 : Int64) = lN 3 from rfl, M_in2 (by omega) (by decide) (by decide), bd1_some]
    by_cases z : v < 4
    · rw [if_pos (by omega), wants1, bd2_some, if_neg (show ¬ nI 1 = 0 from by decide), if_pos z, show (16 : Int32) = nI 16 from rfl, nI_add]
    · rw [if_neg (by omega), wants0, bd2_some, if_neg (show ¬ nI 1 = 0 from by decide), if_neg z, rl177_F (by decide) (by decide)]
/-- a new letter: the class's answer and where the reference stands -/
theorem P_newL (hn : 1000 ≤ n) (h : TX T tx tb mt) {lm dl : Nat → Int32} (hL : DL lm dl) {p c : Nat} (hp : p ≤ T) (hc : c ≤ 3) (rf rp xk xs xn mf ms mv mw : Int32) {dw das : Int32} {dM dT dA : Nat → Int32} :
    (∃ (F A : Nat) (x1 x2 x3 x4 : Int32), 0 < F ∧ F ≤ 6 ∧ A ≤ T ∧ fX6_readNewLetter n tb (nI T) rf rp xk xs (nI p) xn lm = some (0, nI F, nI A, x1, x2, x3, x4) ∧ FM F A (fX9_readLine_p79 n dl dw dM dT das dA mt (nI T) (nI p) mf ms mv 0 mw (nI c) 1)) ∨
    (∃ s q xn' mv', p ≤ s ∧ s < T ∧ isL (tx s) ∧ q = tx s - 97 ∧ lm q = -1 ∧ dl q = -1 ∧ fX6_readNewLetter n tb (nI T) rf rp xk xs (nI p) xn lm = some (1, rf, rp, 1, nI s, nI (s + 1), xn') ∧
      fX9_readLine_p79 n dl dw dM dT das dA mt (nI T) (nI p) mf ms mv 0 mw (nI c) 1 = bd7 (bd6 (fX9_next n mt (nI T) (nI (s + 1)) (nI s) 1 mv' 0 mw) (fun a1 a2 a3 a4 a5 a6 => (if nI c = 2 then fX9_readLetter_p97 n dl mt (nI T) a1 a2 a3 a4 a5 a6 (nI c) (nI q) 20 else fX9_readLetter_p97 n dl mt (nI T) a1 a2 a3 a4 a5 a6 (nI c) (nI q) 30))) (fun f11 v12 v13 v14 v15 v16 v17 => fX9_readLine_p138 n f11 dw dM dT das dA mt (nI T) v12 v13 v14 v15 v16 v17)) := by
  have h1 := h.1
  rcases P_tok hn h hp xk xs xn mf ms mv mw with ⟨kd, s, e, xn', mv', g, eX, eM⟩ | ⟨s, e, xn', a1, a2, a3, hs, eX, eM⟩
  · obtain ⟨g1, g2, g3, g4, g5, g6, g7⟩ := g
    unfold fX6_readNewLetter
    by_cases z : kd = 1
    · subst z
      rw [exp_y (c := 1) eX, bd7_some, if_neg i10, pk_sub (by omega), ln79_1, eM, bd6_some, if_pos rfl, if_neg (show ¬ (3 : Int32) < nI c from by rw [show (3 : Int32) = nI 3 from rfl]; exact nI_nlt hc (by omega))]
      by_cases y : e - s = 1
      · have he : e = s + 1 := by omega
        subst he
        have hl := g6 rfl s (Nat.le_refl _) (by omega)
        have hl' : 97 ≤ tx s ∧ tx s ≤ 122 := hl
        have y2 : nI (s + 1 - s) = 1 := by rw [y]; rfl
        unfold fX9_readLetter
        rw [if_pos y2, X_letterAt h (by omega) hl, bd1_some, ar_nI (by omega) (by decide), if_pos (show nI 1 = 1 from rfl), pk_sub (by omega), if_pos y2]
        unfold fX9_readLetter_p27
        rw [wants1, bd2_some, if_pos rfl, M_look h (by omega), bd1_some, M_sub97 hl]
        unfold fX9_readLetter_p53
        rw [if_pos rfl, ar_nI (by omega) (by decide)]
        by_cases w : lm (tx s - 97) = -1
        · have w' := (DL_iff hL (by omega)).mp w
          rw [if_pos w, if_pos w', wants1, bd2_some]
          exact Or.inr ⟨s, tx s - 97, xn', mv', g1, by omega, hl, rfl, w, w', rfl, rfl⟩
        · rw [if_neg w, if_neg (fun v => w ((DL_iff hL (by omega)).mpr v)), ref_n (by decide), bd3_some, if_pos rfl, wants0, bd2_some, next_F (by decide), bd6_some]
          refine Or.inl ⟨4, s, _, _, _, _, by decide, by decide, by omega, rfl, ?_⟩
          by_cases u : nI c = 2
          · rw [if_pos u, rl97_F (by decide) (by decide), bd7_some, ln138_F (by decide) (by decide)]
            exact ⟨_, _, _, _, _, _, _, _, _, _, rfl⟩
          · rw [if_neg u, rl97_F (by decide) (by decide), bd7_some, ln138_F (by decide) (by decide)]
            exact ⟨_, _, _, _, _, _, _, _, _, _, rfl⟩
      · have y' : ¬ nI (e - s) = 1 := by rw [show (1 : Int32) = nI 1 from rfl, nI_eq (by omega) (by decide)]; exact y
        unfold fX9_readLetter
        rw [if_neg y', ref_n (by decide), bd3_some, rb_0, if_pos (show nI 1 = 1 from rfl), pk_sub (by omega), if_neg y', rl27_0, bd7_some, ln138_F (by decide) (by decide)]
        exact Or.inl ⟨2, s, _, _, _, _, by decide, by decide, by omega, rfl, ⟨_, _, _, _, _, _, _, _, _, _, rfl⟩⟩
    · rw [exp_n (c := 1) eX (kd_ne (c := 1) g4 (by decide) z) (kd_ne (c := 5) g4 (by decide) (by omega)), bd7_some, if_pos rfl, ln79_1, eM, bd6_some, if_pos rfl, if_neg (show ¬ (3 : Int32) < nI c from by rw [show (3 : Int32) = nI 3 from rfl]; exact nI_nlt hc (by omega))]
      unfold fX9_readLetter
      rw [if_neg (show ¬ nI kd = (1 : Int32) from kd_ne (c := 1) g4 (by decide) z), rl27_0, bd7_some, ln138_F (by decide) (by decide)]
      exact Or.inl ⟨2, s, _, _, _, _, by decide, by decide, by omega, rfl, ⟨_, _, _, _, _, _, _, _, _, _, rfl⟩⟩
  · refine Or.inl ⟨1, s, 5, nI s, e, xn', by decide, by decide, by omega, ?_, ln79_bad eM⟩
    unfold fX6_readNewLetter
    rw [exp_b (c := 1) eX (by decide), bd7_some, if_pos rfl]
    rfl
/-- high and stop -/
theorem P_numL (hn : 1000 ≤ n) (h : TX T tx tb mt) {lm dl : Nat → Int32} (hL : DL lm dl) {p c base lim : Nat} (hp : p ≤ T) (hc : (c = 0 ∧ base = 0 ∧ lim = 16) ∨ (c = 1 ∧ base = 16 ∧ lim = 4)) (rf rp xk xs xn mf ms mv mw letters : Int32) {dw das : Int32} {dM dT dA : Nat → Int32} :
    (∃ (F A : Nat) (x1 x2 x3 x4 : Int32) (f : Nat → Int32) (x5 : Int32), 0 < F ∧ F ≤ 6 ∧ A ≤ T ∧ fX6_readNumberedLetter n tb (nI T) rf rp xk xs (nI p) xn lm letters (nI base) (nI lim) = some (0, nI F, nI A, x1, x2, x3, x4, f, x5) ∧ FM F A (fX9_readLine_p79 n dl dw dM dT das dA mt (nI T) (nI p) mf ms mv 0 mw (nI c) 1)) ∨
    (∃ (p' q v : Nat) (x1 x2 x4 y1 y2 y3 : Int32), p < p' ∧ p' ≤ T ∧ q < 26 ∧ v ≤ 20 ∧ lm q = -1 ∧ dl q = -1 ∧ fX6_readNumberedLetter n tb (nI T) rf rp xk xs (nI p) xn lm letters (nI base) (nI lim) = some (1, rf, rp, x1, x2, nI p', x4, upd lm q (nI v), letters + 1) ∧
      fX9_readLine_p79 n dl dw dM dT das dA mt (nI T) (nI p) mf ms mv 0 mw (nI c) 1 = bd6 (fX9_next n mt (nI T) (nI p') y1 y2 y3 0 mw) (fun a1 a2 a3 a4 a5 a6 => some (upd dl q (nI v), dw, dM, dT, das, dA, a1, a2, a3, a4, a5, a6))) := by
  have h1 := h.1
  have c2 : ¬ nI c = 2 := by
    rw [show (2 : Int32) = nI 2 from rfl, nI_eq (by omega) (by decide)]
    omega
  unfold fX6_readNumberedLetter
  rcases P_newL (dw := dw) (das := das) (dM := dM) (dT := dT) (dA := dA) hn h hL hp (c := c) (by omega) rf rp xk xs xn mf ms mv mw with ⟨F, A, x1, x2, x3, x4, f1, f2, f3, eX, eM⟩ | ⟨s, q, xn', mv', s1, s2, hl, hq, l1, l2, eX, eM⟩
  · rw [eX, bd7_some, if_pos rfl]
    exact Or.inl ⟨F, A, _, _, _, _, _, _, f1, f2, f3, rfl, eM⟩
  · have hl' : 97 ≤ tx s ∧ tx s ≤ 122 := hl
    rw [eX, bd7_some, if_neg i10, X_letterAt h s2 hl, bd1_some, ← hq, eM]
    rcases P_tok hn h (p := s + 1) (by omega) 1 (nI s) xn' (nI s) 1 mv' mw with ⟨kd, t, e, xn2, mv2, g, eX2, eM2⟩ | ⟨t, e, xn2, a1, a2, a3, ht, eX2, eM2⟩
    · obtain ⟨g1, g2, g3, g4, g5, g6, g7⟩ := g
      rw [eM2, bd6_some, if_neg c2]
      have r97 : ∀ sx : Int32, fX9_readLetter_p97 n dl mt (nI T) (nI e) (nI t) (nI kd) mv2 0 mw (nI c) (nI q) 30 = (if nI kd = 2 then fX9_readLetter_p121 n dl mt (nI T) (nI e) (nI t) (nI kd) mv2 0 mw (nI c) (nI q) 1 else fX9_readLetter_p121 n dl mt (nI T) (nI e) (nI t) (nI kd) mv2 0 mw (nI c) (nI q) 0) := by
        intro _
        unfold fX9_readLetter_p97
        rcases hc with ⟨rfl, _, _⟩ | ⟨rfl, _, _⟩
        · rw [if_pos (show nI 0 = 0 from rfl)]
        · rw [if_neg (show ¬ nI 1 = 0 from by decide), if_pos (show nI 1 = 1 from rfl)]
      rw [r97 0]
      by_cases z : kd = 2
      · subst z
        obtain ⟨v, v1, v2, v3⟩ := g7 rfl
        clear g7
        rw [exp_y (c := 2) eX2, bd7_some, if_neg i10, if_pos (show nI 2 = 2 from rfl), v3, rl121_c hc v1, v2]
        by_cases y : v < lim
        · rw [if_pos y, if_pos (nI_lt y (by omega)), nI_add]
          unfold fX7_tellLetter fX9_readLetter_p177
          rw [aw_nI (by omega) (by decide), nm, bd2_some]
          rcases P_tok hn h (p := e) g3 2 (nI t) (nI v) (nI t) (nI 2) (nI v) mw with ⟨kd3, t3, e3, xn3, mv3, g, eX3, eM3⟩ | ⟨t3, e3, xn3, b1, b2, b3, ht3, eX3, eM3⟩
          · obtain ⟨k1, k2, k3, k4, k5, k6, -⟩ := g
            rw [eM3, bd6_some, if_pos rfl, aw_nI (by omega) (by decide), bd7_some]
            by_cases w : kd3 = 3
            · subst w
              rw [exp_y (c := 3) eX3, bd7_some, rb_1, show (nI 3 : Int32) = 3 from rfl, ln138_y]
              exact Or.inr ⟨e3, q, base + v, _, _, _, _, _, _, by omega, k3, by omega, by omega, l1, l2, rfl, rfl⟩
            · rw [exp_n (c := 3) eX3 (kd_ne (c := 3) k4 (by decide) w) (kd_ne (c := 5) k4 (by decide) (by omega)), bd7_some, rb_0, ln138_n (kd_ne (c := 3) k4 (by decide) w)]
              exact Or.inl ⟨2, t3, _, _, _, _, _, _, by decide, by decide, by omega, rfl, ⟨_, _, _, _, _, _, _, _, _, _, rfl⟩⟩
          · rw [eM3, bd6_some, if_neg (by decide), bd7_some, ln138_F (by decide) (by decide), exp_b (c := 3) eX3 (by decide), bd7_some, rb_0]
            exact Or.inl ⟨1, t3, _, _, _, _, _, _, by decide, by decide, by omega, rfl, ⟨_, _, _, _, _, _, _, _, _, _, rfl⟩⟩
        · rw [if_neg y, if_neg (nI_nlt (by omega) (by omega)), ref_n (by decide), bd3_some, rb_0, bd7_some, ln138_F (by decide) (by decide)]
          exact Or.inl ⟨3, t, _, _, _, _, _, _, by decide, by decide, by omega, rfl, ⟨_, _, _, _, _, _, _, _, _, _, rfl⟩⟩
      · have e0 : fX9_readLetter_p121 n dl mt (nI T) (nI e) (nI t) (nI kd) mv2 0 mw (nI c) (nI q) 0 = some (dl, nI e, nI t, nI kd, mv2, 2, nI t) := by
          unfold fX9_readLetter_p121
          rw [wants0, bd2_some, if_neg (by decide)]
          by_cases u : nI c = 0
          · rw [if_pos u, rl177_F (by decide) (by decide)]
          · rw [if_neg u, rl177_F (by decide) (by decide)]
        rw [exp_n (c := 2) eX2 (kd_ne (c := 2) g4 (by decide) z) (kd_ne (c := 5) g4 (by decide) (by omega)), bd7_some, if_pos rfl, if_neg (show ¬ nI kd = (2 : Int32) from kd_ne (c := 2) g4 (by decide) z), e0, bd7_some, ln138_F (by decide) (by decide)]
        exact Or.inl ⟨2, t, _, _, _, _, _, _, by decide, by decide, by omega, rfl, ⟨_, _, _, _, _, _, _, _, _, _, rfl⟩⟩
    · rw [eM2, bd6_some, if_neg c2, rl97_F (by decide) (by decide), bd7_some, ln138_F (by decide) (by decide), exp_b (c := 2) eX2 (by decide), bd7_some, if_pos rfl]
      exact Or.inl ⟨1, t, _, _, _, _, _, _, by decide, by decide, by omega, rfl, ⟨_, _, _, _, _, _, _, _, _, _, rfl⟩⟩
/-- glide and mute -/
theorem P_plainL (hn : 1000 ≤ n) (h : TX T tx tb mt) {lm dl : Nat → Int32} (hL : DL lm dl) {p c : Nat} {mkX mkM : Int32} (hp : p ≤ T) (hc : (c = 2 ∧ mkX = 20 ∧ mkM = 20) ∨ (c = 3 ∧ mkX = -2 ∧ mkM = 30)) (rf rp xk xs xn mf ms mv mw letters : Int32) {dw das : Int32} {dM dT dA : Nat → Int32} :
    (∃ (F A : Nat) (x1 x2 x3 x4 : Int32) (f : Nat → Int32) (x5 : Int32), 0 < F ∧ F ≤ 6 ∧ A ≤ T ∧ fX6_readPlainLetter n tb (nI T) rf rp xk xs (nI p) xn lm letters mkX = some (0, nI F, nI A, x1, x2, x3, x4, f, x5) ∧ FM F A (fX9_readLine_p79 n dl dw dM dT das dA mt (nI T) (nI p) mf ms mv 0 mw (nI c) 1)) ∨
    (∃ (p' q : Nat) (x1 x2 x4 y1 y2 y3 : Int32), p < p' ∧ p' ≤ T ∧ q < 26 ∧ lm q = -1 ∧ dl q = -1 ∧ fX6_readPlainLetter n tb (nI T) rf rp xk xs (nI p) xn lm letters mkX = some (1, rf, rp, x1, x2, nI p', x4, upd lm q mkX, letters + 1) ∧
      fX9_readLine_p79 n dl dw dM dT das dA mt (nI T) (nI p) mf ms mv 0 mw (nI c) 1 = bd6 (fX9_next n mt (nI T) (nI p') y1 y2 y3 0 mw) (fun a1 a2 a3 a4 a5 a6 => some (upd dl q mkM, dw, dM, dT, das, dA, a1, a2, a3, a4, a5, a6))) := by
  have h1 := h.1
  unfold fX6_readPlainLetter
  rcases P_newL (dw := dw) (das := das) (dM := dM) (dT := dT) (dA := dA) hn h hL hp (c := c) (by omega) rf rp xk xs xn mf ms mv mw with ⟨F, A, x1, x2, x3, x4, f1, f2, f3, eX, eM⟩ | ⟨s, q, xn', mv', s1, s2, hl, hq, l1, l2, eX, eM⟩
  · rw [eX, bd7_some, if_pos rfl]
    exact Or.inl ⟨F, A, _, _, _, _, _, _, f1, f2, f3, rfl, eM⟩
  · have hl' : 97 ≤ tx s ∧ tx s ≤ 122 := hl
    have r97 : ∀ a1 a2 a3 a4 a5 a6 : Int32, (if nI c = 2 then fX9_readLetter_p97 n dl mt (nI T) a1 a2 a3 a4 a5 a6 (nI c) (nI q) 20 else fX9_readLetter_p97 n dl mt (nI T) a1 a2 a3 a4 a5 a6 (nI c) (nI q) 30) = (if a5 = 0 then some (upd dl q mkM, a1, a2, a3, a4, a5, a6) else some (dl, a1, a2, a3, a4, a5, a6)) := by
      intro a1 a2 a3 a4 a5 a6
      unfold fX9_readLetter_p97
      rcases hc with ⟨rfl, _, rfl⟩ | ⟨rfl, _, rfl⟩
      · rw [if_pos (show nI 2 = 2 from rfl), if_neg (show ¬ nI 2 = 0 from by decide), if_neg (show ¬ nI 2 = 1 from by decide), aw_nI (by omega) (by decide)]
      · rw [if_neg (show ¬ nI 3 = 2 from by decide), if_neg (show ¬ nI 3 = 0 from by decide), if_neg (show ¬ nI 3 = 1 from by decide), aw_nI (by omega) (by decide)]
    unfold fX7_tellLetter
    rw [eX, bd7_some, if_neg i10, X_letterAt h s2 hl, bd1_some, ← hq, aw_nI (by omega) (by decide), nm, bd2_some, eM]
    rcases P_tok hn h (p := s + 1) (by omega) 1 (nI s) xn' (nI s) 1 mv' mw with ⟨kd3, t3, e3, xn3, mv3, g, eX3, eM3⟩ | ⟨t3, e3, xn3, b1, b2, b3, ht3, eX3, eM3⟩
    · obtain ⟨k1, k2, k3, k4, k5, k6, -⟩ := g
      rw [eM3, bd6_some, r97, if_pos rfl, bd7_some]
      by_cases w : kd3 = 3
      · subst w
        rw [exp_y (c := 3) eX3, bd7_some, rb_1, show (nI 3 : Int32) = 3 from rfl, ln138_y]
        exact Or.inr ⟨e3, q, _, _, _, _, _, _, by omega, k3, by omega, l1, l2, rfl, rfl⟩
      · rw [exp_n (c := 3) eX3 (kd_ne (c := 3) k4 (by decide) w) (kd_ne (c := 5) k4 (by decide) (by omega)), bd7_some, rb_0, ln138_n (kd_ne (c := 3) k4 (by decide) w)]
        exact Or.inl ⟨2, t3, _, _, _, _, _, _, by decide, by decide, by omega, rfl, ⟨_, _, _, _, _, _, _, _, _, _, rfl⟩⟩
    · rw [eM3, bd6_some, r97, if_neg (by decide), bd7_some, ln138_F (by decide) (by decide), exp_b (c := 3) eX3 (by decide), bd7_some, rb_0]
      exact Or.inl ⟨1, t3, _, _, _, _, _, _, by decide, by decide, by omega, rfl, ⟨_, _, _, _, _, _, _, _, _, _, rfl⟩⟩
end LT
