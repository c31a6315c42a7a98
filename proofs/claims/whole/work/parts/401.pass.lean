/-! the text: in the reference a fault passes through the rest of the line -/
section PS
variable {n : Nat} {mt dl : Nat → Int32} {td pos fr so va F wr x1 x2 s0 s1 : Int32}
theorem next_F (h1 : ¬ F ≤ 0) : fX9_next n mt td pos fr so va F wr = some (pos, fr, so, va, F, wr) := by
  unfold fX9_next
  rw [if_neg h1]
theorem wants_F {x c : Int32} (h0 : ¬ F = 0) : fX9_wants n fr F wr x c = some (F, wr) := by
  unfold fX9_wants
  by_cases z : x = 0
  · rw [if_pos z, if_neg h0]
  · rw [if_neg z]
theorem rl177_F (h0 : ¬ F = 0) (h1 : ¬ F ≤ 0) : fX9_readLetter_p177 n dl mt td pos fr so va F wr x2 s0 = some (dl, pos, fr, so, va, F, wr) := by
  unfold fX9_readLetter_p177
  rw [next_F h1, bd6_some, if_neg h0]
theorem rl121_F (h0 : ¬ F = 0) (h1 : ¬ F ≤ 0) : fX9_readLetter_p121 n dl mt td pos fr so va F wr x1 x2 s1 = some (dl, pos, fr, so, va, F, wr) := by
  unfold fX9_readLetter_p121
  rw [wants_F h0, bd2_some, if_neg h0]
  by_cases z : x1 = 0
  · rw [if_pos z, rl177_F h0 h1]
  · rw [if_neg z, rl177_F h0 h1]
theorem rl97_F (h0 : ¬ F = 0) (h1 : ¬ F ≤ 0) : fX9_readLetter_p97 n dl mt td pos fr so va F wr x1 x2 s0 = some (dl, pos, fr, so, va, F, wr) := by
  unfold fX9_readLetter_p97
  by_cases z : x1 = 0
  · rw [if_pos z]
    by_cases y : so = 2
    · rw [if_pos y, rl121_F h0 h1]
    · rw [if_neg y, rl121_F h0 h1]
  · rw [if_neg z]
    by_cases z2 : x1 = 1
    · rw [if_pos z2]
      by_cases y : so = 2
      · rw [if_pos y, rl121_F h0 h1]
      · rw [if_neg y, rl121_F h0 h1]
    · rw [if_neg z2, if_neg h0]
theorem rl53_F (h0 : ¬ F = 0) (h1 : ¬ F ≤ 0) : fX9_readLetter_p53 n dl mt td pos fr so va F wr x1 s0 = some (dl, pos, fr, so, va, F, wr) := by
  unfold fX9_readLetter_p53
  rw [if_neg h0, next_F h1, bd6_some]
  by_cases z : x1 = 2
  · rw [if_pos z, rl97_F h0 h1]
  · rw [if_neg z, rl97_F h0 h1]
theorem rl27_0 : fX9_readLetter_p27 n dl mt td pos fr so va 0 wr x1 0 = some (dl, pos, fr, so, va, 2, fr) := by
  unfold fX9_readLetter_p27
  rw [wants0, bd2_some, if_neg (by decide), rl53_F (by decide) (by decide)]
variable {dw das : Int32} {dM dT dA : Nat → Int32}
theorem ln138_F (h0 : ¬ F = 0) (h1 : ¬ F ≤ 0) : fX9_readLine_p138 n dl dw dM dT das dA mt td pos fr so va F wr = some (dl, dw, dM, dT, das, dA, pos, fr, so, va, F, wr) := by
  unfold fX9_readLine_p138
  rw [if_neg h0, next_F h1, bd6_some]
theorem ln108_F (h0 : ¬ F = 0) (h1 : ¬ F ≤ 0) : fX9_readLine_p108 n dl dw dM dT das dA mt td pos fr so va F wr x1 = some (dl, dw, dM, dT, das, dA, pos, fr, so, va, F, wr) := by
  unfold fX9_readLine_p108
  rw [if_neg h0, if_neg h0, ln138_F h0 h1]
theorem ln79_F (h0 : ¬ F = 0) (h1 : ¬ F ≤ 0) : fX9_readLine_p79 n dl dw dM dT das dA mt td pos fr so va F wr x1 s1 = some (dl, dw, dM, dT, das, dA, pos, fr, so, va, F, wr) := by
  unfold fX9_readLine_p79
  rw [wants_F h0, bd2_some, next_F h1, bd6_some, if_neg h0, ln108_F h0 h1]
theorem ln54_F (h0 : ¬ F = 0) (h1 : ¬ F ≤ 0) : fX9_readLine_p54 n dl dw dM dT das dA mt td pos fr so va F wr x1 s1 = some (dl, dw, dM, dT, das, dA, pos, fr, so, va, F, wr) := by
  unfold fX9_readLine_p54
  rw [wants_F h0, bd2_some]
  by_cases z : x1 = 5
  · rw [if_pos z]
    by_cases y : 6 ≤ das
    · rw [if_pos y, ln79_F h0 h1]
    · rw [if_neg y, ln79_F h0 h1]
  · rw [if_neg z, ln79_F h0 h1]
theorem ln30_F (h0 : ¬ F = 0) (h1 : ¬ F ≤ 0) : fX9_readLine_p30 n dl dw dM dT das dA mt td pos fr so va F wr x1 s1 = some (dl, dw, dM, dT, das, dA, pos, fr, so, va, F, wr) := by
  unfold fX9_readLine_p30
  rw [wants_F h0, bd2_some]
  by_cases z : x1 = 4
  · rw [if_pos z]
    by_cases y : 16 ≤ dw
    · rw [if_pos y, ln54_F h0 h1]
    · rw [if_neg y, ln54_F h0 h1]
  · rw [if_neg z, ln54_F h0 h1]
theorem ln30_0 : fX9_readLine_p30 n dl dw dM dT das dA mt td pos fr so va 0 wr x1 0 = some (dl, dw, dM, dT, das, dA, pos, fr, so, va, 2, fr) := by
  unfold fX9_readLine_p30
  rw [wants0, bd2_some]
  by_cases z : x1 = 4
  · rw [if_pos z]
    by_cases y : 16 ≤ dw
    · rw [if_pos y, ln54_F (by decide) (by decide)]
    · rw [if_neg y, ln54_F (by decide) (by decide)]
  · rw [if_neg z, ln54_F (by decide) (by decide)]
theorem ln54_0 : fX9_readLine_p54 n dl dw dM dT das dA mt td pos fr so va 0 wr x1 0 = some (dl, dw, dM, dT, das, dA, pos, fr, so, va, 6, fr) := by
  unfold fX9_readLine_p54
  rw [wants0, bd2_some]
  by_cases z : x1 = 5
  · rw [if_pos z]
    by_cases y : 6 ≤ das
    · rw [if_pos y, ln79_F (by decide) (by decide)]
    · rw [if_neg y, ln79_F (by decide) (by decide)]
  · rw [if_neg z, ln79_F (by decide) (by decide)]
theorem ln79_0 : fX9_readLine_p79 n dl dw dM dT das dA mt td pos fr so va 0 wr x1 0 = some (dl, dw, dM, dT, das, dA, pos, fr, so, va, 6, fr) := by
  unfold fX9_readLine_p79
  rw [wants0, bd2_some, next_F (by decide), bd6_some, if_neg (by decide), ln108_F (by decide) (by decide)]
theorem ln138_y : fX9_readLine_p138 n dl dw dM dT das dA mt td pos fr 3 va 0 wr = bd6 (fX9_next n mt td pos fr 3 va 0 wr) (fun a b c d e f => some (dl, dw, dM, dT, das, dA, a, b, c, d, e, f)) := by
  unfold fX9_readLine_p138
  rw [if_pos rfl, if_pos rfl, wants1, bd2_some]
theorem ln138_n (h : ¬ so = 3) : fX9_readLine_p138 n dl dw dM dT das dA mt td pos fr so va 0 wr = some (dl, dw, dM, dT, das, dA, pos, fr, so, va, 2, fr) := by
  unfold fX9_readLine_p138
  rw [if_pos rfl, if_neg h, wants0, bd2_some, next_F (by decide), bd6_some]
theorem ln79_1 : fX9_readLine_p79 n dl dw dM dT das dA mt td pos fr so va 0 wr x1 1 = bd6 (fX9_next n mt td pos fr so va 0 wr) (fun v3 v4 v5 v6 v7 v8 => (if v7 = 0 then (if 3 < x1 then fX9_readLine_p108 n dl dw dM dT das dA mt td v3 v4 v5 v6 v7 v8 x1 else bd7 (fX9_readLetter n dl mt td v3 v4 v5 v6 v7 v8 x1) (fun f11 v12 v13 v14 v15 v16 v17 => fX9_readLine_p138 n f11 dw dM dT das dA mt td v12 v13 v14 v15 v16 v17)) else fX9_readLine_p108 n dl dw dM dT das dA mt td v3 v4 v5 v6 v7 v8 x1)) := by
  unfold fX9_readLine_p79
  rw [wants1, bd2_some]
/-- the reference's line ends with a fault -/
def FM (F A : Nat) (r : Option ((Nat → Int32) × Int32 × (Nat → Int32) × (Nat → Int32) × Int32 × (Nat → Int32) × Int32 × Int32 × Int32 × Int32 × Int32 × Int32)) : Prop := ∃ f3 v4 f5 f6 v7 f8 v9 v10 v11 v12, r = some (f3, v4, f5, f6, v7, f8, v9, v10, v11, v12, nI F, nI A)
theorem ln79_bad {a1 a2 a3 a4 : Int32} {A : Nat} (h : fX9_next n mt td pos fr so va 0 wr = some (a1, a2, a3, a4, 1, nI A)) : FM 1 A (fX9_readLine_p79 n dl dw dM dT das dA mt td pos fr so va 0 wr x1 1) := by
  rw [ln79_1, h, bd6_some, if_neg (by decide), ln108_F (by decide) (by decide)]
  exact ⟨_, _, _, _, _, _, _, _, _, _, rfl⟩
variable {tb : Nat → Int32} {tsz rf rp xk xs xa xn k s e x c : Int32}
theorem exp_y (h : fX6_readToken n tb tsz xk xs xa xn = some (c, s, e, x)) : fX6_expect n tb tsz rf rp xk xs xa xn c = some (1, rf, rp, c, s, e, x) := by
  unfold fX6_expect
  rw [h, bd4_some, if_pos rfl]
theorem exp_n (h : fX6_readToken n tb tsz xk xs xa xn = some (k, s, e, x)) (h1 : ¬ k = c) (h2 : ¬ k = 5) : fX6_expect n tb tsz rf rp xk xs xa xn c = some (0, 2, s, k, s, e, x) := by
  unfold fX6_expect fX6_refuse
  rw [h, bd4_some, if_neg h1, if_neg h2, bd3_some, if_pos rfl]
theorem exp_b (h : fX6_readToken n tb tsz xk xs xa xn = some (5, s, e, x)) (h1 : ¬ 5 = c) : fX6_expect n tb tsz rf rp xk xs xa xn c = some (0, 1, s, 5, s, e, x) := by
  unfold fX6_expect fX6_refuse
  rw [h, bd4_some, if_neg h1, if_pos rfl, bd3_some, if_pos rfl]
theorem ref_n (h : ¬ k = 5) : fX6_refuse n rf rp k s c = some (0, c, s) := by
  unfold fX6_refuse
  rw [if_neg h]
theorem kd_ne {kd c : Nat} (h : kd ≤ 4) (hc : c < 100) (hn : ¬ kd = c) : ¬ nI kd = nI c := by
  rw [nI_eq (by omega) (by omega)]
  exact hn
end PS
