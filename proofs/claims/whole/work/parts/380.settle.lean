/-! settle: the rows at every BLUR, what is alike, what is near -/
theorem uL_s {f : Nat → Int64} {k : Nat} {x : Int64} : vp_updL f k x k = x := pk_uLs
section SE
variable {n W : Nat} {mL : Nat → List Nat}
def rowsOk (mL : Nat → List Nat) (W b w : Nat) (rows : Nat → Int64) : Prop := ∀ v, v < W → ∀ c, c < 6 → (c < b ∨ (c = b ∧ v < w)) → rows (c * 16 + v) = lN (pkl (rowS (mL v) c))
theorem X_set10 (hn : 1000 ≤ n) (hW : W ≤ 16) (hL : ∀ v, v < W → okL (mL v)) {alike near : Nat → Int32} {rec2 : (Nat → Int64) → Int32 → Option ((Nat → Int64) × (Nat → Int32) × (Nat → Int32))} {b : Nat} (hb : 0 < b) (hb6 : b < 6) : ∀ (d k w : Nat) (rows : Nat → Int64), w + d = W → d < k → rowsOk mL W b w rows → ∃ rows', fX7_settle_p10 n alike near (nI W) (nI b) rec2 k rows (nI w) = rec2 rows' (nI (b + 1)) ∧ rowsOk mL W (b + 1) 0 rows' := by
  intro d
  induction d with
  | zero =>
    intro k w rows hw hk h
    obtain ⟨k, rfl⟩ : ∃ q, k = q + 1 := ⟨k - 1, by omega⟩
    refine ⟨rows, ?_, fun v hv c hc hcb => h v hv c hc (by omega)⟩
    rw [fX7_settle_p10, if_pos (nI_le (by omega) (by omega)), nI_1]
  | succ d ih =>
    intro k w rows hw hk h
    obtain ⟨k, rfl⟩ : ∃ q, k = q + 1 := ⟨k - 1, by omega⟩
    have h0 := h w (by omega) 0 (by decide) (Or.inl hb)
    rw [Nat.zero_mul, Nat.zero_add, rowS_0 (hL w (by omega))] at h0
    obtain ⟨rows', e, hr⟩ := ih k (w + 1) (vp_updL rows (b * 16 + w) (lN (pkl (rowS (mL w) b)))) (by omega) (by omega) (fun v hv c hc hcb => by
      by_cases z : c * 16 + v = b * 16 + w
      · have e1 : c = b := by omega
        have e2 : v = w := by omega
        subst e1 e2
        rw [uL_s]
      · rw [pk_uLn z]
        exact h v hv c hc (by omega))
    refine ⟨rows', ?_, hr⟩
    rw [fX7_settle_p10, if_neg (nI_ge (by omega) (by omega)), ar_nI (by omega) (by decide), h0, X_blurRow hn hb6 (hL w (by omega)), bd1_some, show (16 : Int32) = nI 16 from rfl, pk_mul, nI_add, awL_nI (by omega) (by decide), nI_1]
    exact e
theorem X_set2 (hn : 1000 ≤ n) (hW : W ≤ 16) (hL : ∀ v, v < W → okL (mL v)) {alike near : Nat → Int32} : ∀ (d k b : Nat) (rows : Nat → Int64), b + d = 6 → 0 < b → d < k → rowsOk mL W b 0 rows → ∃ rows', fX7_settle_p2 n alike near (nI W) k rows (nI b) = fX7_settle_p53 n rows' near (nI W) n alike 0 ∧ rowsOk mL W 6 0 rows' := by
  intro d
  induction d with
  | zero =>
    intro k b rows hb h0 hk h
    obtain ⟨k, rfl⟩ : ∃ q, k = q + 1 := ⟨k - 1, by omega⟩
    have e : b = 6 := by omega
    subst e
    exact ⟨rows, by rw [fX7_settle_p2, if_pos (by decide)], h⟩
  | succ d ih =>
    intro k b rows hb h0 hk h
    obtain ⟨k, rfl⟩ : ∃ q, k = q + 1 := ⟨k - 1, by omega⟩
    obtain ⟨r1, e1, h1⟩ := X_set10 (rec2 := fX7_settle_p2 n alike near (nI W) k) (alike := alike) (near := near) hn hW hL h0 (by omega : b < 6) W n 0 rows (by omega) (by omega) h
    obtain ⟨r2, e2, h2⟩ := ih k (b + 1) r1 (by omega) (by omega) (by omega) h1
    refine ⟨r2, ?_, h2⟩
    rw [fX7_settle_p2, show (6 : Int32) = nI 6 from rfl, if_neg (nI_ge (by omega) (by decide))]
    rw [show fX7_settle_p10 n alike near (nI W) (nI b) (fX7_settle_p2 n alike near (nI W) k) n rows 0 = _ from e1]
    exact e2
def alOk (mL : Nat → List Nat) (W b w : Nat) (alike : Nat → Int32) : Prop := ∀ v, v < W → ∀ c, c < 6 → (c < b ∨ (c = b ∧ v < w)) → alike (c * 16 + v) = nI (mk (fun u => decide (rowS (mL u) c = rowS (mL v) c)) W)
theorem X_set61 (hn : 1000 ≤ n) (hW : W ≤ 16) (hL : ∀ v, v < W → okL (mL v)) {rows : Nat → Int64} (hR : rowsOk mL W 6 0 rows) {near : Nat → Int32} {rec53 : (Nat → Int32) → Int32 → Option ((Nat → Int64) × (Nat → Int32) × (Nat → Int32))} {b : Nat} (hb6 : b < 6) : ∀ (d k w : Nat) (alike : Nat → Int32), w + d = W → d < k → alOk mL W b w alike → ∃ alike', fX7_settle_p61 n rows near (nI W) (nI b) rec53 k alike (nI w) = rec53 alike' (nI (b + 1)) ∧ alOk mL W (b + 1) 0 alike' := by
  intro d
  induction d with
  | zero =>
    intro k w alike hw hk h
    obtain ⟨k, rfl⟩ : ∃ q, k = q + 1 := ⟨k - 1, by omega⟩
    refine ⟨alike, ?_, fun v hv c hc hcb => h v hv c hc (by omega)⟩
    rw [fX7_settle_p61, if_pos (nI_le (by omega) (by omega)), nI_1]
  | succ d ih =>
    intro k w alike hw hk h
    obtain ⟨k, rfl⟩ : ∃ q, k = q + 1 := ⟨k - 1, by omega⟩
    obtain ⟨alike', e, hr⟩ := ih k (w + 1) (upd alike (b * 16 + w) (nI (mk (fun u => decide (rowS (mL u) b = rowS (mL w) b)) W))) (by omega) (by omega) (fun v hv c hc hcb => by
      by_cases z : c * 16 + v = b * 16 + w
      · have e1 : c = b := by omega
        have e2 : v = w := by omega
        subst e1 e2
        rw [pk_us]
      · rw [pk_un z]
        exact h v hv c hc (by omega))
    refine ⟨alike', ?_, hr⟩
    have hrow : fX7_rowAt n rows (nI b) (nI w) = some (lN (pkl (rowS (mL w) b))) := by
      unfold fX7_rowAt
      rw [show (16 : Int32) = nI 16 from rfl, pk_mul, nI_add, ar_nI (by omega) (by decide), hR w (by omega) b hb6 (Or.inl hb6)]
    rw [fX7_settle_p61, if_neg (nI_ge (by omega) (by omega)), hrow, bd1_some, X_withRow hn hW hb6 (fun v hv => ⟨hL v hv, hR v hv b hb6 (Or.inl hb6)⟩) (rowS_ok (hL w (by omega)) b), bd1_some, show (16 : Int32) = nI 16 from rfl, pk_mul, nI_add, aw_nI (by omega) (by decide), nI_1]
    exact e
theorem X_set53 (hn : 1000 ≤ n) (hW : W ≤ 16) (hL : ∀ v, v < W → okL (mL v)) {rows : Nat → Int64} (hR : rowsOk mL W 6 0 rows) {near : Nat → Int32} : ∀ (d k b : Nat) (alike : Nat → Int32), b + d = 6 → d < k → alOk mL W b 0 alike → ∃ alike', fX7_settle_p53 n rows near (nI W) k alike (nI b) = fX7_settle_p105 n rows alike' (nI W) n near 0 ∧ alOk mL W 6 0 alike' := by
  intro d
  induction d with
  | zero =>
    intro k b alike hb hk h
    obtain ⟨k, rfl⟩ : ∃ q, k = q + 1 := ⟨k - 1, by omega⟩
    have e : b = 6 := by omega
    subst e
    exact ⟨alike, by rw [fX7_settle_p53, if_pos (by decide)], h⟩
  | succ d ih =>
    intro k b alike hb hk h
    obtain ⟨k, rfl⟩ : ∃ q, k = q + 1 := ⟨k - 1, by omega⟩
    obtain ⟨r1, e1, h1⟩ := X_set61 (rec53 := fX7_settle_p53 n rows near (nI W) k) (near := near) hn hW hL hR (by omega : b < 6) W n 0 alike (by omega) (by omega) h
    obtain ⟨r2, e2, h2⟩ := ih k (b + 1) r1 (by omega) (by omega) h1
    refine ⟨r2, ?_, h2⟩
    rw [fX7_settle_p53, show (6 : Int32) = nI 6 from rfl, if_neg (nI_ge (by omega) (by decide))]
    rw [show fX7_settle_p61 n rows near (nI W) (nI b) (fX7_settle_p53 n rows near (nI W) k) n alike 0 = _ from e1]
    exact e2
theorem X_diff (hn : 1000 ≤ n) (hW : W ≤ 16) (hL : ∀ v, v < W → okL (mL v)) {rows : Nat → Int64} (hR : ∀ v, v < W → rows v = lN (pkl (mL v))) {w : Nat} (hw : w < W) : fX7_differingInOneFrom n rows (nI W) (nI w) = some (nI (mk (fun v => dif1 (mL v) (mL w)) W)) := by
  unfold fX7_differingInOneFrom
  have g : ∀ (d k r : Nat), r + d = W → d < k → fX7_differingInOneFrom_p4 n rows (nI W) (nI w) k (nI (mk (fun v => dif1 (mL v) (mL w)) r)) (nI r) = some (nI (mk (fun v => dif1 (mL v) (mL w)) W)) := by
    intro d
    induction d with
    | zero =>
      intro k r hr hk
      obtain ⟨k, rfl⟩ : ∃ q, k = q + 1 := ⟨k - 1, by omega⟩
      rw [fX7_differingInOneFrom_p4, if_pos (nI_le (by omega) (by omega)), show r = W from by omega]
    | succ d ih =>
      intro k r hr hk
      obtain ⟨k, rfl⟩ : ∃ q, k = q + 1 := ⟨k - 1, by omega⟩
      have hi := ih k (r + 1) (by omega) (by omega)
      rw [fX7_differingInOneFrom_p4, if_neg (nI_ge (by omega) (by omega)), ar_nI (by omega) (by decide), ar_nI (by omega) (by decide), hR r (by omega), hR w hw, X_differInOne hn (hL r (by omega)) (hL w hw), bd1_some]
      by_cases q : dif1 (mL r) (mL w) = true
      · rw [if_pos q, if_neg i10, nm, or_mk (by omega) q, nI_1]
        exact hi
      · rw [if_neg q, if_pos rfl, nI_1]
        rw [mk_no (by simpa using q)] at hi
        exact hi
  exact g W n 0 (by omega) (by omega)
theorem X_set105 (hn : 1000 ≤ n) (hW : W ≤ 16) (hL : ∀ v, v < W → okL (mL v)) {rows : Nat → Int64} {alike : Nat → Int32} (hR : ∀ v, v < W → rows v = lN (pkl (mL v))) : ∀ (d k w : Nat) (near : Nat → Int32), w + d = W → d < k → (∀ v, v < w → near v = nI (mk (fun u => dif1 (mL u) (mL v)) W)) → ∃ near', fX7_settle_p105 n rows alike (nI W) k near (nI w) = some (rows, alike, near') ∧ ∀ v, v < W → near' v = nI (mk (fun u => dif1 (mL u) (mL v)) W) := by
  intro d
  induction d with
  | zero =>
    intro k w near hw hk h
    obtain ⟨k, rfl⟩ : ∃ q, k = q + 1 := ⟨k - 1, by omega⟩
    exact ⟨near, by rw [fX7_settle_p105, if_pos (nI_le (by omega) (by omega))], fun v hv => h v (by omega)⟩
  | succ d ih =>
    intro k w near hw hk h
    obtain ⟨k, rfl⟩ : ∃ q, k = q + 1 := ⟨k - 1, by omega⟩
    obtain ⟨near', e, hr⟩ := ih k (w + 1) (upd near w (nI (mk (fun u => dif1 (mL u) (mL w)) W))) (by omega) (by omega) (fun v hv => by
      by_cases z : v = w
      · subst z
        rw [pk_us]
      · rw [pk_un z]
        exact h v (by omega))
    refine ⟨near', ?_, hr⟩
    rw [fX7_settle_p105, if_neg (nI_ge (by omega) (by omega)), X_diff hn hW hL hR (by omega), bd1_some, aw_nI (by omega) (by decide), nI_1]
    exact e
theorem X_settle (hn : 1000 ≤ n) (hW : W ≤ 16) (hL : ∀ v, v < W → okL (mL v)) {rows : Nat → Int64} {alike near : Nat → Int32} (hR : ∀ v, v < W → rows v = lN (pkl (mL v))) : ∃ rows' alike' near', fX7_settle n rows alike near (nI W) = some (rows', alike', near') ∧ ∀ w, w < W → near' w = nI (mk (fun v => dif1 (mL v) (mL w)) W) ∧ ∀ b, b < 6 → rows' (b * 16 + w) = lN (pkl (rowS (mL w) b)) ∧ alike' (b * 16 + w) = nI (mk (fun v => decide (rowS (mL v) b = rowS (mL w) b)) W) := by
  obtain ⟨r1, e1, h1⟩ := X_set2 (alike := alike) (near := near) hn hW hL 5 n 1 rows (by omega) (by decide) (by omega) (fun v hv c hc hcb => by
    have e : c = 0 := by omega
    subst e
    rw [Nat.zero_mul, Nat.zero_add, rowS_0 (hL v hv)]
    exact hR v hv)
  obtain ⟨a1, e2, h2⟩ := X_set53 (near := near) hn hW hL h1 6 n 0 alike (by omega) (by omega) (fun v hv c hc hcb => absurd hcb (by omega))
  obtain ⟨n1, e3, h3⟩ := X_set105 (rows := r1) (alike := a1) hn hW hL (fun v hv => by
    have := h1 v hv 0 (by decide) (Or.inl (by decide))
    rw [Nat.zero_mul, Nat.zero_add, rowS_0 (hL v hv)] at this
    exact this) W n 0 near (by omega) (by omega) (fun v hv => absurd hv (by omega))
  refine ⟨r1, a1, n1, ?_, fun w hw => ⟨h3 w hw, fun b hb => ⟨h1 w hw b hb (Or.inl hb), h2 w hw b hb (Or.inl hb)⟩⟩⟩
  unfold fX7_settle
  rw [show fX7_settle_p2 n alike near (nI W) n rows 1 = _ from e1, show fX7_settle_p53 n r1 near (nI W) n alike 0 = _ from e2]
  exact e3
end SE
