/-! way: steps to a PLACE, by rounds against by relaxing -/
section WY
theorem J_fill {N : Nat} (x : Int32) (hN : N < 2147483648) : ∀ (d k r : Nat) (f : Nat → Int32), r + d = N → d < k → ∃ g, fJ7_fill_53178_p5 N x k f (nI r) = some g ∧ (∀ j, r ≤ j → j < N → g j = x) ∧ ∀ j, (j < r ∨ N ≤ j) → g j = f j := by
  intro d
  induction d with
  | zero =>
    intro k r f hr hk
    obtain ⟨k, rfl⟩ : ∃ q, k = q + 1 := ⟨k - 1, by omega⟩
    rw [fJ7_fill_53178_p5, show Int32.ofNat N = nI N from rfl, if_pos (nI_le (by omega) (by omega))]
    exact ⟨f, rfl, fun j h1 h2 => by omega, fun _ _ => rfl⟩
  | succ d ih =>
    intro k r f hr hk
    obtain ⟨k, rfl⟩ : ∃ q, k = q + 1 := ⟨k - 1, by omega⟩
    rw [fJ7_fill_53178_p5, show Int32.ofNat N = nI N from rfl, if_neg (nI_ge (by omega) (by omega)), aw_nI (by omega) (by omega), nI_1]
    obtain ⟨g, h1, h2, h3⟩ := ih k (r + 1) (upd f r x) (by omega) (by omega)
    refine ⟨g, h1, fun j a b => ?_, fun j a => ?_⟩
    · by_cases e : j = r
      · subst e
        rw [h3 j (by omega), pk_us]
      · exact h2 j (by omega) b
    · rw [h3 j (by omega), pk_un (by omega)]
theorem J_fill_all {n N : Nat} (x : Int32) (hN : N < 2147483648) (hn : N < n) (f : Nat → Int32) : ∃ g, fJ7_fill_53178 n N f x = some g ∧ (∀ j, j < N → g j = x) ∧ ∀ j, N ≤ j → g j = f j := by
  obtain ⟨g, h1, h2, h3⟩ := J_fill x hN N n 0 f (by omega) (by omega)
  exact ⟨g, h1, fun j hj => h2 j (by omega) hj, fun j hj => h3 j (Or.inr hj)⟩
/-- the least of a number that is -/
theorem least {q : Nat → Prop} : ∀ {N : Nat}, (∃ v, v < N ∧ q v) → ∃ v, v < N ∧ q v ∧ ∀ u, u < v → ¬ q u
  | 0, h => by
    obtain ⟨v, hv, _⟩ := h
    omega
  | N + 1, h => by
    by_cases z : ∃ v, v < N ∧ q v
    · obtain ⟨v, h1, h2, h3⟩ := least z
      exact ⟨v, by omega, h2, h3⟩
    · obtain ⟨v, h1, h2⟩ := h
      by_cases e : v = N
      · subst e
        exact ⟨v, by omega, h2, fun u hu y => z ⟨u, hu, y⟩⟩
      · exact absurd ⟨v, by omega, h2⟩ z
/-- steps to T by calls of BLUR b or less -/
def GD (P T b : Nat) (B : Nat → Nat → Nat) (D : Nat → Nat) : Prop := T < P ∧ (∀ v, v < P → (D v = 0 ↔ v = T)) ∧ (∀ v, v < P → D v = 100 ∨ D v < P) ∧ (∀ v, v < P → D v < 100 → v ≠ T → ∃ u, u < P ∧ B v u ≤ b ∧ D u + 1 = D v) ∧ ∀ v u, v < P → u < P → B v u ≤ b → D u < 100 → D v ≤ D u + 1
def sv (d : Nat) : Int32 := if d = 100 then -1 else nI d
theorem sv_m1 {d : Nat} (h : d ≤ 100) : sv d = -1 ↔ d = 100 := by
  unfold sv
  by_cases e : d = 100
  · simp [e]
  · rw [if_neg e]
    constructor
    · intro z
      have := congrArg Int32.toInt z
      rw [nI_toInt (by omega), show (-1 : Int32).toInt = -1 from rfl] at this
      omega
    · intro z; exact absurd z e
theorem sv_nI {d m : Nat} (h : d ≤ 100) (hm : m < 100) : sv d = nI m ↔ d = m := by
  unfold sv
  by_cases e : d = 100
  · rw [if_pos e]
    constructor
    · intro z
      have := congrArg Int32.toInt z
      rw [nI_toInt (by omega), show (-1 : Int32).toInt = -1 from rfl] at this
      omega
    · intro z; omega
  · rw [if_neg e, nI_eq (by omega) (by omega)]
theorem m1_nI {d : Nat} (h : d < 2147483648) : ¬ nI d = -1 := by
  intro z
  have := congrArg Int32.toInt z
  rw [nI_toInt (by omega), show (-1 : Int32).toInt = -1 from rfl] at this
  omega
theorem m4_nI {d : Nat} (h : d < 2147483648) : ¬ nI d = -4 := by
  intro z
  have := congrArg Int32.toInt z
  rw [nI_toInt (by omega), show (-4 : Int32).toInt = -4 from rfl] at this
  omega
variable {n P T b : Nat} {B : Nat → Nat → Nat} {bl : Nat → Int32}
def okB (P : Nat) (B : Nat → Nat → Nat) (bl : Nat → Int32) : Prop := ∀ a v, a < P → v < P → B a v < 100 ∧ bl (a * 10 + v) = nI (B a v)
theorem X_next (hP : P ≤ 10) (hn : 1000 ≤ n) (hB : okB P B bl) {st : Nat → Int32} {D : Nat → Nat} (hD : ∀ v, v < P → D v ≤ 100 ∧ st v = sv (D v)) {a m : Nat} (ha : a < P) (hm : m < 100) (hb : b < 6) :
    (∃ v, v < P ∧ D v = m ∧ B a v ≤ b ∧ (∀ u, u < v → ¬ (D u = m ∧ B a u ≤ b)) ∧ fX1_nextOnWay n bl st (nI P) (nI a) (nI m) (nI b) = some (nI v)) ∨ ((∀ v, v < P → ¬ (D v = m ∧ B a v ≤ b)) ∧ fX1_nextOnWay n bl st (nI P) (nI a) (nI m) (nI b) = some (-4)) := by
  have lp : ∀ (d k r : Nat), r + d = P → d < k → (∀ u, u < r → ¬ (D u = m ∧ B a u ≤ b)) → (∃ v, v < P ∧ D v = m ∧ B a v ≤ b ∧ (∀ u, u < v → ¬ (D u = m ∧ B a u ≤ b)) ∧ fX1_nextOnWay_p3 n bl st (nI P) (nI a) (nI m) (nI b) k (nI r) = some (nI v)) ∨ ((∀ v, v < P → ¬ (D v = m ∧ B a v ≤ b)) ∧ fX1_nextOnWay_p3 n bl st (nI P) (nI a) (nI m) (nI b) k (nI r) = some (-4)) := by
    intro d
    induction d with
    | zero =>
      intro k r hr hk h
      obtain ⟨k, rfl⟩ : ∃ q, k = q + 1 := ⟨k - 1, by omega⟩
      rw [fX1_nextOnWay_p3, if_pos (nI_le (by omega) (by omega))]
      exact Or.inr ⟨fun v hv => h v (by omega), rfl⟩
    | succ d ih =>
      intro k r hr hk h
      obtain ⟨k, rfl⟩ : ∃ q, k = q + 1 := ⟨k - 1, by omega⟩
      have rP : r < P := by omega
      obtain ⟨d1, d2⟩ := hD r rP
      obtain ⟨b1, b2⟩ := hB a r ha rP
      rw [fX1_nextOnWay_p3, if_neg (nI_ge (by omega) (by omega)), ar_nI (by omega) (by decide), d2]
      by_cases y : D r = m
      · rw [if_pos ((sv_nI d1 hm).mpr y), show (10 : Int32) = nI 10 from rfl, pk_mul, nI_add, ar_nI (by omega) (by decide), b2]
        by_cases z : B a r ≤ b
        · rw [if_neg (nI_nlt z (by omega))]
          exact Or.inl ⟨r, rP, y, z, h, rfl⟩
        · rw [if_pos (nI_lt (by omega) (by omega)), nI_1]
          refine ih k (r + 1) (by omega) (by omega) (fun u hu q => ?_)
          by_cases e : u = r
          · subst e; exact z q.2
          · exact h u (by omega) q
      · rw [if_neg (fun q => y ((sv_nI d1 hm).mp q)), nI_1]
        refine ih k (r + 1) (by omega) (by omega) (fun u hu q => ?_)
        by_cases e : u = r
        · subst e; exact y q.1
        · exact h u (by omega) q
  exact lp P n 0 (by omega) (by omega) (fun u hu => by omega)
/-- what stands before round r -/
def GS (P T b r : Nat) (B : Nat → Nat → Nat) (D : Nat → Nat) : Prop := (∀ v, v < P → (D v = 0 ↔ v = T)) ∧ (∀ v, v < P → D v = 100 ∨ D v < r) ∧ (∀ v, v < P → D v < 100 → v ≠ T → ∃ u, u < P ∧ B v u ≤ b ∧ D u + 1 = D v) ∧ ∀ v u, v < P → u < P → B v u ≤ b → D u + 1 < r → D v ≤ D u + 1
theorem GS_end (hP : P ≤ 10) (hT : T < P) {D : Nat → Nat} (h : GS P T b P B D) : GD P T b B D := by
  obtain ⟨h1, h2, h3, h4⟩ := h
  refine ⟨hT, h1, h2, h3, fun v u hv hu e q => ?_⟩
  by_cases z : D u + 1 < P
  · exact h4 v u hv hu e z
  · have du : D u + 1 = P := by have := h2 u hu; omega
    have cnt : ∀ m u, u < P → D u = m → m < 100 → m + 1 ≤ fb_ct (fun v => decide (D v ≤ m)) P := by
      intro m
      induction m with
      | zero =>
        intro u hu e _
        exact fb_ct_pos.mpr ⟨u, hu, by simp [e]⟩
      | succ m ih =>
        intro u hu e lt
        have nT : u ≠ T := fun y => by have := (h1 u hu).mpr y; omega
        obtain ⟨w, w1, -, w3⟩ := h3 u hu (by omega) nT
        have i := ih w w1 (by omega) (by omega)
        have s : fb_ct (fun v => decide (D v ≤ m)) P < fb_ct (fun v => decide (D v ≤ m + 1)) P := ct_strict (fun k _ y => by simp only [decide_eq_true_eq] at y ⊢; omega) ⟨u, hu, by simp [e], by simp [e]⟩
        omega
    have c := cnt (D u) u hu rfl q
    have le := fb_ct_le (fun v => decide (D v ≤ D u)) P
    have all := fb_ct_all.mp (show fb_ct (fun v => decide (D v ≤ D u)) P = P by omega) v hv
    simp only [decide_eq_true_eq] at all
    omega
theorem X_countSteps (hP : P ≤ 10) (hn : 1000 ≤ n) (hB : okB P B bl) (hb : b < 6) (hT : T < P) (st : Nat → Int32) : ∃ st' D, fX1_countSteps n bl st (nI P) (nI T) (nI b) = some st' ∧ (∀ v, v < P → D v ≤ 100 ∧ st' v = sv (D v)) ∧ GD P T b B D := by
  unfold fX1_countSteps
  obtain ⟨f, f1, f2, -⟩ := J_fill_all (n := n) (N := 10) (-1) (by decide) (by omega) st
  rw [f1, bd1_some, aw_nI (by omega) (by decide)]
  have outer : ∀ (d k r : Nat) (st : Nat → Int32) (D : Nat → Nat), r + d = P → d < k → 0 < r → (∀ v, v < P → D v ≤ 100 ∧ st v = sv (D v)) → GS P T b r B D → ∃ st' D', fX1_countSteps_p17 n bl (nI P) (nI b) k st (nI r) = some st' ∧ (∀ v, v < P → D' v ≤ 100 ∧ st' v = sv (D' v)) ∧ GD P T b B D' := by
    intro d
    induction d with
    | zero =>
      intro k r st D hr hk h0 h1 h2
      obtain ⟨k, rfl⟩ : ∃ q, k = q + 1 := ⟨k - 1, by omega⟩
      rw [fX1_countSteps_p17, if_pos (nI_le (by omega) (by omega))]
      have : r = P := by omega
      subst this
      exact ⟨st, D, rfl, h1, GS_end hP hT h2⟩
    | succ d ih =>
      intro k r st D hr hk h0 h1 h2
      obtain ⟨k, rfl⟩ : ∃ q, k = q + 1 := ⟨k - 1, by omega⟩
      rw [fX1_countSteps_p17, if_neg (nI_ge (by omega) (by omega))]
      -- D' : what the round gives for places below w
      have inner : ∀ (d2 k2 w : Nat) (st : Nat → Int32) (D' : Nat → Nat), w + d2 = P → d2 < k2 → (∀ v, v < P → D' v ≤ 100 ∧ st v = sv (D' v)) → (∀ v, v < P → D' v = D v ∨ (D v = 100 ∧ D' v = r ∧ ∃ u, u < P ∧ B v u ≤ b ∧ D u + 1 = r)) → (∀ v, v < w → D' v = 100 → ∀ u, u < P → B v u ≤ b → D u + 1 ≠ r) →
          ∃ st' D', fX1_countSteps_p28 n bl (nI P) (nI b) (nI r) (fX1_countSteps_p17 n bl (nI P) (nI b) k) k2 st (nI w) = some st' ∧ (∀ v, v < P → D' v ≤ 100 ∧ st' v = sv (D' v)) ∧ GD P T b B D' := by
        intro d2
        induction d2 with
        | zero =>
          intro k2 w st D' hw hk2 g1 g2 g3
          obtain ⟨k2, rfl⟩ : ∃ q, k2 = q + 1 := ⟨k2 - 1, by omega⟩
          rw [fX1_countSteps_p28, if_pos (nI_le (by omega) (by omega)), nI_1]
          obtain ⟨s1, s2, s3, s4⟩ := h2
          refine ih k (r + 1) st D' (by omega) (by omega) (by omega) g1 ⟨fun v hv => ?_, fun v hv => ?_, fun v hv q1 q2 => ?_, fun v u hv hu e q => ?_⟩
          · have z := s1 v hv
            have y := g2 v hv
            constructor
            · intro x; exact z.mp (by omega)
            · intro x; have := z.mpr x; omega
          · have z := s2 v hv
            have y := g2 v hv
            omega
          · rcases g2 v hv with y | ⟨y1, y2, u, u1, u2, u3⟩
            · obtain ⟨u, u1, u2, u3⟩ := s3 v hv (by omega) q2
              have := g2 u u1
              exact ⟨u, u1, u2, by omega⟩
            · have := g2 u u1
              exact ⟨u, u1, u2, by omega⟩
          · have wk : ∀ v, v < P → D' v = D v ∨ (D v = 100 ∧ D' v = r) := fun v hv => by
              rcases g2 v hv with q | ⟨a, b, -⟩
              · exact Or.inl q
              · exact Or.inr ⟨a, b⟩
            have y := wk v hv
            have x := wk u hu
            clear g2
            have z := s2 v hv
            have zu := s2 u hu
            have g := g3 v (by omega)
            have s := s4 v u hv hu e
            by_cases c : D u + 1 < r
            · have := s c
              omega
            · by_cases c2 : D' v = 100
              · have := g c2 u hu e
                omega
              · omega
        | succ d2 ih2 =>
          intro k2 w st D' hw hk2 g1 g2 g3
          obtain ⟨k2, rfl⟩ : ∃ q, k2 = q + 1 := ⟨k2 - 1, by omega⟩
          have wP : w < P := by omega
          obtain ⟨w1, w2⟩ := g1 w wP
          rw [fX1_countSteps_p28, if_neg (nI_ge (by omega) (by omega)), ar_nI (by omega) (by decide), w2]
          by_cases y : D' w = 100
          · rw [if_pos ((sv_m1 w1).mpr y), i1nI, pk_sub (by omega)]
            -- what D' and D say of r - 1
            have same : ∀ v, v < P → (D' v = r - 1 ↔ D v = r - 1) := fun v hv => by have := g2 v hv; omega
            rcases X_next hP hn hB g1 wP (show r - 1 < 100 by omega) hb with ⟨v, v1, v2, v3, v4, v5⟩ | ⟨v1, v2⟩
            · rw [v5, bd1_some, if_neg (m4_nI (by omega)), aw_nI (by omega) (by decide), nI_add]
              refine ih2 k2 (w + 1) _ (un D' w r) (by omega) (by omega) (fun x hx => ?_) (fun x hx => ?_) (fun x hx q => ?_)
              · by_cases e : x = w
                · subst e
                  rw [un_s, pk_us]
                  refine ⟨by omega, ?_⟩
                  unfold sv
                  rw [if_neg (by omega)]
                · rw [un_n e, pk_un (by omega)]
                  exact g1 x hx
              · by_cases e : x = w
                · subst e
                  rw [un_s]
                  right
                  refine ⟨by have := g2 x hx; omega, rfl, v, v1, v3, ?_⟩
                  have := (same v v1).mp v2
                  omega
                · rw [un_n e]
                  exact g2 x hx
              · by_cases e : x = w
                · subst e
                  rw [un_s] at q
                  omega
                · rw [un_n e] at q
                  exact g3 x (by omega) q
            · rw [v2, bd1_some, if_pos rfl, nI_add]
              refine ih2 k2 (w + 1) st D' (by omega) (by omega) g1 g2 (fun x hx q => ?_)
              by_cases e : x = w
              · subst e
                intro u hu e2 q2
                exact v1 u hu ⟨(same u hu).mpr (by omega), e2⟩
              · exact g3 x (by omega) q
          · rw [if_neg (fun q => y ((sv_m1 w1).mp q)), nI_1]
            refine ih2 k2 (w + 1) st D' (by omega) (by omega) g1 g2 (fun x hx q => ?_)
            by_cases e : x = w
            · subst e
              exact absurd q y
            · exact g3 x (by omega) q
      exact inner P n 0 st D (by omega) (by omega) h1 (fun v _ => Or.inl rfl) (fun v hv => by omega)
  refine outer (P - 1) n 1 _ (fun v => if v = T then 0 else 100) (by omega) (by omega) (by omega) (fun v hv => ?_) ⟨fun v hv => ?_, fun v hv => ?_, fun v hv q1 q2 => ?_, fun v u hv hu e q => ?_⟩
  · by_cases e : v = T
    · subst e
      rw [pk_us]
      simp [sv]
      rfl
    · rw [pk_un (by omega), f2 v (by omega)]
      simp [e, sv]
  · by_cases e : v = T
    · simp [e]
    · simp [e]
  · by_cases e : v = T
    · simp [e]
    · simp [e]
  · simp [q2] at q1
  · omega
end WY
