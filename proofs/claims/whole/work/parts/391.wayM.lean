/-! way: the reference's steps; the way itself -/
section WM
variable {n P T b : Nat} {B : Nat → Nat → Nat} {bl : Nat → Int32}
variable {mp mg : Int32} {mxs mys mhs mrx mrh ml ms mc : Nat → Int32} {th : Int32}
theorem M_findLeft (hP : P ≤ 10) (hn : 1000 ≤ n) (hb : b < 6) (hbl : ∀ a v, a < P → v < P → B a v < 100 ∧ fX9_blurOf n mxs mys mhs mg mrx mrh ml ms mc (nI a) (nI v) th = some (nI (B a v))) (em : mp = nI P) {D : Nat → Nat} (hD : GD P T b B D) (lf : Nat → Int32) : ∃ lf', fX9_findLeft n mp mxs mys mhs mg mrx mrh ml ms mc lf (nI T) th (nI b) = some lf' ∧ ∀ v, v < P → lf' v = nI (D v) := by
  obtain ⟨hT, g1, g2, g3, g4⟩ := hD
  have outer : ∀ (d k r : Nat) (lf : Nat → Int32) (E : Nat → Nat), r + d = P → d < k → (∀ v, v < P → lf v = nI (E v)) → (∀ v, v < P → D v ≤ E v ∧ E v ≤ 100) → (∀ v, v < P → D v ≤ r → E v = D v) → ∃ lf', fX9_findLeft_p38 n mp mxs mys mhs mg mrx mrh ml ms mc th (nI b) k lf (nI r) = some lf' ∧ ∀ v, v < P → lf' v = nI (D v) := by
    intro d
    induction d with
    | zero =>
      intro k r lf E hr hk e1 e2 e3
      obtain ⟨k, rfl⟩ : ∃ q, k = q + 1 := ⟨k - 1, by omega⟩
      rw [fX9_findLeft_p38, em, if_pos (nI_le (by omega) (by omega))]
      refine ⟨lf, rfl, fun v hv => ?_⟩
      rw [e1 v hv]
      have h1 := g2 v hv
      have h2 := e2 v hv
      have h3 := e3 v hv
      by_cases z : D v ≤ r
      · rw [h3 z]
      · rw [show E v = D v from by omega]
    | succ d ih =>
      intro k r lf E hr hk e1 e2 e3
      obtain ⟨k, rfl⟩ : ∃ q, k = q + 1 := ⟨k - 1, by omega⟩
      rw [fX9_findLeft_p38, em, if_neg (nI_ge (by omega) (by omega)), ← em]
      have mid : ∀ (d2 k2 v : Nat) (lf : Nat → Int32) (E : Nat → Nat), v + d2 = P → d2 < k2 → (∀ v, v < P → lf v = nI (E v)) → (∀ v, v < P → D v ≤ E v ∧ E v ≤ 100) → (∀ v, v < P → D v ≤ r → E v = D v) → (∀ w, w < v → D w ≤ r + 1 → E w = D w) → ∃ lf', fX9_findLeft_p50 n mp mxs mys mhs mg mrx mrh ml ms mc th (nI b) (nI r) (fX9_findLeft_p38 n mp mxs mys mhs mg mrx mrh ml ms mc th (nI b) k) k2 lf (nI v) = some lf' ∧ ∀ v, v < P → lf' v = nI (D v) := by
        intro d2
        induction d2 with
        | zero =>
          intro k2 v lf E hv hk2 e1 e2 e3 e4
          obtain ⟨k2, rfl⟩ : ∃ q, k2 = q + 1 := ⟨k2 - 1, by omega⟩
          rw [fX9_findLeft_p50, em, if_pos (nI_le (by omega) (by omega)), ← em, nI_1]
          exact ih k (r + 1) lf E (by omega) (by omega) e1 e2 (fun w hw => e4 w (by omega))
        | succ d2 ih2 =>
          intro k2 v lf E hv hk2 e1 e2 e3 e4
          obtain ⟨k2, rfl⟩ : ∃ q, k2 = q + 1 := ⟨k2 - 1, by omega⟩
          have vP : v < P := by omega
          rw [fX9_findLeft_p50, em, if_neg (nI_ge (by omega) (by omega)), ← em]
          have inner : ∀ (d3 k3 u : Nat) (lf : Nat → Int32) (E : Nat → Nat), u + d3 = P → d3 < k3 → (∀ v, v < P → lf v = nI (E v)) → (∀ v, v < P → D v ≤ E v ∧ E v ≤ 100) → (∀ v, v < P → D v ≤ r → E v = D v) → (∀ w, w < v → D w ≤ r + 1 → E w = D w) → (∀ w, w < u → w ≠ v → B v w ≤ b → D w ≤ r → E v ≤ D w + 1) → ∃ lf', fX9_findLeft_p62 n mp mxs mys mhs mg mrx mrh ml ms mc th (nI b) (nI r) (nI v) (fX9_findLeft_p38 n mp mxs mys mhs mg mrx mrh ml ms mc th (nI b) k) (fX9_findLeft_p50 n mp mxs mys mhs mg mrx mrh ml ms mc th (nI b) (nI r) (fX9_findLeft_p38 n mp mxs mys mhs mg mrx mrh ml ms mc th (nI b) k) k2) k3 lf (nI u) = some lf' ∧ ∀ v, v < P → lf' v = nI (D v) := by
            intro d3
            induction d3 with
            | zero =>
              intro k3 u lf E hu hk3 e1 e2 e3 e4 e5
              obtain ⟨k3, rfl⟩ : ∃ q, k3 = q + 1 := ⟨k3 - 1, by omega⟩
              rw [fX9_findLeft_p62, em, if_pos (nI_le (by omega) (by omega)), ← em, nI_1]
              refine ih2 k2 (v + 1) lf E (by omega) (by omega) e1 e2 e3 (fun w hw q => ?_)
              by_cases z : w = v
              · subst z
                by_cases y : D w ≤ r
                · exact e3 w vP y
                · have nT : w ≠ T := fun x => by have := (g1 w vP).mpr x; omega
                  obtain ⟨x, x1, x2, x3⟩ := g3 w vP (by omega) nT
                  have i := e5 x (by omega) (fun x4 => by rw [x4] at x3; omega) x2 (by omega)
                  have j := e2 w vP
                  omega
              · exact e4 w (by omega) q
            | succ d3 ih3 =>
              intro k3 u lf E hu hk3 e1 e2 e3 e4 e5
              obtain ⟨k3, rfl⟩ : ∃ q, k3 = q + 1 := ⟨k3 - 1, by omega⟩
              have uP : u < P := by omega
              obtain ⟨b1, b2⟩ := hbl v u vP uP
              have ev := e2 v vP
              have eu := e2 u uP
              -- nothing changes
              have keep : (u ≠ v → B v u ≤ b → D u ≤ r → E v ≤ D u + 1) → ∃ lf', fX9_findLeft_p62 n mp mxs mys mhs mg mrx mrh ml ms mc th (nI b) (nI r) (nI v) (fX9_findLeft_p38 n mp mxs mys mhs mg mrx mrh ml ms mc th (nI b) k) (fX9_findLeft_p50 n mp mxs mys mhs mg mrx mrh ml ms mc th (nI b) (nI r) (fX9_findLeft_p38 n mp mxs mys mhs mg mrx mrh ml ms mc th (nI b) k) k2) k3 (upd lf v (lf v)) (nI u + 1) = some lf' ∧ ∀ v, v < P → lf' v = nI (D v) := by
                intro q
                rw [nI_1]
                refine ih3 k3 (u + 1) _ E (by omega) (by omega) (fun w hw => ?_) e2 e3 e4 (fun w hw => ?_)
                · by_cases z : w = v
                  · subst z
                    rw [pk_us, e1 w hw]
                  · rw [pk_un (by omega), e1 w hw]
                · by_cases z : w = u
                  · subst z; exact q
                  · exact e5 w (by omega)
              rw [fX9_findLeft_p62, em, if_neg (nI_ge (by omega) (by omega)), ← em]
              by_cases vu : v = u
              · rw [if_pos (by rw [vu])]
                unfold fX9_findLeft_p96
                rw [if_pos rfl, ar_nI (by omega) (by decide), aw_nI (by omega) (by decide)]
                exact keep (fun z => absurd vu.symm z)
              · rw [if_neg (by rw [nI_eq (by omega) (by omega)]; exact vu), b2, bd1_some]
                unfold fX9_findLeft_p96
                by_cases y : B v u ≤ b
                · rw [if_neg (nI_nlt y (by omega)), if_neg i10, ar_nI (by omega) (by decide), ar_nI (by omega) (by decide), e1 u uP, e1 v vP, nI_1]
                  by_cases z : E v ≤ E u + 1
                  · rw [if_pos (nI_le z (by omega)), ar_nI (by omega) (by decide), aw_nI (by omega) (by decide)]
                    exact keep (fun _ _ q => by have := e3 u uP q; omega)
                  · rw [if_neg (nI_ge (by omega) (by omega)), ar_nI (by omega) (by decide), aw_nI (by omega) (by decide), e1 u uP, nI_1, nI_1]
                    have lowb : D v ≤ E u + 1 := by
                      have := g2 u uP
                      have := g4 v u vP uP y (by omega)
                      omega
                    refine ih3 k3 (u + 1) _ (un E v (E u + 1)) (by omega) (by omega) (fun w hw => ?_) (fun w hw => ?_) (fun w hw q => ?_) (fun w hw q => ?_) (fun w hw q1 q2 q3 => ?_)
                    · by_cases x : w = v
                      · subst x; rw [pk_us, un_s]
                      · rw [pk_un (by omega), un_n x, e1 w hw]
                    · by_cases x : w = v
                      · subst x; rw [un_s]; omega
                      · rw [un_n x]; exact e2 w hw
                    · by_cases x : w = v
                      · subst x
                        have := e3 w hw q
                        omega
                      · rw [un_n x]; exact e3 w hw q
                    · rw [un_n (by omega)]; exact e4 w hw q
                    · rw [un_s]
                      by_cases x : w = u
                      · subst x
                        have := e3 w uP q3
                        omega
                      · have := e5 w (by omega) q1 q2 q3
                        omega
                · rw [if_pos (nI_lt (by omega) (by omega)), if_pos rfl, ar_nI (by omega) (by decide), aw_nI (by omega) (by decide)]
                  exact keep (fun _ q => absurd q y)
          exact inner P n 0 lf E (by omega) (by omega) e1 e2 e3 e4 (fun w hw => by omega)
      exact mid P n 0 lf E (by omega) (by omega) e1 e2 e3 (fun w hw => by omega)
  have init : ∀ (d k r : Nat) (lf : Nat → Int32), r + d = 10 → d < k → (∀ v, v < r → lf v = nI (if v = T then 0 else 100)) → ∃ lf', fX9_findLeft_p3 n mp mxs mys mhs mg mrx mrh ml ms mc (nI T) th (nI b) k lf (nI r) = some lf' ∧ ∀ v, v < P → lf' v = nI (D v) := by
    intro d
    induction d with
    | zero =>
      intro k r lf hr hk h
      obtain ⟨k, rfl⟩ : ∃ q, k = q + 1 := ⟨k - 1, by omega⟩
      rw [fX9_findLeft_p3, show r = 10 from by omega, if_pos (by decide)]
      refine outer P n 0 lf (fun v => if v = T then 0 else 100) (by omega) (by omega) (fun v hv => h v (by omega)) (fun v hv => ?_) (fun v hv q => ?_)
      · have h1 := g1 v hv
        have h2 := g2 v hv
        by_cases z : v = T
        · have := h1.mpr z
          simp [z]
          rw [← z]; exact this
        · simp [z]
          omega
      · have h1 := (g1 v hv).mp (by omega)
        rw [if_pos h1]
        omega
    | succ d ih =>
      intro k r lf hr hk h
      obtain ⟨k, rfl⟩ : ∃ q, k = q + 1 := ⟨k - 1, by omega⟩
      rw [fX9_findLeft_p3, show (10 : Int32) = nI 10 from rfl, if_neg (nI_ge (by omega) (by omega))]
      by_cases z : r = T
      · rw [if_pos (by rw [z]), aw_nI (by omega) (by decide), nI_1]
        refine ih k (r + 1) _ (by omega) (by omega) (fun v hv => ?_)
        by_cases y : v = r
        · subst y; rw [pk_us, if_pos z]; rfl
        · rw [pk_un (by omega), h v (by omega)]
      · rw [if_neg (by rw [nI_eq (by omega) (by omega)]; exact z), aw_nI (by omega) (by decide), nI_1]
        refine ih k (r + 1) _ (by omega) (by omega) (fun v hv => ?_)
        by_cases y : v = r
        · subst y; rw [pk_us, if_neg z]; rfl
        · rw [pk_un (by omega), h v (by omega)]
  exact init 10 n 0 lf (by omega) (by omega) (fun v hv => by omega)
def itr (nx : Nat → Nat) (A : Nat) : Nat → Nat
  | 0 => A
  | i + 1 => nx (itr nx A i)
/-- the next PLACE of the way -/
def okN (P b : Nat) (B : Nat → Nat → Nat) (D nx : Nat → Nat) : Prop := ∀ a, a < P → 0 < D a → D a < 100 → nx a < P ∧ D (nx a) + 1 = D a ∧ B a (nx a) ≤ b ∧ ∀ u, u < nx a → ¬ (D u + 1 = D a ∧ B a u ≤ b)
theorem nx_ex {D : Nat → Nat} (hD : GD P T b B D) : ∃ nx, okN P b B D nx := by
  have h : ∀ a, ∃ v, a < P → 0 < D a → D a < 100 → v < P ∧ D v + 1 = D a ∧ B a v ≤ b ∧ ∀ u, u < v → ¬ (D u + 1 = D a ∧ B a u ≤ b) := by
    intro a
    by_cases q : a < P ∧ 0 < D a ∧ D a < 100
    · have nT : a ≠ T := fun x => by have := (hD.2.1 a q.1).mpr x; omega
      obtain ⟨u, u1, u2, u3⟩ := hD.2.2.2.1 a q.1 q.2.2 nT
      obtain ⟨v, v1, v2, v3⟩ := least (q := fun u => D u + 1 = D a ∧ B a u ≤ b) ⟨u, u1, u3, u2⟩
      exact ⟨v, fun _ _ _ => ⟨v1, v2.1, v2.2, v3⟩⟩
    · exact ⟨0, fun h1 h2 h3 => absurd ⟨h1, h2, h3⟩ q⟩
  exact ⟨fun a => Classical.choose (h a), fun a => Classical.choose_spec (h a)⟩
theorem itr_ok {D nx : Nat → Nat} (hN : okN P b B D nx) {A : Nat} (hA : A < P) (hL : D A < 100) : ∀ i, i ≤ D A → itr nx A i < P ∧ D (itr nx A i) = D A - i
  | 0, _ => ⟨hA, by rw [itr]; omega⟩
  | i + 1, h => by
    obtain ⟨h1, h2⟩ := itr_ok hN hA hL i (by omega)
    obtain ⟨a1, a2, -⟩ := hN (itr nx A i) h1 (by omega) (by omega)
    exact ⟨a1, by rw [itr]; omega⟩
theorem X_walk (hP : P ≤ 10) (hn : 1000 ≤ n) (hB : okB P B bl) (hb : b < 6) {st : Nat → Int32} {D nx : Nat → Nat} (hs : ∀ v, v < P → D v ≤ 100 ∧ st v = sv (D v)) (hN : okN P b B D nx) {A : Nat} (hA : A < P) (hL : D A < P) (way : Nat → Int32) (wl : Int32) : ∃ way', fX1_walkWay n way bl st (nI P) wl (nI A) (nI b) = some (way', nI (D A + 1)) ∧ ∀ i, i ≤ D A → way' i = nI (itr nx A i) := by
  unfold fX1_walkWay
  rw [ar_nI (by omega) (by decide), (hs A hA).2, show sv (D A) = nI (D A) from by unfold sv; rw [if_neg (by omega)], nm, nI_1, show (0 : Int32) = nI 0 from rfl, aw_nI (by omega) (by decide)]
  have lp : ∀ (d k i : Nat) (way : Nat → Int32), i + d = D A → d < k → (∀ j, j ≤ i → way j = nI (itr nx A j)) → ∃ way', fX1_walkWay_p24 n bl st (nI P) (nI (D A + 1)) (nI b) k way (nI (itr nx A i)) (nI (i + 1)) = some (way', nI (D A + 1)) ∧ ∀ i, i ≤ D A → way' i = nI (itr nx A i) := by
    intro d
    induction d with
    | zero =>
      intro k i way hi hk h
      obtain ⟨k, rfl⟩ : ∃ q, k = q + 1 := ⟨k - 1, by omega⟩
      rw [fX1_walkWay_p24, if_pos (nI_le (by omega) (by omega))]
      exact ⟨way, rfl, fun j hj => h j (by omega)⟩
    | succ d ih =>
      intro k i way hi hk h
      obtain ⟨k, rfl⟩ : ∃ q, k = q + 1 := ⟨k - 1, by omega⟩
      obtain ⟨c1, c2⟩ := itr_ok hN hA (show D A < 100 by omega) i (by omega)
      obtain ⟨a1, a2, a3, a4⟩ := hN (itr nx A i) c1 (by omega) (by omega)
      rw [fX1_walkWay_p24, if_neg (nI_ge (by omega) (by omega)), i1nI, pk_sub (by omega), pk_sub (by omega), show D A + 1 - 1 - (i + 1) = D A - i - 1 from by omega]
      rcases X_next hP hn hB hs c1 (show D A - i - 1 < 100 by omega) hb with ⟨v, v1, v2, v3, v4, v5⟩ | ⟨v1, v2⟩
      · have e : v = nx (itr nx A i) := by
          rcases Nat.lt_trichotomy v (nx (itr nx A i)) with z | z | z
          · exact absurd ⟨by omega, v3⟩ (a4 v z)
          · exact z
          · exact absurd ⟨by omega, a3⟩ (v4 _ z)
        rw [v5, bd1_some, if_neg (m4_nI (by omega)), aw_nI (by omega) (by decide), nI_add, e]
        refine ih k (i + 1) _ (by omega) (by omega) (fun j hj => ?_)
        by_cases z : j = i + 1
        · subst z; rw [pk_us, itr]
        · rw [pk_un (by omega), h j (by omega)]
      · exact absurd ⟨by omega, a3⟩ (v1 _ a1)
  exact lp (D A) n 0 _ (by omega) (by omega) (fun j hj => by rw [show j = 0 from by omega, pk_us, itr])
theorem M_walk (hP : P ≤ 10) (hn : 1000 ≤ n) (hb : b < 6) (hbl : ∀ a v, a < P → v < P → B a v < 100 ∧ fX9_blurOf n mxs mys mhs mg mrx mrh ml ms mc (nI a) (nI v) th = some (nI (B a v))) {lf : Nat → Int32} {D nx : Nat → Nat} (hl : ∀ v, v < P → lf v = nI (D v)) (h100 : ∀ v, v < P → D v ≤ 100) (hN : okN P b B D nx) {A : Nat} (hA : A < P) (hL : D A < P) {x4 : Int32} {j : Nat} (hj : j ≤ D A) (hx : x4 - 10 = nI j) : ∀ (d k i : Nat), i + d = j → d < k → fX9_way_p157 n mxs mys mhs mg mrx mrh ml ms mc lf th x4 (nI b) k (nI (itr nx A i)) (nI i) = some (nI (itr nx A j), lf) := by
  intro d
  induction d with
  | zero =>
    intro k i hi hk
    obtain ⟨k, rfl⟩ : ∃ q, k = q + 1 := ⟨k - 1, by omega⟩
    rw [fX9_way_p157, hx, if_pos (nI_le (by omega) (by omega)), show i = j from by omega]
  | succ d ih =>
    intro k i hi hk
    obtain ⟨k, rfl⟩ : ∃ q, k = q + 1 := ⟨k - 1, by omega⟩
    obtain ⟨c1, c2⟩ := itr_ok hN hA (show D A < 100 by omega) i (by omega)
    obtain ⟨a1, a2, a3, a4⟩ := hN (itr nx A i) c1 (by omega) (by omega)
    rw [fX9_way_p157, hx, if_neg (nI_ge (by omega) (by omega))]
    have inner : ∀ (d2 k2 u : Nat), u + d2 = nx (itr nx A i) → d2 < k2 → fX9_way_p170 n mxs mys mhs mg mrx mrh ml ms mc lf th x4 (nI b) (nI (itr nx A i)) (nI i) (fX9_way_p157 n mxs mys mhs mg mrx mrh ml ms mc lf th x4 (nI b) k) k2 (nI u) = some (nI (itr nx A j), lf) := by
      intro d2
      induction d2 with
      | zero =>
        intro k2 u hu hk2
        obtain ⟨k2, rfl⟩ : ∃ q, k2 = q + 1 := ⟨k2 - 1, by omega⟩
        have hu' : u = nx (itr nx A i) := by omega
        rw [← hu'] at a1 a2 a3 a4
        obtain ⟨b1, b2⟩ := hbl (itr nx A i) u c1 a1
        rw [fX9_way_p170, if_neg (by rw [nI_eq (by omega) (by omega)]; intro z; rw [← z] at a2; omega), b2, bd1_some, if_neg (nI_nlt a3 (by omega)), ar_nI (by omega) (by decide), ar_nI (by omega) (by decide), hl u a1, hl _ c1, i1nI, pk_sub (by omega), if_pos (by rw [nI_eq (by omega) (by omega)]; omega), nI_add, hu']
        exact ih k (i + 1) (by omega) (by omega)
      | succ d2 ih2 =>
        intro k2 u hu hk2
        obtain ⟨k2, rfl⟩ : ∃ q, k2 = q + 1 := ⟨k2 - 1, by omega⟩
        have uP : u < P := by omega
        have hi2 := ih2 k2 (u + 1) (by omega) (by omega)
        rw [← nI_1] at hi2
        rw [fX9_way_p170]
        by_cases z : u = itr nx A i
        · rw [if_pos (by rw [z])]
          exact hi2
        · obtain ⟨b1, b2⟩ := hbl (itr nx A i) u c1 uP
          have du := h100 u uP
          rw [if_neg (by rw [nI_eq (by omega) (by omega)]; exact z), b2, bd1_some]
          by_cases y : B (itr nx A i) u ≤ b
          · rw [if_neg (nI_nlt y (by omega)), ar_nI (by omega) (by decide), ar_nI (by omega) (by decide), hl u uP, hl _ c1, show nI (D (itr nx A i)) - 1 = nI (D (itr nx A i) - 1) from by rw [i1nI, pk_sub (by omega)], if_neg (by
              rw [nI_eq (by omega) (by omega)]
              intro x
              exact a4 u (by omega) ⟨by omega, y⟩)]
            exact hi2
          · rw [if_pos (nI_lt (by omega) (by omega))]
            exact hi2
    exact inner (nx (itr nx A i)) n 0 (by omega) (by omega)
end WM
