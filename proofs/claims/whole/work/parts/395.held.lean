/-! the BOOK: what a PLACE has of a call -/
section HL
def hdc (X Y Z RX RH : Nat → Nat) (G : Nat) (wv : Nat → Int32) (tm fr : Nat → Nat) (a c : Nat) : Bool := hrB X Y Z RX RH G (wv (tm c % 24)) (fr c) a
def hmc (am : Nat → Nat) (mL : Nat → List Nat) (W : Nat) (X Y Z RX RH : Nat → Nat) (G : Nat) (wv : Nat → Int32) (tm fr ak wd : Nat → Nat) (a c : Nat) : Nat := mk (hdP am mL (ak c) (wd c) (blS X Y Z RX RH G (wv (tm c % 24)) (fr c) a)) W
variable {n C P Q W G nl : Nat} {am tm fr ak wd ff lf : Nat → Nat} {bt bf ba bw bff bl : Nat → Int32} {bs mcs : Int32} {cd ch cf ca cw co cl : Nat → Int32}
variable {X Y Z RX RH : Nat → Nat} {xs ys hs rx rh mxs mys mhs mrx mrh sl ss sc ml ms mc : Nat → Int32} {p g mp mg : Int32} {wv : Nat → Int32}
variable {ln : Nat → Nat} {mm : Nat → Nat → Nat} {spelled alike near asks : Nat → Int32} {rows : Nat → Int64} {letters words askCount : Int32} {mletters wMany wLetters aWords : Nat → Int32} {mwords masks : Int32}
theorem X_heardBy (hn : 1000 ≤ n) (hL : Rld P G X Y Z RX RH xs ys hs rx rh p g) (hw : okWs n sl ss sc ml ms mc wv) (hX : okX W Q nl ln (mLf ln mm) am spelled rows alike near asks letters words askCount) (hB : RB C P Q W am tm fr ak wd ff lf bt bf ba bw bff bl bs mcs cd ch cf ca cw co cl) {a c : Nat} (ha : a < P) (hc : c < C) :
    fX0_heardBy n sl ss sc xs ys hs rx rh g bt bf ba bw alike asks (nI a) (nI c) = some (if hdc X Y Z RX RH G wv tm fr a c = true then nI (hmc am (mLf ln mm) W X Y Z RX RH G wv tm fr ak wd a c) else -1) := by
  have hC := hB.1
  have hP := hL.1
  obtain ⟨a1, a2, a3, a4, -⟩ := hB.2.2.2.1 c hc
  obtain ⟨b1, b2, b3, b4, -⟩ := hB.2.2.2.2.1 c hc
  obtain ⟨w1, w2, w3⟩ := hw (tm c % 24) (by omega)
  have h5 := hL.2.2.2.2.1
  have lt := blS_lt X Y Z RX RH hL.2.1 w3 (a := fr c) (b := a) ⟨(h5 _ a2).1, (h5 _ a2).2.1⟩ ⟨(h5 a ha).1, (h5 a ha).2.1⟩
  unfold fX0_heardBy hdc hrB hmc
  rw [ar_nI (by omega) (by decide), b2]
  by_cases e : fr c = a
  · rw [if_pos (by rw [e]), if_neg (by simp [e])]
  · have e2 : ¬ a = fr c := fun z => e z.symm
    rw [if_neg (by rw [nI_eq (by omega) (by omega)]; exact e), ar_nI (by omega) (by decide), ar_nI (by omega) (by decide), b1, b2, mod24 (by omega), X_blur hn w3 w1 hL a2 ha, bd1_some]
    by_cases z : blS X Y Z RX RH G (wv (tm c % 24)) (fr c) a ≤ 5
    · rw [show (5 : Int32) = nI 5 from rfl, if_pos (nI_le z (by omega)), ar_nI (by omega) (by decide), ar_nI (by omega) (by decide), b3, b4, X_heardAs hX a3 a4 (by omega), bd1_some, if_pos (by simp [e2, z])]
    · rw [show (5 : Int32) = nI 5 from rfl, if_neg (nI_ge (by omega) (by omega)), if_neg (by simp [z])]
theorem M_hasOne (hn : 1000 ≤ n) (hL : Rld P G X Y Z RX RH mxs mys mhs mrx mrh mp mg) (hw : okWs n sl ss sc ml ms mc wv) (hM : okMT W Q nl ln mm am mletters mwords wMany wLetters masks aWords) (hB : RB C P Q W am tm fr ak wd ff lf bt bf ba bw bff bl bs mcs cd ch cf ca cw co cl) {a c : Nat} (ha : a < P) (hc : c < C) (s t : Int32) (rs rt : Nat → Int32) :
    ∃ s' f t' h, fX9_hasOne n mletters mwords wMany wLetters aWords s rs t rt mxs mys mhs mg mrx mrh ml ms mc ch cf ca cw (nI a) (nI c) = some (if hdc X Y Z RX RH G wv tm fr a c = true then nI (hmc am (mLf ln mm) W X Y Z RX RH G wv tm fr ak wd a c) else -4, s', f, t', h) := by
  have hC := hB.1
  have hP := hL.1
  obtain ⟨a1, a2, a3, a4, -⟩ := hB.2.2.2.1 c hc
  obtain ⟨-, c2, c3, c4, c5, -⟩ := hB.2.2.2.2.2.1 c hc
  obtain ⟨w1, w2, w3⟩ := hw (tm c % 24) (by omega)
  unfold fX9_hasOne hdc hmc
  rw [ar_nI (by omega) (by decide), ar_nI (by omega) (by decide), c3, c2, M_doesHear hn hL w3 w2 a2 ha, bd1_some]
  by_cases z : hrB X Y Z RX RH G (wv (tm c % 24)) (fr c) a = true
  · have lt5 : blS X Y Z RX RH G (wv (tm c % 24)) (fr c) a ≤ 5 := by
      unfold hrB at z
      simp only [Bool.and_eq_true, decide_eq_true_eq] at z
      exact z.2
    rw [if_pos z, if_neg i10, ar_nI (by omega) (by decide), ar_nI (by omega) (by decide), ar_nI (by omega) (by decide), ar_nI (by omega) (by decide), c4, c5, c3, c2, M_blur hn w3 w2 hL a2 ha, bd1_some]
    obtain ⟨s', f, t', h, e⟩ := M_meaning hn hM a3 a4 (show blS X Y Z RX RH G (wv (tm c % 24)) (fr c) a < 6 by omega) s t rs rt
    rw [e, bd5_some, if_pos z]
    exact ⟨_, _, _, _, rfl⟩
  · rw [if_neg z, if_pos rfl, if_neg z]
    exact ⟨_, _, _, _, rfl⟩
theorem hm_own (hB : RB C P Q W am tm fr ak wd ff lf bt bf ba bw bff bl bs mcs cd ch cf ca cw co cl) {mL : Nat → List Nat} {a c : Nat} (hc : c < C) : hmc am mL W X Y Z RX RH G wv tm fr ak wd a c < 2 ^ W ∧ (hmc am mL W X Y Z RX RH G wv tm fr ak wd a c).testBit (wd c) = true ∧ (hdc X Y Z RX RH G wv tm fr a c = true → fr c ≠ a) := by
  obtain ⟨a1, a2, a3, a4, a5, -⟩ := hB.2.2.2.1 c hc
  refine ⟨mk_lt _ _, ?_, ?_⟩
  · unfold hmc
    rw [mk_bit]
    unfold hdP
    simp [a4, a5]
  · intro z e
    unfold hdc hrB at z
    simp [e] at z
/-! what stands of a call, as it is gathered -/
def ac (ff : Nat → Nat) (hd : Nat → Nat → Bool) (hm : Nat → Nat → Nat) (a f : Nat) : Nat → Option Nat
  | 0 => none
  | c + 1 => if ff c = f ∧ hd a c = true then some ((ac ff hd hm a f c).elim (hm a c) (fun m => m &&& hm a c)) else ac ff hd hm a f c
def oX (o : Option Nat) : Int32 := o.elim (-1) nI
def oM (o : Option Nat) : Int32 := o.elim (-4) nI
def sg (o : Option Nat) : Bool := o.elim false (fun m => decide (ct m = 1))
/-- the calls as both sides hear them -/
def HH (_n C P W : Nat) (fr ak wd ff lf : Nat → Nat) (hd : Nat → Nat → Bool) (hm : Nat → Nat → Nat) : Prop :=
  W ≤ 16 ∧ C ≤ 30 ∧ P ≤ 10 ∧ (∀ c, c < C → wd c < W ∧ ff c ≤ c ∧ ff (ff c) = ff c ∧ fr (ff c) = fr c ∧ ak (ff c) = ak c ∧ wd (ff c) = wd c ∧ lf c ≤ 1) ∧ ∀ a c, c < C → hm a c < 2 ^ W ∧ (hm a c).testBit (wd c) = true ∧ (hd a c = true → fr c ≠ a)
theorem HH.W16 {n C P W : Nat} {fr ak wd ff lf : Nat → Nat} {hd : Nat → Nat → Bool} {hm : Nat → Nat → Nat} (H : HH n C P W fr ak wd ff lf hd hm) : W ≤ 16 := H.1
theorem HH.C30 {n C P W : Nat} {fr ak wd ff lf : Nat → Nat} {hd : Nat → Nat → Bool} {hm : Nat → Nat → Nat} (H : HH n C P W fr ak wd ff lf hd hm) : C ≤ 30 := H.2.1
theorem HH.P10 {n C P W : Nat} {fr ak wd ff lf : Nat → Nat} {hd : Nat → Nat → Bool} {hm : Nat → Nat → Nat} (H : HH n C P W fr ak wd ff lf hd hm) : P ≤ 10 := H.2.2.1
theorem HH.bnd {n C P W : Nat} {fr ak wd ff lf : Nat → Nat} {hd : Nat → Nat → Bool} {hm : Nat → Nat → Nat} (H : HH n C P W fr ak wd ff lf hd hm) : ∀ c, c < C → wd c < W ∧ ff c ≤ c ∧ ff (ff c) = ff c ∧ fr (ff c) = fr c ∧ ak (ff c) = ak c ∧ wd (ff c) = wd c ∧ lf c ≤ 1 := H.2.2.2.1
theorem HH.hml {n C P W : Nat} {fr ak wd ff lf : Nat → Nat} {hd : Nat → Nat → Bool} {hm : Nat → Nat → Nat} (H : HH n C P W fr ak wd ff lf hd hm) : ∀ a c, c < C → hm a c < 2 ^ W ∧ (hm a c).testBit (wd c) = true ∧ (hd a c = true → fr c ≠ a) := H.2.2.2.2
variable {hd : Nat → Nat → Bool} {hm : Nat → Nat → Nat}
theorem ac_none (H : HH n C P W fr ak wd ff lf hd hm) {a f : Nat} : ∀ {c : Nat}, c ≤ f → c ≤ C → ac ff hd hm a f c = none
  | 0, _, _ => rfl
  | c + 1, h1, h2 => by
    have := (H.bnd c (by omega)).2.1
    rw [ac, if_neg (fun z => by omega)]
    exact ac_none H (by omega) (by omega)
theorem ac_ok (H : HH n C P W fr ak wd ff lf hd hm) {a f : Nat} : ∀ {c m : Nat}, c ≤ C → ac ff hd hm a f c = some m → m < 2 ^ W ∧ m.testBit (wd f) = true
  | 0, _, _, h => by rw [ac] at h; cases h
  | c + 1, m, hc, h => by
    have b := H.bnd c (by omega)
    have l := H.hml a c (by omega)
    rw [ac] at h
    by_cases z : ff c = f ∧ hd a c = true
    · rw [if_pos z] at h
      have wf : wd f = wd c := by rw [← z.1]; exact b.2.2.2.2.2.1
      cases e : ac ff hd hm a f c with
      | none =>
        rw [e] at h
        have h := Option.some.inj h
        rw [← h, wf]
        exact ⟨l.1, l.2.1⟩
      | some m' =>
        rw [e] at h
        have h := Option.some.inj h
        have i := ac_ok H (by omega) e
        rw [← h]
        refine ⟨Nat.lt_of_le_of_lt Nat.and_le_left i.1, ?_⟩
        show (m' &&& hm a c).testBit (wd f) = true
        rw [Nat.testBit_and, i.2, wf, l.2.1]
        rfl
    · rw [if_neg z] at h
      exact ac_ok H (by omega) h
theorem oX_m1 (H : HH n C P W fr ak wd ff lf hd hm) {a f c : Nat} (hc : c ≤ C) : oX (ac ff hd hm a f c) = -1 ↔ ac ff hd hm a f c = none := by
  cases e : ac ff hd hm a f c with
  | none => simp [oX]
  | some m =>
    have := pow16 H.W16 (ac_ok H hc e).1
    simp only [oX, Option.elim]
    exact ⟨fun z => absurd z (m1_nI (by omega)), fun z => by cases z⟩
theorem oM_m4 (H : HH n C P W fr ak wd ff lf hd hm) {a f c : Nat} (hc : c ≤ C) : oM (ac ff hd hm a f c) = -4 ↔ ac ff hd hm a f c = none := by
  cases e : ac ff hd hm a f c with
  | none => simp [oM]
  | some m =>
    have := pow16 H.W16 (ac_ok H hc e).1
    simp only [oM, Option.elim]
    exact ⟨fun z => absurd z (m4_nI (by omega)), fun z => by cases z⟩
theorem oX_step {a f c : Nat} (z : ff c = f) : oX (ac ff hd hm a f c) &&& (if hd a c = true then nI (hm a c) else -1) = oX (ac ff hd hm a f (c + 1)) := by
  rw [ac]
  by_cases y : hd a c = true
  · rw [if_pos y, if_pos ⟨z, y⟩]
    cases e : ac ff hd hm a f c with
    | none => simp only [oX, Option.elim]; exact Int32.neg_one_and
    | some m => simp only [oX, Option.elim]; rw [fa_and]
  · rw [if_neg y, if_neg (fun q => y q.2)]
    exact Int32.and_neg_one
theorem ac_else {a f c : Nat} (z : ¬ ff c = f) : ac ff hd hm a f (c + 1) = ac ff hd hm a f c := by
  rw [ac, if_neg (fun q => z q.1)]
theorem sg_one (H : HH n C P W fr ak wd ff lf hd hm) {a f c : Nat} (hc : c ≤ C) (hf : f < C) : sg (ac ff hd hm a f c) = true ↔ ac ff hd hm a f c = some (2 ^ wd f) := by
  have wf := (H.bnd f hf).1
  have hW := H.W16
  cases e : ac ff hd hm a f c with
  | none => simp [sg]
  | some m =>
    have i := ac_ok H hc e
    have o := ct_one (pow16 H.W16 i.1) (show wd f < 16 by omega) i.2
    simp only [sg, Option.elim, decide_eq_true_eq, o, Option.some.injEq]
theorem sg_mono (H : HH n C P W fr ak wd ff lf hd hm) {a f c : Nat} (hf : f < C) : ∀ d, c + d ≤ C → sg (ac ff hd hm a f c) = true → sg (ac ff hd hm a f (c + d)) = true
  | 0, _, h => h
  | d + 1, hc, h => by
    have i := sg_mono H hf d (by omega) h
    rw [sg_one H (by omega) hf] at i
    rw [← Nat.add_assoc, sg_one H (by omega) hf, ac]
    by_cases z : ff (c + d) = f ∧ hd a (c + d) = true
    · rw [if_pos z, i]
      have l := (H.hml a (c + d) (by omega)).2.1
      have wf : wd f = wd (c + d) := by rw [← z.1]; exact (H.bnd (c + d) (by omega)).2.2.2.2.2.1
      rw [← wf] at l
      simp only [Option.elim]
      congr 1
      apply Nat.eq_of_testBit_eq
      intro j
      rw [Nat.testBit_and, Nat.testBit_two_pow]
      by_cases y : wd f = j
      · rw [← y, l]; simp
      · simp [y]
    · rw [if_neg z, i]
theorem sg_at (H : HH n C P W fr ak wd ff lf hd hm) {a f : Nat} : ∀ {u : Nat}, u ≤ C → sg (ac ff hd hm a f u) = true → ∃ c, c < u ∧ ff c = f ∧ sg (ac ff hd hm a f (c + 1)) = true
  | 0, _, h => by rw [ac] at h; cases h
  | u + 1, hu, h => by
    by_cases z : ff u = f ∧ hd a u = true
    · exact ⟨u, by omega, z.1, h⟩
    · rw [ac, if_neg z] at h
      obtain ⟨c, c1, c2, c3⟩ := sg_at H (by omega) h
      exact ⟨c, by omega, c2, c3⟩
/-- a call settles its WORD for a PLACE -/
def stl (fr ff lf : Nat → Nat) (hd : Nat → Nat → Bool) (hm : Nat → Nat → Nat) (a c : Nat) : Bool := decide (lf (ff c) = 0) && (decide (fr c = a) || sg (ac ff hd hm a (ff c) (c + 1)))
def SX (fr ak wd ff lf : Nat → Nat) (hd : Nat → Nat → Bool) (hm : Nat → Nat → Nat) (a q u w : Nat) : Prop := ∃ c, c < u ∧ ak c = q ∧ wd c = w ∧ stl fr ff lf hd hm a c = true
def SM (fr ak wd ff lf : Nat → Nat) (hd : Nat → Nat → Bool) (hm : Nat → Nat → Nat) (a q u v w : Nat) : Prop := ∃ c, c < v ∧ ak c = q ∧ wd c = w ∧ lf (ff c) = 0 ∧ (fr c = a ∨ (ff c = c ∧ sg (ac ff hd hm a c u) = true))
theorem SX_SM (H : HH n C P W fr ak wd ff lf hd hm) {a q u w : Nat} (hu : u ≤ C) : SX fr ak wd ff lf hd hm a q u w ↔ SM fr ak wd ff lf hd hm a q u u w := by
  constructor
  · rintro ⟨c, c1, c2, c3, c4⟩
    unfold stl at c4
    simp only [Bool.and_eq_true, Bool.or_eq_true, decide_eq_true_eq] at c4
    obtain ⟨b1, b2, b3, b4, b5, b6, b7⟩ := H.bnd c (by omega)
    rcases c4.2 with z | z
    · exact ⟨c, c1, c2, c3, c4.1, Or.inl z⟩
    · have m := sg_mono H (show ff c < C by omega) (u - (c + 1)) (by omega) z
      rw [show c + 1 + (u - (c + 1)) = u from by omega] at m
      exact ⟨ff c, by omega, by rw [b5]; exact c2, by rw [b6]; exact c3, by rw [b3]; exact c4.1, Or.inr ⟨b3, m⟩⟩
  · rintro ⟨c, c1, c2, c3, c4, z | ⟨z1, z2⟩⟩
    · refine ⟨c, c1, c2, c3, ?_⟩
      unfold stl
      simp [c4, z]
    · obtain ⟨d, d1, d2, d3⟩ := sg_at H hu z2
      obtain ⟨b1, b2, b3, b4, b5, b6, b7⟩ := H.bnd d (by omega)
      rw [d2] at b5 b6
      refine ⟨d, d1, by rw [← b5]; exact c2, by rw [← b6]; exact c3, ?_⟩
      unfold stl
      rw [z1] at c4
      rw [d2, d3]
      simp [c4]
end HL
