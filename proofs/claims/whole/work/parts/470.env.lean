/-! what stands beside the cells at the law's entry: texts, statics, nest mates -/
set_option maxHeartbeats 4000000 in
set_option maxRecDepth 100000 in
theorem env_X {s : State} {b : Nat} (hts : ∀ w ∈ lw_tbl, w.before #[Value.ref b] s = true) (hgv : (Jvm.Cond.and given_1 narrow_1).before #[Value.ref b] s = true) : ∃ adK adV : Nat → Nat, E_X adK adV (fun q => s.heap.size ≤ q) s := by
  have hs := flat_of_before _ hgv
  have hA : ∀ a : Nat, a < s.heap.size → ¬ (fun q : Nat => s.heap.size ≤ q) a := fun a h => Nat.not_le.mpr h
  have m1 : ∀ i, i < 6 → Cond.exactly (Term.string "WhistledWords$TextReader" (([54, 64, 68, 73, 75, 80] : List Nat).getD i 0)) "java/lang/String" ∈ flatC (Jvm.Cond.and given_1 narrow_1) := by decide +kernel
  have m2 : ∀ i, i < 6 → Cond.eq (.field (Term.string "WhistledWords$TextReader" (([54, 64, 68, 73, 75, 80] : List Nat).getD i 0)) "java/lang/String" "coder" "B") (.int 0) ∈ flatC (Jvm.Cond.and given_1 narrow_1) := by decide +kernel
  have m3 : ∀ i, i < 6 → Cond.arrayOf (.field (Term.string "WhistledWords$TextReader" (([54, 64, 68, 73, 75, 80] : List Nat).getD i 0)) "java/lang/String" "value" "[B") .byte ∈ flatC (Jvm.Cond.and given_1 narrow_1) := by decide +kernel
  have m4 : ∀ i, i < 6 → Cond.eq (.length (.field (Term.string "WhistledWords$TextReader" (([54, 64, 68, 73, 75, 80] : List Nat).getD i 0)) "java/lang/String" "value" "[B")) (.int (Int32.ofNat (lenL.getD i 0))) ∈ flatC (Jvm.Cond.and given_1 narrow_1) := by decide +kernel
  have m5 : ∀ i, i < 6 → ∀ j, j < lenL.getD i 0 → Cond.eq (.elem (.field (Term.string "WhistledWords$TextReader" (([54, 64, 68, 73, 75, 80] : List Nat).getD i 0)) "java/lang/String" "value" "[B") (.int (Int32.ofNat j))) (.int ((bytL.getD i []).getD j 0)) ∈ flatC (Jvm.Cond.and given_1 narrow_1) := by decide +kernel
  have m6 : ∀ i, i < 6 → ∀ j, j < 6 → i ≠ j → (Cond.not (Cond.eq (Term.string "WhistledWords$TextReader" (([54, 64, 68, 73, 75, 80] : List Nat).getD i 0)) (Term.string "WhistledWords$TextReader" (([54, 64, 68, 73, 75, 80] : List Nat).getD j 0))) ∈ flatC (Jvm.Cond.and given_1 narrow_1) ∨ Cond.not (Cond.eq (Term.string "WhistledWords$TextReader" (([54, 64, 68, 73, 75, 80] : List Nat).getD j 0)) (Term.string "WhistledWords$TextReader" (([54, 64, 68, 73, 75, 80] : List Nat).getD i 0))) ∈ flatC (Jvm.Cond.and given_1 narrow_1)) := by decide +kernel
  obtain ⟨adK, adV, hS, hT⟩ := vk_Sof (args := #[Value.ref b]) (s := s) (N := 6) (tm := (fun i => Term.string "WhistledWords$TextReader" (([54, 64, 68, 73, 75, 80] : List Nat).getD i 0))) (len := lenL) (byt := bytL) (A := (fun q : Nat => s.heap.size ≤ q)) (by decide) (fun i hi => hs _ (m1 i hi)) (fun i hi => hs _ (m2 i hi)) (fun i hi => hs _ (m3 i hi)) (fun i hi => hs _ (m4 i hi)) (fun i hi j hj => hs _ (m5 i hi j hj)) (fun i j hi hj hij => (m6 i hi j hj hij).elim (fun h => Or.inl (hs _ h)) (fun h => Or.inr (hs _ h))) hA
  have z1 := va_Zof (A := (fun q : Nat => s.heap.size ≤ q)) (hts (.laysStatic "java/lang/String" "COMPACT_STRINGS" "Z") (List.mem_of_getElem? (i := 381) (by decide +kernel))) (hts (.initialized "java/lang/String") (List.mem_of_getElem? (i := 58) (by decide +kernel))) (va_eqt (hs (.eq (.static "java/lang/String" "COMPACT_STRINGS" "Z") (.int 1)) (by decide +kernel))) hA
  have z2 := va_Zqof (A := (fun q : Nat => s.heap.size ≤ q)) (hts (.laysStatic "jdk/internal/util/Preconditions" "SIOOBE_FORMATTER" "Ljava/util/function/BiFunction;") (List.mem_of_getElem? (i := 397) (by decide +kernel))) (hts (.initialized "jdk/internal/util/Preconditions") (List.mem_of_getElem? (i := 60) (by decide +kernel))) (hs (.isRef (.static "jdk/internal/util/Preconditions" "SIOOBE_FORMATTER" "Ljava/util/function/BiFunction;")) (by decide +kernel)) hA
  exact ⟨adK, adV, ⟨va_Nw.of rfl (hts (.methodLinkNest RX2 19 yX8_isIn "WhistledWords") (List.mem_of_getElem? (i := 880) (by decide +kernel))), va_Nw.of rfl (hts (.methodLinkNest RX6 133 yX8_isIn "WhistledWords") (List.mem_of_getElem? (i := 485) (by decide +kernel))), va_Nw.of rfl (hts (.methodLinkNest RX7 79 yX8_isIn "WhistledWords") (List.mem_of_getElem? (i := 541) (by decide +kernel)))⟩, ⟨hS, z1, z2⟩, vk_R.of (hts (.stringRef "WhistledWords$TextReader" 54 "high") (List.mem_of_getElem? (i := 367) (by decide +kernel))) (hT 0 (by decide)), vk_R.of (hts (.stringRef "WhistledWords$TextReader" 64 "stop") (List.mem_of_getElem? (i := 440) (by decide +kernel))) (hT 1 (by decide)), vk_R.of (hts (.stringRef "WhistledWords$TextReader" 68 "glide") (List.mem_of_getElem? (i := 441) (by decide +kernel))) (hT 2 (by decide)), vk_R.of (hts (.stringRef "WhistledWords$TextReader" 73 "mute") (List.mem_of_getElem? (i := 446) (by decide +kernel))) (hT 3 (by decide)), vk_R.of (hts (.stringRef "WhistledWords$TextReader" 75 "word") (List.mem_of_getElem? (i := 447) (by decide +kernel))) (hT 4 (by decide)), vk_R.of (hts (.stringRef "WhistledWords$TextReader" 80 "ask") (List.mem_of_getElem? (i := 476) (by decide +kernel))) (hT 5 (by decide))⟩
set_option maxHeartbeats 4000000 in
set_option maxRecDepth 100000 in
theorem known_K {s : State} {b : Nat} (hts : ∀ w ∈ lw_tbl, w.before #[Value.ref b] s = true) : ∃ (dC : Nat → ClassId) (dI : Nat → Nat → Nat) (cB cI cJ cZ : ClassId), va_K (dC, dI) vwCl (tyz cB cI cJ cZ) s := by
  obtain ⟨c0, i0, k0⟩ := u_known (C := RX0) (T := TX0) (N := 9) (n := 9) hts inX0 (hts (.instantiable RX0 9) (List.mem_of_getElem? (i := 249) (by decide +kernel)))
  obtain ⟨c1, i1, k1⟩ := u_known (C := RX1) (T := TX1) (N := 13) (n := 13) hts inX1 (hts (.instantiable RX1 13) (List.mem_of_getElem? (i := 197) (by decide +kernel)))
  obtain ⟨c2, i2, k2⟩ := u_known (C := RX2) (T := TX2) (N := 2) (n := 2) hts inX2 (hts (.instantiable RX2 2) (List.mem_of_getElem? (i := 291) (by decide +kernel)))
  obtain ⟨c3, i3, k3⟩ := u_known (C := RX4) (T := TX4) (N := 3) (n := 3) hts inX4 (hts (.instantiable RX4 3) (List.mem_of_getElem? (i := 178) (by decide +kernel)))
  obtain ⟨c4, i4, k4⟩ := u_known (C := RX5) (T := TX5) (N := 2) (n := 2) hts inX5 (hts (.instantiable RX5 2) (List.mem_of_getElem? (i := 74) (by decide +kernel)))
  obtain ⟨c5, i5, k5⟩ := u_known (C := RX6) (T := TX6) (N := 8) (n := 8) hts inX6 (hts (.instantiable RX6 8) (List.mem_of_getElem? (i := 91) (by decide +kernel)))
  obtain ⟨c6, i6, k6⟩ := u_known (C := RX7) (T := TX7) (N := 10) (n := 10) hts inX7 (hts (.instantiable RX7 10) (List.mem_of_getElem? (i := 97) (by decide +kernel)))
  obtain ⟨c7, i7, k7⟩ := u_known (C := RX8) (T := TX8) (N := 8) (n := 8) hts inX8 (hts (.instantiable RX8 8) (List.mem_of_getElem? (i := 66) (by decide +kernel)))
  obtain ⟨c8, i8, k8⟩ := u_known (C := RX9) (T := TX9) (N := 46) (n := 46) hts inX9 (hts (.instantiable RX9 46) (List.mem_of_getElem? (i := 930) (by decide +kernel)))
  obtain ⟨cB, kB, pB, fB, gB, dB⟩ := Cond.arrayClass_spec (type := .byte) (show (Cond.arrayClass .byte).holds #[Value.ref b] s none s [] = true from (hts (.arrayClass .byte) (List.mem_of_getElem? (i := 89) (by decide +kernel))))
  obtain ⟨cI, kI, pI, fI, gI, dI⟩ := Cond.arrayClass_spec (type := .int) (show (Cond.arrayClass .int).holds #[Value.ref b] s none s [] = true from (hts (.arrayClass .int) (List.mem_of_getElem? (i := 147) (by decide +kernel))))
  obtain ⟨cJ, kJ, pJ, fJ, gJ, dJ⟩ := Cond.arrayClass_spec (type := .long) (show (Cond.arrayClass .long).holds #[Value.ref b] s none s [] = true from (hts (.arrayClass .long) (List.mem_of_getElem? (i := 148) (by decide +kernel))))
  obtain ⟨cZ, kZ, pZ, fZ, gZ, dZ⟩ := Cond.arrayClass_spec (type := .boolean) (show (Cond.arrayClass .boolean).holds #[Value.ref b] s none s [] = true from (hts (.arrayClass .boolean) (List.mem_of_getElem? (i := 289) (by decide +kernel))))
  refine ⟨fun k => (c0 :: c1 :: c2 :: c3 :: c4 :: c5 :: c6 :: c7 :: c8 :: []).getD k c0, fun k => (i0 :: i1 :: i2 :: i3 :: i4 :: i5 :: i6 :: i7 :: i8 :: []).getD k i0, cB, cI, cJ, cZ, fun k q hq => ?_, fun k q hq => ?_⟩
  · match k, hq with
    | 0, hq => cases hq; exact k0
    | 1, hq => cases hq; exact k1
    | 2, hq => cases hq; exact k2
    | 3, hq => cases hq; exact k3
    | 4, hq => cases hq; exact k4
    | 5, hq => cases hq; exact k5
    | 6, hq => cases hq; exact k6
    | 7, hq => cases hq; exact k7
    | 8, hq => cases hq; exact k8
    | k + 9, hq => simp [vwCl] at hq
  · match k, hq with
    | 0, hq => cases hq; exact ⟨fun n z => ⟨fun k h => (by cases h), kB, gB, pB, dB⟩, fB⟩
    | 1, hq => cases hq; exact ⟨fun n z => ⟨fun k h => (by cases h), kI, gI, pI, dI⟩, fI⟩
    | 2, hq => cases hq; exact ⟨fun n z => ⟨fun k h => (by cases h), kJ, gJ, pJ, dJ⟩, fJ⟩
    | 3, hq => cases hq; exact ⟨fun n z => ⟨fun k h => (by cases h), kZ, gZ, pZ, dZ⟩, fZ⟩
    | k + 4, hq => simp at hq
