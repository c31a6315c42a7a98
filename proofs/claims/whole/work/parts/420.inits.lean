/-! CONSTRUCTORS: the cells that they make -/
def fl (N : Nat) (x : Int32) : Nat → Int32 := fun j => if j < N then x else 0
theorem cell_i {N : Nat} {ty : FieldType} (h : defaultValue ty = .int 0) (cA : ClassId) : vp_cell cA (N, .inl (fun _ => 0)) = arrV cA N (fun _ => defaultValue ty) := by
  rw [h]
  rfl
theorem cell_l {N : Nat} (cA : ClassId) : vp_cell cA (N, .inr (.inl (fun _ => 0))) = arrV cA N (fun _ => defaultValue .long) := rfl
theorem cb_int {N : Nat} (h : N < 1000) : N * componentBytes .int ≤ 536870912 := by
  have : componentBytes .int = 4 := rfl
  rw [this]
  omega
theorem cb_byte {N : Nat} (h : N < 1000) : N * componentBytes .byte ≤ 536870912 := by
  have : componentBytes .byte = 1 := rfl
  rw [this]
  omega
theorem cb_long {N : Nat} (h : N < 1000) : N * componentBytes .long ≤ 536870912 := by
  have : componentBytes .long = 8 := rfl
  rw [this]
  omega
theorem cb_boolean {N : Nat} (h : N < 1000) : N * componentBytes .boolean ≤ 536870912 := by
  have : componentBytes .boolean = 1 := rfl
  rw [this]
  omega
theorem fill_fl {n : Nat} (N : Nat) (x : Int32) (hN : N < 2147483648) (hn : N < n) : fJ7_fill_53178 n N (fun _ => 0) x = some (fl N x) := by
  obtain ⟨g, h1, h2, h3⟩ := J_fill_all (n := n) (N := N) x hN hn (fun _ => 0)
  rw [h1]
  congr 1
  funext j
  unfold fl
  by_cases z : j < N
  · rw [if_pos z, h2 j z]
  · rw [if_neg z, h3 j (by omega)]
def wfX5 (cB cI cJ cZ : ClassId) (b : Nat → Nat) : va_W := ((b 0, .inr (4, [.ref (b 1), .int 0])) :: (b 1, .inl (cB, 400, .inl (fun _ => 0))) :: [])
set_option maxHeartbeats 4000000 in
set_option maxRecDepth 100000 in
theorem kX5_init (l : Launch) (n : Nat) (hn : 1000 ≤ n) (dC : Nat → ClassId) (dI : Nat → Nat → Nat) (cB cI cJ cZ : ClassId) (h0 sz : Nat) : Met l yX5_init wsX5_init ({ frames := 1, cells := 1, slots := 400, locals := 12 }) (gP (dC, dI) (tyz cB cI cJ cZ) E_0 [(h0, .inr (4, [.null, .int 0]))] sz [.ref h0]) (gN (dC, dI) (tyz cB cI cJ cZ) (wfX5 cB cI cJ cZ) h0 (va_A [(h0, .inr (4, [.null, .int 0]))] sz)) 1 400 (va_A [(h0, .inr (4, [.null, .int 0]))] sz) := by
  refine Met.ofW (cc := cX5_init) (maxL := 1) (ret := none) (by decide) rfl ?_
  intro p e s m args below meth c s₁ B hml hv
  obtain ⟨rfl, hsz, hP, hK, hD0, hE⟩ := hv
  have hx := B.exec
  have hb := B.bytes
  have hr := B.returns
  have hts := atoms_spec (ws := wsX5_init) B.pre
  have hown : s.vm.findClass RX5 = some m.cls := findClass_of_methodNamed B.named
  have hlocks := B.notSynchronized
  have hin : meth.name = "<init>" := (name_of_methodNamed B.named B.method).1
  subst hsz
  have hD := hD0.self (sz := s.heap.size)
  have hA : ∀ q : Nat, s.heap.size ≤ q → va_A [(h0, .inr (4, [.null, .int 0]))] s.heap.size q := fun q h => Or.inr h
  generalize va_A [(h0, .inr (4, [.null, .int 0]))] s.heap.size = A at hD hA hE ⊢
  have hS : va_S A s.heap s.heap [] := va_S.rf
  have hl := lv_entry ([.ref h0]) (n := 1) (Nat.le_of_ble_eq_true rfl)
  rw [lg_entry_eq]
  generalize (lg_sl ([.ref h0]) ++ List.replicate (1 - (lg_sl ([.ref h0])).length) Slot.unset).toArray = ls at hl ⊢
  have hl : lv_has ls 1 [(0, .ref h0)] := hl
  refine lv_aload_n hx hb dX5_init_0 rfl (lv_at hl 0 rfl) ?_
  refine W.objInit hx hb hown (hts (.methodLink RX5 1 objectInit) (by decide +kernel)) (hts (.instanceMethod objectInit) (by decide +kernel)) (hts (.code objectInit ⟨#[0xb1]⟩ 1 none) (List.mem_of_getElem? (i := 3) rfl)) rfl (by rw [hml]; exact hl.1) rfl dX5_init_1 (Nat.le_of_ble_eq_true rfl) (Nat.le_of_ble_eq_true rfl) ?_
  refine W.eq (g2 := F0 m 4 ls []) rfl ?_
  refine lv_aload_n hx hb dX5_init_4 rfl (lv_at hl 0 rfl) ?_
  refine lv_sipush (v := 400) hx hb dX5_init_5 (by decide) ?_
  refine na_k (atype := .byte) (a0 := (400, .inl (fun _ => 0))) hx hb (hts (.arrayClass .byte) (by decide +kernel)) rfl hK hP hD hS hA 0 rfl (cell_i rfl) (by decide) (nI_clamp (n := 400) (by decide)) (cb_byte (by decide)) (show 0 + 1 ≤ 1 from by decide) (show 0 + 400 ≤ 400 from by decide) dX5_init_8 (fun q1 H hP hD hS => ?_)
  have hP : va_P (dC, dI) vwCl ((h0, .inr (4, [.null, .int 0])) :: (q1, .inl (cB, 400, .inl (fun _ => 0))) :: []) H := hP
  have hD : va_D A ((h0, .inr (4, [.null, .int 0])) :: (q1, .inl (cB, 400, .inl (fun _ => 0))) :: []) := hD
  refine W.widen (k := 1) (n := 400) (Nat.le_refl _) (Nat.le_refl _) ?_
  refine va_putF (D := (dC, dI)) (ci := 4) (v := .ref q1) (ty := .array .byte) (C := RX5) (T := TX5) (N := 2) hx hb hts (fun _ h => List.mem_cons_of_mem _ (List.mem_append_right _ h)) tyX5 tyX5_ok nmX5 hown hK hP hD hS 0 rfl rfl 0 (by decide) (hts (.fieldLink RX5 9 "WhistledWords$Tape" "bytes" "[B") (by decide +kernel)) (fun _ h9 => h9) rfl hin rfl (by decide +kernel) rfl rfl (Nat.le_of_ble_eq_true rfl) dX5_init_10 (fun H locs hP hD hS => ?_)
  have hP : va_P (dC, dI) vwCl ((h0, .inr (4, [.ref q1, .int 0])) :: (q1, .inl (cB, 400, .inl (fun _ => 0))) :: []) H := hP
  have hD : va_D A ((h0, .inr (4, [.ref q1, .int 0])) :: (q1, .inl (cB, 400, .inl (fun _ => 0))) :: []) := hD
  refine lv_aload_n hx hb dX5_init_13 rfl (lv_at hl 0 rfl) ?_
  refine lv_iconst (v := 0) hx hb dX5_init_14 (by decide) ?_
  refine va_put (D := (dC, dI)) (ci := 4) (v := .int 0) (ty := .int) (C := RX5) (T := TX5) (N := 2) hx hb hts (fun _ h => List.mem_cons_of_mem _ (List.mem_append_right _ h)) tyX5 tyX5_ok nmX5 hown hK hP hD hS 0 rfl rfl 1 (by decide) (hts (.fieldLink RX5 13 "WhistledWords$Tape" "size" "I") (by decide +kernel)) (fun _ h9 => h9) rfl (by decide +kernel) rfl rfl (Nat.le_of_ble_eq_true rfl) dX5_init_15 (fun H locs hP hD hS => ?_)
  have hP : va_P (dC, dI) vwCl ((h0, .inr (4, [.ref q1, .int 0])) :: (q1, .inl (cB, 400, .inl (fun _ => 0))) :: []) H := hP
  have hD : va_D A ((h0, .inr (4, [.ref q1, .int 0])) :: (q1, .inl (cB, 400, .inl (fun _ => 0))) :: []) := hD
  exact W.vret hx hb hr (fun t ht hW => ⟨⟨(), rfl, trivial, (fun k => [h0, q1].getD k 0), rfl, by rw [ht]; exact hP, va_K.moved hW.alike hK, hD⟩, hS.F ht⟩) hS.2.2 dX5_init_18 hlocks
def wfX7 (cB cI cJ cZ : ClassId) (b : Nat → Nat) : va_W := ((b 0, .inr (6, [.ref (b 1), .ref (b 2), .ref (b 3), .ref (b 4), .ref (b 5), .ref (b 6), .ref (b 7), .int 0, .int 0, .int 0])) :: (b 1, .inl (cI, 26, .inl (fl 26 (-1)))) :: (b 2, .inl (cJ, 16, .inr (.inl (fun _ => 0)))) :: (b 3, .inl (cI, 16, .inl (fun _ => 0))) :: (b 4, .inl (cJ, 96, .inr (.inl (fun _ => 0)))) :: (b 5, .inl (cI, 96, .inl (fun _ => 0))) :: (b 6, .inl (cI, 16, .inl (fun _ => 0))) :: (b 7, .inl (cI, 6, .inl (fun _ => 0))) :: [])
set_option maxHeartbeats 4000000 in
set_option maxRecDepth 100000 in
theorem kX7_init (l : Launch) (n : Nat) (hn : 1000 ≤ n) (dC : Nat → ClassId) (dI : Nat → Nat → Nat) (cB cI cJ cZ : ClassId) (h0 sz : Nat) : Met l yX7_init wsX7_init ({ frames := 1, cells := 7, slots := 272, locals := 23 }) (gP (dC, dI) (tyz cB cI cJ cZ) E_0 [(h0, .inr (6, [.null, .null, .null, .null, .null, .null, .null, .int 0, .int 0, .int 0]))] sz [.ref h0]) (gN (dC, dI) (tyz cB cI cJ cZ) (wfX7 cB cI cJ cZ) h0 (va_A [(h0, .inr (6, [.null, .null, .null, .null, .null, .null, .null, .int 0, .int 0, .int 0]))] sz)) 7 272 (va_A [(h0, .inr (6, [.null, .null, .null, .null, .null, .null, .null, .int 0, .int 0, .int 0]))] sz) := by
  refine Met.ofW (cc := cX7_init) (maxL := 1) (ret := none) (by decide) rfl ?_
  intro p e s m args below meth c s₁ B hml hv
  obtain ⟨rfl, hsz, hP, hK, hD0, hE⟩ := hv
  have hx := B.exec
  have hb := B.bytes
  have hr := B.returns
  have hts := atoms_spec (ws := wsX7_init) B.pre
  have hown : s.vm.findClass RX7 = some m.cls := findClass_of_methodNamed B.named
  have hlocks := B.notSynchronized
  have hin : meth.name = "<init>" := (name_of_methodNamed B.named B.method).1
  subst hsz
  have hD := hD0.self (sz := s.heap.size)
  have hA : ∀ q : Nat, s.heap.size ≤ q → va_A [(h0, .inr (6, [.null, .null, .null, .null, .null, .null, .null, .int 0, .int 0, .int 0]))] s.heap.size q := fun q h => Or.inr h
  generalize va_A [(h0, .inr (6, [.null, .null, .null, .null, .null, .null, .null, .int 0, .int 0, .int 0]))] s.heap.size = A at hD hA hE ⊢
  have hS : va_S A s.heap s.heap [] := va_S.rf
  have hl := lv_entry ([.ref h0]) (n := 1) (Nat.le_of_ble_eq_true rfl)
  rw [lg_entry_eq]
  generalize (lg_sl ([.ref h0]) ++ List.replicate (1 - (lg_sl ([.ref h0])).length) Slot.unset).toArray = ls at hl ⊢
  have hl : lv_has ls 1 [(0, .ref h0)] := hl
  refine lv_aload_n hx hb dX7_init_0 rfl (lv_at hl 0 rfl) ?_
  refine W.objInit hx hb hown (hts (.methodLink RX7 3 objectInit) (by decide +kernel)) (hts (.instanceMethod objectInit) (by decide +kernel)) (hts (.code objectInit ⟨#[0xb1]⟩ 1 none) (List.mem_of_getElem? (i := 3) rfl)) rfl (by rw [hml]; exact hl.1) rfl dX7_init_1 (Nat.le_of_ble_eq_true rfl) (Nat.le_of_ble_eq_true rfl) ?_
  refine W.eq (g2 := F0 m 4 ls []) rfl ?_
  refine lv_aload_n hx hb dX7_init_4 rfl (lv_at hl 0 rfl) ?_
  refine lv_bipush (v := 26) hx hb dX7_init_5 (by decide) ?_
  refine na_k (atype := .int) (a0 := (26, .inl (fun _ => 0))) hx hb (hts (.arrayClass .int) (by decide +kernel)) rfl hK hP hD hS hA 1 rfl (cell_i rfl) (by decide) (nI_clamp (n := 26) (by decide)) (cb_int (by decide)) (show 0 + 1 ≤ 7 from by decide) (show 0 + 26 ≤ 272 from by decide) dX7_init_7 (fun q1 H hP hD hS => ?_)
  have hP : va_P (dC, dI) vwCl ((h0, .inr (6, [.null, .null, .null, .null, .null, .null, .null, .int 0, .int 0, .int 0])) :: (q1, .inl (cI, 26, .inl (fun _ => 0))) :: []) H := hP
  have hD : va_D A ((h0, .inr (6, [.null, .null, .null, .null, .null, .null, .null, .int 0, .int 0, .int 0])) :: (q1, .inl (cI, 26, .inl (fun _ => 0))) :: []) := hD
  refine W.widen (k := 1) (n := 26) (Nat.le_refl _) (Nat.le_refl _) ?_
  refine va_putF (D := (dC, dI)) (ci := 6) (v := .ref q1) (ty := .array .int) (C := RX7) (T := TX7) (N := 10) hx hb hts (fun _ h => List.mem_cons_of_mem _ (List.mem_append_right _ h)) tyX7 tyX7_ok nmX7 hown hK hP hD hS 0 rfl rfl 0 (by decide) (hts (.fieldLink RX7 11 "WhistledWords$Tongue" "letterMarks" "[I") (by decide +kernel)) (fun _ h9 => h9) rfl hin rfl (by decide +kernel) rfl rfl (Nat.le_of_ble_eq_true rfl) dX7_init_9 (fun H locs hP hD hS => ?_)
  have hP : va_P (dC, dI) vwCl ((h0, .inr (6, [.ref q1, .null, .null, .null, .null, .null, .null, .int 0, .int 0, .int 0])) :: (q1, .inl (cI, 26, .inl (fun _ => 0))) :: []) H := hP
  have hD : va_D A ((h0, .inr (6, [.ref q1, .null, .null, .null, .null, .null, .null, .int 0, .int 0, .int 0])) :: (q1, .inl (cI, 26, .inl (fun _ => 0))) :: []) := hD
  refine lv_aload_n hx hb dX7_init_12 rfl (lv_at hl 0 rfl) ?_
  refine va_get (D := (dC, dI)) (ci := 6) (v := .ref q1) (C := RX7) (T := TX7) (N := 10) hx hb hts (fun _ h => List.mem_cons_of_mem _ (List.mem_append_right _ h)) hown hK hP 0 rfl rfl 0 (by decide) (hts (.fieldLink RX7 11 "WhistledWords$Tongue" "letterMarks" "[I") (by decide +kernel)) (fun _ h => h) rfl dX7_init_13 ?_
  refine lv_iconst (v := -1) hx hb dX7_init_16 (by decide) ?_
  refine cf_v (w1 := ((h0, .inr (6, [.ref q1, .null, .null, .null, .null, .null, .null, .int 0, .int 0, .int 0])) :: (q1, .inl (cI, 26, .inl (fl 26 (-1)))) :: [])) (rest := []) ⟨hx, hb, hml, hown, hts⟩ (kJ7_fill_53178 l n dC dI cB cI cJ cZ q1 _ 26 (fun _ => 0) (-1) _ (fill_fl 26 (-1) (by decide) (by omega))) (va_cwS 2 hts gX7_init_J7_fill_53178 rfl rfl rfl (by decide +kernel) ⟨Nat.le_of_ble_eq_true rfl, Nat.le_of_ble_eq_true rfl⟩) hK hP hD hS hA 1 rfl rfl hl.1 rfl (Nat.le_of_ble_eq_true rfl) dX7_init_17 ⟨show 1 ≤ 7 from by decide, show 26 ≤ 272 from by decide⟩ (fun H locs hP hD hS => ?_)
  have hP : va_P (dC, dI) vwCl ((h0, .inr (6, [.ref q1, .null, .null, .null, .null, .null, .null, .int 0, .int 0, .int 0])) :: (q1, .inl (cI, 26, .inl (fl 26 (-1)))) :: []) H := hP
  have hD : va_D A ((h0, .inr (6, [.ref q1, .null, .null, .null, .null, .null, .null, .int 0, .int 0, .int 0])) :: (q1, .inl (cI, 26, .inl (fl 26 (-1)))) :: []) := hD
  refine lv_aload_n hx hb dX7_init_20 rfl (lv_at hl 0 rfl) ?_
  refine lv_bipush (v := 16) hx hb dX7_init_21 (by decide) ?_
  refine na_k (atype := .long) (a0 := (16, .inr (.inl (fun _ => 0)))) hx hb (hts (.arrayClass .long) (by decide +kernel)) rfl hK hP hD hS hA 2 rfl cell_l (by decide) (nI_clamp (n := 16) (by decide)) (cb_long (by decide)) (show 1 + 1 ≤ 7 from by decide) (show 26 + 16 ≤ 272 from by decide) dX7_init_23 (fun q2 H hP hD hS => ?_)
  have hP : va_P (dC, dI) vwCl ((h0, .inr (6, [.ref q1, .null, .null, .null, .null, .null, .null, .int 0, .int 0, .int 0])) :: (q1, .inl (cI, 26, .inl (fl 26 (-1)))) :: (q2, .inl (cJ, 16, .inr (.inl (fun _ => 0)))) :: []) H := hP
  have hD : va_D A ((h0, .inr (6, [.ref q1, .null, .null, .null, .null, .null, .null, .int 0, .int 0, .int 0])) :: (q1, .inl (cI, 26, .inl (fl 26 (-1)))) :: (q2, .inl (cJ, 16, .inr (.inl (fun _ => 0)))) :: []) := hD
  refine W.widen (k := 2) (n := 42) (Nat.le_refl _) (Nat.le_refl _) ?_
  refine va_putF (D := (dC, dI)) (ci := 6) (v := .ref q2) (ty := .array .long) (C := RX7) (T := TX7) (N := 10) hx hb hts (fun _ h => List.mem_cons_of_mem _ (List.mem_append_right _ h)) tyX7 tyX7_ok nmX7 hown hK hP hD hS 0 rfl rfl 1 (by decide) (hts (.fieldLink RX7 21 "WhistledWords$Tongue" "names" "[J") (by decide +kernel)) (fun _ h9 => h9) rfl hin rfl (by decide +kernel) rfl rfl (Nat.le_of_ble_eq_true rfl) dX7_init_25 (fun H locs hP hD hS => ?_)
  have hP : va_P (dC, dI) vwCl ((h0, .inr (6, [.ref q1, .ref q2, .null, .null, .null, .null, .null, .int 0, .int 0, .int 0])) :: (q1, .inl (cI, 26, .inl (fl 26 (-1)))) :: (q2, .inl (cJ, 16, .inr (.inl (fun _ => 0)))) :: []) H := hP
  have hD : va_D A ((h0, .inr (6, [.ref q1, .ref q2, .null, .null, .null, .null, .null, .int 0, .int 0, .int 0])) :: (q1, .inl (cI, 26, .inl (fl 26 (-1)))) :: (q2, .inl (cJ, 16, .inr (.inl (fun _ => 0)))) :: []) := hD
  refine lv_aload_n hx hb dX7_init_28 rfl (lv_at hl 0 rfl) ?_
  refine lv_bipush (v := 16) hx hb dX7_init_29 (by decide) ?_
  refine na_k (atype := .int) (a0 := (16, .inl (fun _ => 0))) hx hb (hts (.arrayClass .int) (by decide +kernel)) rfl hK hP hD hS hA 1 rfl (cell_i rfl) (by decide) (nI_clamp (n := 16) (by decide)) (cb_int (by decide)) (show 2 + 1 ≤ 7 from by decide) (show 42 + 16 ≤ 272 from by decide) dX7_init_31 (fun q3 H hP hD hS => ?_)
  have hP : va_P (dC, dI) vwCl ((h0, .inr (6, [.ref q1, .ref q2, .null, .null, .null, .null, .null, .int 0, .int 0, .int 0])) :: (q1, .inl (cI, 26, .inl (fl 26 (-1)))) :: (q2, .inl (cJ, 16, .inr (.inl (fun _ => 0)))) :: (q3, .inl (cI, 16, .inl (fun _ => 0))) :: []) H := hP
  have hD : va_D A ((h0, .inr (6, [.ref q1, .ref q2, .null, .null, .null, .null, .null, .int 0, .int 0, .int 0])) :: (q1, .inl (cI, 26, .inl (fl 26 (-1)))) :: (q2, .inl (cJ, 16, .inr (.inl (fun _ => 0)))) :: (q3, .inl (cI, 16, .inl (fun _ => 0))) :: []) := hD
  refine W.widen (k := 3) (n := 58) (Nat.le_refl _) (Nat.le_refl _) ?_
  refine va_putF (D := (dC, dI)) (ci := 6) (v := .ref q3) (ty := .array .int) (C := RX7) (T := TX7) (N := 10) hx hb hts (fun _ h => List.mem_cons_of_mem _ (List.mem_append_right _ h)) tyX7 tyX7_ok nmX7 hown hK hP hD hS 0 rfl rfl 2 (by decide) (hts (.fieldLink RX7 25 "WhistledWords$Tongue" "spelled" "[I") (by decide +kernel)) (fun _ h9 => h9) rfl hin rfl (by decide +kernel) rfl rfl (Nat.le_of_ble_eq_true rfl) dX7_init_33 (fun H locs hP hD hS => ?_)
  have hP : va_P (dC, dI) vwCl ((h0, .inr (6, [.ref q1, .ref q2, .ref q3, .null, .null, .null, .null, .int 0, .int 0, .int 0])) :: (q1, .inl (cI, 26, .inl (fl 26 (-1)))) :: (q2, .inl (cJ, 16, .inr (.inl (fun _ => 0)))) :: (q3, .inl (cI, 16, .inl (fun _ => 0))) :: []) H := hP
  have hD : va_D A ((h0, .inr (6, [.ref q1, .ref q2, .ref q3, .null, .null, .null, .null, .int 0, .int 0, .int 0])) :: (q1, .inl (cI, 26, .inl (fl 26 (-1)))) :: (q2, .inl (cJ, 16, .inr (.inl (fun _ => 0)))) :: (q3, .inl (cI, 16, .inl (fun _ => 0))) :: []) := hD
  refine lv_aload_n hx hb dX7_init_36 rfl (lv_at hl 0 rfl) ?_
  refine lv_bipush (v := 96) hx hb dX7_init_37 (by decide) ?_
  refine na_k (atype := .long) (a0 := (96, .inr (.inl (fun _ => 0)))) hx hb (hts (.arrayClass .long) (by decide +kernel)) rfl hK hP hD hS hA 2 rfl cell_l (by decide) (nI_clamp (n := 96) (by decide)) (cb_long (by decide)) (show 3 + 1 ≤ 7 from by decide) (show 58 + 96 ≤ 272 from by decide) dX7_init_39 (fun q4 H hP hD hS => ?_)
  have hP : va_P (dC, dI) vwCl ((h0, .inr (6, [.ref q1, .ref q2, .ref q3, .null, .null, .null, .null, .int 0, .int 0, .int 0])) :: (q1, .inl (cI, 26, .inl (fl 26 (-1)))) :: (q2, .inl (cJ, 16, .inr (.inl (fun _ => 0)))) :: (q3, .inl (cI, 16, .inl (fun _ => 0))) :: (q4, .inl (cJ, 96, .inr (.inl (fun _ => 0)))) :: []) H := hP
  have hD : va_D A ((h0, .inr (6, [.ref q1, .ref q2, .ref q3, .null, .null, .null, .null, .int 0, .int 0, .int 0])) :: (q1, .inl (cI, 26, .inl (fl 26 (-1)))) :: (q2, .inl (cJ, 16, .inr (.inl (fun _ => 0)))) :: (q3, .inl (cI, 16, .inl (fun _ => 0))) :: (q4, .inl (cJ, 96, .inr (.inl (fun _ => 0)))) :: []) := hD
  refine W.widen (k := 4) (n := 154) (Nat.le_refl _) (Nat.le_refl _) ?_
  refine va_putF (D := (dC, dI)) (ci := 6) (v := .ref q4) (ty := .array .long) (C := RX7) (T := TX7) (N := 10) hx hb hts (fun _ h => List.mem_cons_of_mem _ (List.mem_append_right _ h)) tyX7 tyX7_ok nmX7 hown hK hP hD hS 0 rfl rfl 3 (by decide) (hts (.fieldLink RX7 28 "WhistledWords$Tongue" "rows" "[J") (by decide +kernel)) (fun _ h9 => h9) rfl hin rfl (by decide +kernel) rfl rfl (Nat.le_of_ble_eq_true rfl) dX7_init_41 (fun H locs hP hD hS => ?_)
  have hP : va_P (dC, dI) vwCl ((h0, .inr (6, [.ref q1, .ref q2, .ref q3, .ref q4, .null, .null, .null, .int 0, .int 0, .int 0])) :: (q1, .inl (cI, 26, .inl (fl 26 (-1)))) :: (q2, .inl (cJ, 16, .inr (.inl (fun _ => 0)))) :: (q3, .inl (cI, 16, .inl (fun _ => 0))) :: (q4, .inl (cJ, 96, .inr (.inl (fun _ => 0)))) :: []) H := hP
  have hD : va_D A ((h0, .inr (6, [.ref q1, .ref q2, .ref q3, .ref q4, .null, .null, .null, .int 0, .int 0, .int 0])) :: (q1, .inl (cI, 26, .inl (fl 26 (-1)))) :: (q2, .inl (cJ, 16, .inr (.inl (fun _ => 0)))) :: (q3, .inl (cI, 16, .inl (fun _ => 0))) :: (q4, .inl (cJ, 96, .inr (.inl (fun _ => 0)))) :: []) := hD
  refine lv_aload_n hx hb dX7_init_44 rfl (lv_at hl 0 rfl) ?_
  refine lv_bipush (v := 96) hx hb dX7_init_45 (by decide) ?_
  refine na_k (atype := .int) (a0 := (96, .inl (fun _ => 0))) hx hb (hts (.arrayClass .int) (by decide +kernel)) rfl hK hP hD hS hA 1 rfl (cell_i rfl) (by decide) (nI_clamp (n := 96) (by decide)) (cb_int (by decide)) (show 4 + 1 ≤ 7 from by decide) (show 154 + 96 ≤ 272 from by decide) dX7_init_47 (fun q5 H hP hD hS => ?_)
  have hP : va_P (dC, dI) vwCl ((h0, .inr (6, [.ref q1, .ref q2, .ref q3, .ref q4, .null, .null, .null, .int 0, .int 0, .int 0])) :: (q1, .inl (cI, 26, .inl (fl 26 (-1)))) :: (q2, .inl (cJ, 16, .inr (.inl (fun _ => 0)))) :: (q3, .inl (cI, 16, .inl (fun _ => 0))) :: (q4, .inl (cJ, 96, .inr (.inl (fun _ => 0)))) :: (q5, .inl (cI, 96, .inl (fun _ => 0))) :: []) H := hP
  have hD : va_D A ((h0, .inr (6, [.ref q1, .ref q2, .ref q3, .ref q4, .null, .null, .null, .int 0, .int 0, .int 0])) :: (q1, .inl (cI, 26, .inl (fl 26 (-1)))) :: (q2, .inl (cJ, 16, .inr (.inl (fun _ => 0)))) :: (q3, .inl (cI, 16, .inl (fun _ => 0))) :: (q4, .inl (cJ, 96, .inr (.inl (fun _ => 0)))) :: (q5, .inl (cI, 96, .inl (fun _ => 0))) :: []) := hD
  refine W.widen (k := 5) (n := 250) (Nat.le_refl _) (Nat.le_refl _) ?_
  refine va_putF (D := (dC, dI)) (ci := 6) (v := .ref q5) (ty := .array .int) (C := RX7) (T := TX7) (N := 10) hx hb hts (fun _ h => List.mem_cons_of_mem _ (List.mem_append_right _ h)) tyX7 tyX7_ok nmX7 hown hK hP hD hS 0 rfl rfl 4 (by decide) (hts (.fieldLink RX7 31 "WhistledWords$Tongue" "alike" "[I") (by decide +kernel)) (fun _ h9 => h9) rfl hin rfl (by decide +kernel) rfl rfl (Nat.le_of_ble_eq_true rfl) dX7_init_49 (fun H locs hP hD hS => ?_)
  have hP : va_P (dC, dI) vwCl ((h0, .inr (6, [.ref q1, .ref q2, .ref q3, .ref q4, .ref q5, .null, .null, .int 0, .int 0, .int 0])) :: (q1, .inl (cI, 26, .inl (fl 26 (-1)))) :: (q2, .inl (cJ, 16, .inr (.inl (fun _ => 0)))) :: (q3, .inl (cI, 16, .inl (fun _ => 0))) :: (q4, .inl (cJ, 96, .inr (.inl (fun _ => 0)))) :: (q5, .inl (cI, 96, .inl (fun _ => 0))) :: []) H := hP
  have hD : va_D A ((h0, .inr (6, [.ref q1, .ref q2, .ref q3, .ref q4, .ref q5, .null, .null, .int 0, .int 0, .int 0])) :: (q1, .inl (cI, 26, .inl (fl 26 (-1)))) :: (q2, .inl (cJ, 16, .inr (.inl (fun _ => 0)))) :: (q3, .inl (cI, 16, .inl (fun _ => 0))) :: (q4, .inl (cJ, 96, .inr (.inl (fun _ => 0)))) :: (q5, .inl (cI, 96, .inl (fun _ => 0))) :: []) := hD
  refine lv_aload_n hx hb dX7_init_52 rfl (lv_at hl 0 rfl) ?_
  refine lv_bipush (v := 16) hx hb dX7_init_53 (by decide) ?_
  refine na_k (atype := .int) (a0 := (16, .inl (fun _ => 0))) hx hb (hts (.arrayClass .int) (by decide +kernel)) rfl hK hP hD hS hA 1 rfl (cell_i rfl) (by decide) (nI_clamp (n := 16) (by decide)) (cb_int (by decide)) (show 5 + 1 ≤ 7 from by decide) (show 250 + 16 ≤ 272 from by decide) dX7_init_55 (fun q6 H hP hD hS => ?_)
  have hP : va_P (dC, dI) vwCl ((h0, .inr (6, [.ref q1, .ref q2, .ref q3, .ref q4, .ref q5, .null, .null, .int 0, .int 0, .int 0])) :: (q1, .inl (cI, 26, .inl (fl 26 (-1)))) :: (q2, .inl (cJ, 16, .inr (.inl (fun _ => 0)))) :: (q3, .inl (cI, 16, .inl (fun _ => 0))) :: (q4, .inl (cJ, 96, .inr (.inl (fun _ => 0)))) :: (q5, .inl (cI, 96, .inl (fun _ => 0))) :: (q6, .inl (cI, 16, .inl (fun _ => 0))) :: []) H := hP
  have hD : va_D A ((h0, .inr (6, [.ref q1, .ref q2, .ref q3, .ref q4, .ref q5, .null, .null, .int 0, .int 0, .int 0])) :: (q1, .inl (cI, 26, .inl (fl 26 (-1)))) :: (q2, .inl (cJ, 16, .inr (.inl (fun _ => 0)))) :: (q3, .inl (cI, 16, .inl (fun _ => 0))) :: (q4, .inl (cJ, 96, .inr (.inl (fun _ => 0)))) :: (q5, .inl (cI, 96, .inl (fun _ => 0))) :: (q6, .inl (cI, 16, .inl (fun _ => 0))) :: []) := hD
  refine W.widen (k := 6) (n := 266) (Nat.le_refl _) (Nat.le_refl _) ?_
  refine va_putF (D := (dC, dI)) (ci := 6) (v := .ref q6) (ty := .array .int) (C := RX7) (T := TX7) (N := 10) hx hb hts (fun _ h => List.mem_cons_of_mem _ (List.mem_append_right _ h)) tyX7 tyX7_ok nmX7 hown hK hP hD hS 0 rfl rfl 5 (by decide) (hts (.fieldLink RX7 34 "WhistledWords$Tongue" "near" "[I") (by decide +kernel)) (fun _ h9 => h9) rfl hin rfl (by decide +kernel) rfl rfl (Nat.le_of_ble_eq_true rfl) dX7_init_57 (fun H locs hP hD hS => ?_)
  have hP : va_P (dC, dI) vwCl ((h0, .inr (6, [.ref q1, .ref q2, .ref q3, .ref q4, .ref q5, .ref q6, .null, .int 0, .int 0, .int 0])) :: (q1, .inl (cI, 26, .inl (fl 26 (-1)))) :: (q2, .inl (cJ, 16, .inr (.inl (fun _ => 0)))) :: (q3, .inl (cI, 16, .inl (fun _ => 0))) :: (q4, .inl (cJ, 96, .inr (.inl (fun _ => 0)))) :: (q5, .inl (cI, 96, .inl (fun _ => 0))) :: (q6, .inl (cI, 16, .inl (fun _ => 0))) :: []) H := hP
  have hD : va_D A ((h0, .inr (6, [.ref q1, .ref q2, .ref q3, .ref q4, .ref q5, .ref q6, .null, .int 0, .int 0, .int 0])) :: (q1, .inl (cI, 26, .inl (fl 26 (-1)))) :: (q2, .inl (cJ, 16, .inr (.inl (fun _ => 0)))) :: (q3, .inl (cI, 16, .inl (fun _ => 0))) :: (q4, .inl (cJ, 96, .inr (.inl (fun _ => 0)))) :: (q5, .inl (cI, 96, .inl (fun _ => 0))) :: (q6, .inl (cI, 16, .inl (fun _ => 0))) :: []) := hD
  refine lv_aload_n hx hb dX7_init_60 rfl (lv_at hl 0 rfl) ?_
  refine lv_bipush (v := 6) hx hb dX7_init_61 (by decide) ?_
  refine na_k (atype := .int) (a0 := (6, .inl (fun _ => 0))) hx hb (hts (.arrayClass .int) (by decide +kernel)) rfl hK hP hD hS hA 1 rfl (cell_i rfl) (by decide) (nI_clamp (n := 6) (by decide)) (cb_int (by decide)) (show 6 + 1 ≤ 7 from by decide) (show 266 + 6 ≤ 272 from by decide) dX7_init_63 (fun q7 H hP hD hS => ?_)
  have hP : va_P (dC, dI) vwCl ((h0, .inr (6, [.ref q1, .ref q2, .ref q3, .ref q4, .ref q5, .ref q6, .null, .int 0, .int 0, .int 0])) :: (q1, .inl (cI, 26, .inl (fl 26 (-1)))) :: (q2, .inl (cJ, 16, .inr (.inl (fun _ => 0)))) :: (q3, .inl (cI, 16, .inl (fun _ => 0))) :: (q4, .inl (cJ, 96, .inr (.inl (fun _ => 0)))) :: (q5, .inl (cI, 96, .inl (fun _ => 0))) :: (q6, .inl (cI, 16, .inl (fun _ => 0))) :: (q7, .inl (cI, 6, .inl (fun _ => 0))) :: []) H := hP
  have hD : va_D A ((h0, .inr (6, [.ref q1, .ref q2, .ref q3, .ref q4, .ref q5, .ref q6, .null, .int 0, .int 0, .int 0])) :: (q1, .inl (cI, 26, .inl (fl 26 (-1)))) :: (q2, .inl (cJ, 16, .inr (.inl (fun _ => 0)))) :: (q3, .inl (cI, 16, .inl (fun _ => 0))) :: (q4, .inl (cJ, 96, .inr (.inl (fun _ => 0)))) :: (q5, .inl (cI, 96, .inl (fun _ => 0))) :: (q6, .inl (cI, 16, .inl (fun _ => 0))) :: (q7, .inl (cI, 6, .inl (fun _ => 0))) :: []) := hD
  refine W.widen (k := 7) (n := 272) (Nat.le_refl _) (Nat.le_refl _) ?_
  refine va_putF (D := (dC, dI)) (ci := 6) (v := .ref q7) (ty := .array .int) (C := RX7) (T := TX7) (N := 10) hx hb hts (fun _ h => List.mem_cons_of_mem _ (List.mem_append_right _ h)) tyX7 tyX7_ok nmX7 hown hK hP hD hS 0 rfl rfl 6 (by decide) (hts (.fieldLink RX7 37 "WhistledWords$Tongue" "asks" "[I") (by decide +kernel)) (fun _ h9 => h9) rfl hin rfl (by decide +kernel) rfl rfl (Nat.le_of_ble_eq_true rfl) dX7_init_65 (fun H locs hP hD hS => ?_)
  have hP : va_P (dC, dI) vwCl ((h0, .inr (6, [.ref q1, .ref q2, .ref q3, .ref q4, .ref q5, .ref q6, .ref q7, .int 0, .int 0, .int 0])) :: (q1, .inl (cI, 26, .inl (fl 26 (-1)))) :: (q2, .inl (cJ, 16, .inr (.inl (fun _ => 0)))) :: (q3, .inl (cI, 16, .inl (fun _ => 0))) :: (q4, .inl (cJ, 96, .inr (.inl (fun _ => 0)))) :: (q5, .inl (cI, 96, .inl (fun _ => 0))) :: (q6, .inl (cI, 16, .inl (fun _ => 0))) :: (q7, .inl (cI, 6, .inl (fun _ => 0))) :: []) H := hP
  have hD : va_D A ((h0, .inr (6, [.ref q1, .ref q2, .ref q3, .ref q4, .ref q5, .ref q6, .ref q7, .int 0, .int 0, .int 0])) :: (q1, .inl (cI, 26, .inl (fl 26 (-1)))) :: (q2, .inl (cJ, 16, .inr (.inl (fun _ => 0)))) :: (q3, .inl (cI, 16, .inl (fun _ => 0))) :: (q4, .inl (cJ, 96, .inr (.inl (fun _ => 0)))) :: (q5, .inl (cI, 96, .inl (fun _ => 0))) :: (q6, .inl (cI, 16, .inl (fun _ => 0))) :: (q7, .inl (cI, 6, .inl (fun _ => 0))) :: []) := hD
  refine lv_aload_n hx hb dX7_init_68 rfl (lv_at hl 0 rfl) ?_
  refine lv_iconst (v := 0) hx hb dX7_init_69 (by decide) ?_
  refine va_put (D := (dC, dI)) (ci := 6) (v := .int 0) (ty := .int) (C := RX7) (T := TX7) (N := 10) hx hb hts (fun _ h => List.mem_cons_of_mem _ (List.mem_append_right _ h)) tyX7 tyX7_ok nmX7 hown hK hP hD hS 0 rfl rfl 7 (by decide) (hts (.fieldLink RX7 40 "WhistledWords$Tongue" "letters" "I") (by decide +kernel)) (fun _ h9 => h9) rfl (by decide +kernel) rfl rfl (Nat.le_of_ble_eq_true rfl) dX7_init_70 (fun H locs hP hD hS => ?_)
  have hP : va_P (dC, dI) vwCl ((h0, .inr (6, [.ref q1, .ref q2, .ref q3, .ref q4, .ref q5, .ref q6, .ref q7, .int 0, .int 0, .int 0])) :: (q1, .inl (cI, 26, .inl (fl 26 (-1)))) :: (q2, .inl (cJ, 16, .inr (.inl (fun _ => 0)))) :: (q3, .inl (cI, 16, .inl (fun _ => 0))) :: (q4, .inl (cJ, 96, .inr (.inl (fun _ => 0)))) :: (q5, .inl (cI, 96, .inl (fun _ => 0))) :: (q6, .inl (cI, 16, .inl (fun _ => 0))) :: (q7, .inl (cI, 6, .inl (fun _ => 0))) :: []) H := hP
  have hD : va_D A ((h0, .inr (6, [.ref q1, .ref q2, .ref q3, .ref q4, .ref q5, .ref q6, .ref q7, .int 0, .int 0, .int 0])) :: (q1, .inl (cI, 26, .inl (fl 26 (-1)))) :: (q2, .inl (cJ, 16, .inr (.inl (fun _ => 0)))) :: (q3, .inl (cI, 16, .inl (fun _ => 0))) :: (q4, .inl (cJ, 96, .inr (.inl (fun _ => 0)))) :: (q5, .inl (cI, 96, .inl (fun _ => 0))) :: (q6, .inl (cI, 16, .inl (fun _ => 0))) :: (q7, .inl (cI, 6, .inl (fun _ => 0))) :: []) := hD
  refine lv_aload_n hx hb dX7_init_73 rfl (lv_at hl 0 rfl) ?_
  refine lv_iconst (v := 0) hx hb dX7_init_74 (by decide) ?_
  refine va_put (D := (dC, dI)) (ci := 6) (v := .int 0) (ty := .int) (C := RX7) (T := TX7) (N := 10) hx hb hts (fun _ h => List.mem_cons_of_mem _ (List.mem_append_right _ h)) tyX7 tyX7_ok nmX7 hown hK hP hD hS 0 rfl rfl 8 (by decide) (hts (.fieldLink RX7 44 "WhistledWords$Tongue" "words" "I") (by decide +kernel)) (fun _ h9 => h9) rfl (by decide +kernel) rfl rfl (Nat.le_of_ble_eq_true rfl) dX7_init_75 (fun H locs hP hD hS => ?_)
  have hP : va_P (dC, dI) vwCl ((h0, .inr (6, [.ref q1, .ref q2, .ref q3, .ref q4, .ref q5, .ref q6, .ref q7, .int 0, .int 0, .int 0])) :: (q1, .inl (cI, 26, .inl (fl 26 (-1)))) :: (q2, .inl (cJ, 16, .inr (.inl (fun _ => 0)))) :: (q3, .inl (cI, 16, .inl (fun _ => 0))) :: (q4, .inl (cJ, 96, .inr (.inl (fun _ => 0)))) :: (q5, .inl (cI, 96, .inl (fun _ => 0))) :: (q6, .inl (cI, 16, .inl (fun _ => 0))) :: (q7, .inl (cI, 6, .inl (fun _ => 0))) :: []) H := hP
  have hD : va_D A ((h0, .inr (6, [.ref q1, .ref q2, .ref q3, .ref q4, .ref q5, .ref q6, .ref q7, .int 0, .int 0, .int 0])) :: (q1, .inl (cI, 26, .inl (fl 26 (-1)))) :: (q2, .inl (cJ, 16, .inr (.inl (fun _ => 0)))) :: (q3, .inl (cI, 16, .inl (fun _ => 0))) :: (q4, .inl (cJ, 96, .inr (.inl (fun _ => 0)))) :: (q5, .inl (cI, 96, .inl (fun _ => 0))) :: (q6, .inl (cI, 16, .inl (fun _ => 0))) :: (q7, .inl (cI, 6, .inl (fun _ => 0))) :: []) := hD
  refine lv_aload_n hx hb dX7_init_78 rfl (lv_at hl 0 rfl) ?_
  refine lv_iconst (v := 0) hx hb dX7_init_79 (by decide) ?_
  refine va_put (D := (dC, dI)) (ci := 6) (v := .int 0) (ty := .int) (C := RX7) (T := TX7) (N := 10) hx hb hts (fun _ h => List.mem_cons_of_mem _ (List.mem_append_right _ h)) tyX7 tyX7_ok nmX7 hown hK hP hD hS 0 rfl rfl 9 (by decide) (hts (.fieldLink RX7 47 "WhistledWords$Tongue" "askCount" "I") (by decide +kernel)) (fun _ h9 => h9) rfl (by decide +kernel) rfl rfl (Nat.le_of_ble_eq_true rfl) dX7_init_80 (fun H locs hP hD hS => ?_)
  have hP : va_P (dC, dI) vwCl ((h0, .inr (6, [.ref q1, .ref q2, .ref q3, .ref q4, .ref q5, .ref q6, .ref q7, .int 0, .int 0, .int 0])) :: (q1, .inl (cI, 26, .inl (fl 26 (-1)))) :: (q2, .inl (cJ, 16, .inr (.inl (fun _ => 0)))) :: (q3, .inl (cI, 16, .inl (fun _ => 0))) :: (q4, .inl (cJ, 96, .inr (.inl (fun _ => 0)))) :: (q5, .inl (cI, 96, .inl (fun _ => 0))) :: (q6, .inl (cI, 16, .inl (fun _ => 0))) :: (q7, .inl (cI, 6, .inl (fun _ => 0))) :: []) H := hP
  have hD : va_D A ((h0, .inr (6, [.ref q1, .ref q2, .ref q3, .ref q4, .ref q5, .ref q6, .ref q7, .int 0, .int 0, .int 0])) :: (q1, .inl (cI, 26, .inl (fl 26 (-1)))) :: (q2, .inl (cJ, 16, .inr (.inl (fun _ => 0)))) :: (q3, .inl (cI, 16, .inl (fun _ => 0))) :: (q4, .inl (cJ, 96, .inr (.inl (fun _ => 0)))) :: (q5, .inl (cI, 96, .inl (fun _ => 0))) :: (q6, .inl (cI, 16, .inl (fun _ => 0))) :: (q7, .inl (cI, 6, .inl (fun _ => 0))) :: []) := hD
  exact W.vret hx hb hr (fun t ht hW => ⟨⟨(), rfl, trivial, (fun k => [h0, q1, q2, q3, q4, q5, q6, q7].getD k 0), rfl, by rw [ht]; exact hP, va_K.moved hW.alike hK, hD⟩, hS.F ht⟩) hS.2.2 dX7_init_83 hlocks
def wfX6 (cB cI cJ cZ : ClassId) (x : Nat) (b : Nat → Nat) : va_W := ((b 0, .inr (5, [.ref x, .ref (b 1), .int 0, .int 0, .int 0, .int 0, .int 0, .int 0])) :: (b 1, .inr (6, [.ref (b 2), .ref (b 3), .ref (b 4), .ref (b 5), .ref (b 6), .ref (b 7), .ref (b 8), .int 0, .int 0, .int 0])) :: (b 2, .inl (cI, 26, .inl (fl 26 (-1)))) :: (b 3, .inl (cJ, 16, .inr (.inl (fun _ => 0)))) :: (b 4, .inl (cI, 16, .inl (fun _ => 0))) :: (b 5, .inl (cJ, 96, .inr (.inl (fun _ => 0)))) :: (b 6, .inl (cI, 96, .inl (fun _ => 0))) :: (b 7, .inl (cI, 16, .inl (fun _ => 0))) :: (b 8, .inl (cI, 6, .inl (fun _ => 0))) :: [])
set_option maxHeartbeats 4000000 in
set_option maxRecDepth 100000 in
theorem kX6_init (l : Launch) (n : Nat) (hn : 1000 ≤ n) (dC : Nat → ClassId) (dI : Nat → Nat → Nat) (cB cI cJ cZ : ClassId) (h0 sz : Nat) (x : Nat) : Met l yX6_init wsX6_init ({ frames := 2, cells := 8, slots := 282, locals := 43 }) (gP (dC, dI) (tyz cB cI cJ cZ) E_0 [(h0, .inr (5, [.null, .null, .int 0, .int 0, .int 0, .int 0, .int 0, .int 0]))] sz [.ref h0, .ref x]) (gN (dC, dI) (tyz cB cI cJ cZ) (wfX6 cB cI cJ cZ x) h0 (va_A [(h0, .inr (5, [.null, .null, .int 0, .int 0, .int 0, .int 0, .int 0, .int 0]))] sz)) 8 282 (va_A [(h0, .inr (5, [.null, .null, .int 0, .int 0, .int 0, .int 0, .int 0, .int 0]))] sz) := by
  refine Met.ofW (cc := cX6_init) (maxL := 2) (ret := none) (by decide) rfl ?_
  intro p e s m args below meth c s₁ B hml hv
  obtain ⟨rfl, hsz, hP, hK, hD0, hE⟩ := hv
  have hx := B.exec
  have hb := B.bytes
  have hr := B.returns
  have hts := atoms_spec (ws := wsX6_init) B.pre
  have hown : s.vm.findClass RX6 = some m.cls := findClass_of_methodNamed B.named
  have hlocks := B.notSynchronized
  have hin : meth.name = "<init>" := (name_of_methodNamed B.named B.method).1
  subst hsz
  have hD := hD0.self (sz := s.heap.size)
  have hA : ∀ q : Nat, s.heap.size ≤ q → va_A [(h0, .inr (5, [.null, .null, .int 0, .int 0, .int 0, .int 0, .int 0, .int 0]))] s.heap.size q := fun q h => Or.inr h
  generalize va_A [(h0, .inr (5, [.null, .null, .int 0, .int 0, .int 0, .int 0, .int 0, .int 0]))] s.heap.size = A at hD hA hE ⊢
  have hS : va_S A s.heap s.heap [] := va_S.rf
  have hl := lv_entry ([.ref h0, .ref x]) (n := 2) (Nat.le_of_ble_eq_true rfl)
  rw [lg_entry_eq]
  generalize (lg_sl ([.ref h0, .ref x]) ++ List.replicate (2 - (lg_sl ([.ref h0, .ref x])).length) Slot.unset).toArray = ls at hl ⊢
  have hl : lv_has ls 2 [(0, .ref h0), (1, .ref x)] := hl
  refine lv_aload_n hx hb dX6_init_0 rfl (lv_at hl 0 rfl) ?_
  refine W.objInit hx hb hown (hts (.methodLink RX6 3 objectInit) (by decide +kernel)) (hts (.instanceMethod objectInit) (by decide +kernel)) (hts (.code objectInit ⟨#[0xb1]⟩ 1 none) (List.mem_of_getElem? (i := 3) rfl)) rfl (by rw [hml]; exact hl.1) rfl dX6_init_1 (Nat.le_of_ble_eq_true rfl) (Nat.le_of_ble_eq_true rfl) ?_
  refine W.eq (g2 := F0 m 4 ls []) rfl ?_
  refine lv_aload_n hx hb dX6_init_4 rfl (lv_at hl 0 rfl) ?_
  refine lv_aload_n hx hb dX6_init_5 rfl (lv_at hl 1 rfl) ?_
  refine va_putF (D := (dC, dI)) (ci := 5) (v := .ref x) (ty := .object "WhistledWords$Tape") (C := RX6) (T := TX6) (N := 8) hx hb hts (fun _ h => List.mem_cons_of_mem _ (List.mem_append_left _ (List.mem_append_right _ h))) tyX6 tyX6_ok nmX6 hown hK hP hD hS 0 rfl rfl 0 (by decide) (hts (.fieldLink RX6 9 "WhistledWords$TextReader" "tape" "LWhistledWords$Tape;") (by decide +kernel)) (fun _ h9 => h9) rfl hin rfl (by decide +kernel) rfl rfl (Nat.le_of_ble_eq_true rfl) dX6_init_6 (fun H locs hP hD hS => ?_)
  have hP : va_P (dC, dI) vwCl ((h0, .inr (5, [.ref x, .null, .int 0, .int 0, .int 0, .int 0, .int 0, .int 0])) :: []) H := hP
  have hD : va_D A ((h0, .inr (5, [.ref x, .null, .int 0, .int 0, .int 0, .int 0, .int 0, .int 0])) :: []) := hD
  refine lv_aload_n hx hb dX6_init_9 rfl (lv_at hl 0 rfl) ?_
  refine va_new (ci := 6) (fs := [.null, .null, .null, .null, .null, .null, .null, .int 0, .int 0, .int 0]) (C := RX7) (T := TX7) (N := 10) hx hb hts (fun _ h => List.mem_cons_of_mem _ (List.mem_append_right _ h)) tyX7 tyX7_ok hown (hts (.classLink RX6 15 RX7) (by decide +kernel)) (hts (.instantiable RX7 10) (by decide +kernel)) (hts (.initialized RX7) (by decide +kernel)) hK hP hD hS hA rfl (fun j hj => by rcases (show j = 0 ∨ j = 1 ∨ j = 2 ∨ j = 3 ∨ j = 4 ∨ j = 5 ∨ j = 6 ∨ j = 7 ∨ j = 8 ∨ j = 9 by omega) with rfl | rfl | rfl | rfl | rfl | rfl | rfl | rfl | rfl | rfl <;> rfl) (show 0 + 1 ≤ 8 from by decide) (show 0 + 10 ≤ 282 from by decide) dX6_init_10 (fun q1 H hP hD hS => ?_)
  have hP : va_P (dC, dI) vwCl ((h0, .inr (5, [.ref x, .null, .int 0, .int 0, .int 0, .int 0, .int 0, .int 0])) :: (q1, .inr (6, [.null, .null, .null, .null, .null, .null, .null, .int 0, .int 0, .int 0])) :: []) H := hP
  have hD : va_D A ((h0, .inr (5, [.ref x, .null, .int 0, .int 0, .int 0, .int 0, .int 0, .int 0])) :: (q1, .inr (6, [.null, .null, .null, .null, .null, .null, .null, .int 0, .int 0, .int 0])) :: []) := hD
  refine W.widen (k := 1) (n := 10) (Nat.le_refl _) (Nat.le_refl _) ?_
  refine lv_dup hx hb dX6_init_13 rfl ?_
  refine ci_v (u := ((h0, .inr (5, [.ref x, .null, .int 0, .int 0, .int 0, .int 0, .int 0, .int 0])) :: [])) (As := []) (rest := [.ref q1, .ref h0]) ⟨hx, hb, hml, hown, hts⟩ (kX7_init l n hn dC dI cB cI cJ cZ q1 H.size ) (cwI 0 hts gX6_init_X7_init rfl rfl rfl (hts (.initialized RX7) (by decide +kernel)) (hts (.methodLink RX6 17 yX7_init) (by decide +kernel)) (hts (.instanceMethod yX7_init) (by decide +kernel)) rfl (by decide +kernel) ⟨Nat.le_of_ble_eq_true rfl, Nat.le_of_ble_eq_true rfl⟩) hK hP hD hS hA rfl hl.1 rfl (Nat.le_of_ble_eq_true rfl) dX6_init_14 ⟨show 1 + 7 ≤ 8 from by decide, show 10 + 272 ≤ 282 from by decide⟩ (fun t1 H locs ht hPn hDn hSn => ?_)
  subst ht
  have hS := hSn
  have hP : va_P (dC, dI) vwCl ((h0, .inr (5, [.ref x, .null, .int 0, .int 0, .int 0, .int 0, .int 0, .int 0])) :: ((t1 0), .inr (6, [.ref (t1 1), .ref (t1 2), .ref (t1 3), .ref (t1 4), .ref (t1 5), .ref (t1 6), .ref (t1 7), .int 0, .int 0, .int 0])) :: ((t1 1), .inl (cI, 26, .inl (fl 26 (-1)))) :: ((t1 2), .inl (cJ, 16, .inr (.inl (fun _ => 0)))) :: ((t1 3), .inl (cI, 16, .inl (fun _ => 0))) :: ((t1 4), .inl (cJ, 96, .inr (.inl (fun _ => 0)))) :: ((t1 5), .inl (cI, 96, .inl (fun _ => 0))) :: ((t1 6), .inl (cI, 16, .inl (fun _ => 0))) :: ((t1 7), .inl (cI, 6, .inl (fun _ => 0))) :: []) H := hPn
  have hD : va_D A ((h0, .inr (5, [.ref x, .null, .int 0, .int 0, .int 0, .int 0, .int 0, .int 0])) :: ((t1 0), .inr (6, [.ref (t1 1), .ref (t1 2), .ref (t1 3), .ref (t1 4), .ref (t1 5), .ref (t1 6), .ref (t1 7), .int 0, .int 0, .int 0])) :: ((t1 1), .inl (cI, 26, .inl (fl 26 (-1)))) :: ((t1 2), .inl (cJ, 16, .inr (.inl (fun _ => 0)))) :: ((t1 3), .inl (cI, 16, .inl (fun _ => 0))) :: ((t1 4), .inl (cJ, 96, .inr (.inl (fun _ => 0)))) :: ((t1 5), .inl (cI, 96, .inl (fun _ => 0))) :: ((t1 6), .inl (cI, 16, .inl (fun _ => 0))) :: ((t1 7), .inl (cI, 6, .inl (fun _ => 0))) :: []) := hDn
  refine W.widen (k := 8) (n := 282) (Nat.le_refl _) (Nat.le_refl _) ?_
  refine va_put (D := (dC, dI)) (ci := 5) (v := .ref (t1 0)) (ty := .object "WhistledWords$Tongue") (C := RX6) (T := TX6) (N := 8) hx hb hts (fun _ h => List.mem_cons_of_mem _ (List.mem_append_left _ (List.mem_append_right _ h))) tyX6 tyX6_ok nmX6 hown hK hP hD hS 0 rfl rfl 1 (by decide) (hts (.fieldLink RX6 18 "WhistledWords$TextReader" "draft" "LWhistledWords$Tongue;") (by decide +kernel)) (fun _ h9 => h9) rfl (by decide +kernel) rfl rfl (Nat.le_of_ble_eq_true rfl) dX6_init_17 (fun H locs hP hD hS => ?_)
  have hP : va_P (dC, dI) vwCl ((h0, .inr (5, [.ref x, .ref (t1 0), .int 0, .int 0, .int 0, .int 0, .int 0, .int 0])) :: ((t1 0), .inr (6, [.ref (t1 1), .ref (t1 2), .ref (t1 3), .ref (t1 4), .ref (t1 5), .ref (t1 6), .ref (t1 7), .int 0, .int 0, .int 0])) :: ((t1 1), .inl (cI, 26, .inl (fl 26 (-1)))) :: ((t1 2), .inl (cJ, 16, .inr (.inl (fun _ => 0)))) :: ((t1 3), .inl (cI, 16, .inl (fun _ => 0))) :: ((t1 4), .inl (cJ, 96, .inr (.inl (fun _ => 0)))) :: ((t1 5), .inl (cI, 96, .inl (fun _ => 0))) :: ((t1 6), .inl (cI, 16, .inl (fun _ => 0))) :: ((t1 7), .inl (cI, 6, .inl (fun _ => 0))) :: []) H := hP
  have hD : va_D A ((h0, .inr (5, [.ref x, .ref (t1 0), .int 0, .int 0, .int 0, .int 0, .int 0, .int 0])) :: ((t1 0), .inr (6, [.ref (t1 1), .ref (t1 2), .ref (t1 3), .ref (t1 4), .ref (t1 5), .ref (t1 6), .ref (t1 7), .int 0, .int 0, .int 0])) :: ((t1 1), .inl (cI, 26, .inl (fl 26 (-1)))) :: ((t1 2), .inl (cJ, 16, .inr (.inl (fun _ => 0)))) :: ((t1 3), .inl (cI, 16, .inl (fun _ => 0))) :: ((t1 4), .inl (cJ, 96, .inr (.inl (fun _ => 0)))) :: ((t1 5), .inl (cI, 96, .inl (fun _ => 0))) :: ((t1 6), .inl (cI, 16, .inl (fun _ => 0))) :: ((t1 7), .inl (cI, 6, .inl (fun _ => 0))) :: []) := hD
  exact W.vret hx hb hr (fun t ht hW => ⟨⟨(), rfl, trivial, (fun k => [h0, t1 0, t1 1, t1 2, t1 3, t1 4, t1 5, t1 6, t1 7].getD k 0), rfl, by rw [ht]; exact hP, va_K.moved hW.alike hK, hD⟩, hS.F ht⟩) hS.2.2 dX6_init_20 hlocks
def wfX4 (cB cI cJ cZ : ClassId) (b : Nat → Nat) : va_W := ((b 0, .inr (3, [.ref (b 1), .ref (b 2), .ref (b 3)])) :: (b 1, .inl (cI, 4, .inl (fun _ => 0))) :: (b 2, .inl (cI, 4, .inl (fl 4 (-1)))) :: (b 3, .inl (cI, 240, .inl (fun _ => 0))) :: [])
set_option maxHeartbeats 4000000 in
set_option maxRecDepth 100000 in
theorem kX4_init (l : Launch) (n : Nat) (hn : 1000 ≤ n) (dC : Nat → ClassId) (dI : Nat → Nat → Nat) (cB cI cJ cZ : ClassId) (h0 sz : Nat) : Met l yX4_init wsX4_init ({ frames := 1, cells := 3, slots := 248, locals := 23 }) (gP (dC, dI) (tyz cB cI cJ cZ) E_0 [(h0, .inr (3, [.null, .null, .null]))] sz [.ref h0]) (gN (dC, dI) (tyz cB cI cJ cZ) (wfX4 cB cI cJ cZ) h0 (va_A [(h0, .inr (3, [.null, .null, .null]))] sz)) 3 248 (va_A [(h0, .inr (3, [.null, .null, .null]))] sz) := by
  refine Met.ofW (cc := cX4_init) (maxL := 1) (ret := none) (by decide) rfl ?_
  intro p e s m args below meth c s₁ B hml hv
  obtain ⟨rfl, hsz, hP, hK, hD0, hE⟩ := hv
  have hx := B.exec
  have hb := B.bytes
  have hr := B.returns
  have hts := atoms_spec (ws := wsX4_init) B.pre
  have hown : s.vm.findClass RX4 = some m.cls := findClass_of_methodNamed B.named
  have hlocks := B.notSynchronized
  have hin : meth.name = "<init>" := (name_of_methodNamed B.named B.method).1
  subst hsz
  have hD := hD0.self (sz := s.heap.size)
  have hA : ∀ q : Nat, s.heap.size ≤ q → va_A [(h0, .inr (3, [.null, .null, .null]))] s.heap.size q := fun q h => Or.inr h
  generalize va_A [(h0, .inr (3, [.null, .null, .null]))] s.heap.size = A at hD hA hE ⊢
  have hS : va_S A s.heap s.heap [] := va_S.rf
  have hl := lv_entry ([.ref h0]) (n := 1) (Nat.le_of_ble_eq_true rfl)
  rw [lg_entry_eq]
  generalize (lg_sl ([.ref h0]) ++ List.replicate (1 - (lg_sl ([.ref h0])).length) Slot.unset).toArray = ls at hl ⊢
  have hl : lv_has ls 1 [(0, .ref h0)] := hl
  refine lv_aload_n hx hb dX4_init_0 rfl (lv_at hl 0 rfl) ?_
  refine W.objInit hx hb hown (hts (.methodLink RX4 3 objectInit) (by decide +kernel)) (hts (.instanceMethod objectInit) (by decide +kernel)) (hts (.code objectInit ⟨#[0xb1]⟩ 1 none) (List.mem_of_getElem? (i := 3) rfl)) rfl (by rw [hml]; exact hl.1) rfl dX4_init_1 (Nat.le_of_ble_eq_true rfl) (Nat.le_of_ble_eq_true rfl) ?_
  refine W.eq (g2 := F0 m 4 ls []) rfl ?_
  refine lv_aload_n hx hb dX4_init_4 rfl (lv_at hl 0 rfl) ?_
  refine lv_iconst (v := 4) hx hb dX4_init_5 (by decide) ?_
  refine na_k (atype := .int) (a0 := (4, .inl (fun _ => 0))) hx hb (hts (.arrayClass .int) (by decide +kernel)) rfl hK hP hD hS hA 1 rfl (cell_i rfl) (by decide) (nI_clamp (n := 4) (by decide)) (cb_int (by decide)) (show 0 + 1 ≤ 3 from by decide) (show 0 + 4 ≤ 248 from by decide) dX4_init_6 (fun q1 H hP hD hS => ?_)
  have hP : va_P (dC, dI) vwCl ((h0, .inr (3, [.null, .null, .null])) :: (q1, .inl (cI, 4, .inl (fun _ => 0))) :: []) H := hP
  have hD : va_D A ((h0, .inr (3, [.null, .null, .null])) :: (q1, .inl (cI, 4, .inl (fun _ => 0))) :: []) := hD
  refine W.widen (k := 1) (n := 4) (Nat.le_refl _) (Nat.le_refl _) ?_
  refine va_putF (D := (dC, dI)) (ci := 3) (v := .ref q1) (ty := .array .int) (C := RX4) (T := TX4) (N := 3) hx hb hts (fun _ h => List.mem_cons_of_mem _ (List.mem_append_right _ h)) tyX4 tyX4_ok nmX4 hown hK hP hD hS 0 rfl rfl 0 (by decide) (hts (.fieldLink RX4 11 "WhistledWords$Sheets" "lanes" "[I") (by decide +kernel)) (fun _ h9 => h9) rfl hin rfl (by decide +kernel) rfl rfl (Nat.le_of_ble_eq_true rfl) dX4_init_8 (fun H locs hP hD hS => ?_)
  have hP : va_P (dC, dI) vwCl ((h0, .inr (3, [.ref q1, .null, .null])) :: (q1, .inl (cI, 4, .inl (fun _ => 0))) :: []) H := hP
  have hD : va_D A ((h0, .inr (3, [.ref q1, .null, .null])) :: (q1, .inl (cI, 4, .inl (fun _ => 0))) :: []) := hD
  refine lv_aload_n hx hb dX4_init_11 rfl (lv_at hl 0 rfl) ?_
  refine lv_iconst (v := 4) hx hb dX4_init_12 (by decide) ?_
  refine na_k (atype := .int) (a0 := (4, .inl (fun _ => 0))) hx hb (hts (.arrayClass .int) (by decide +kernel)) rfl hK hP hD hS hA 1 rfl (cell_i rfl) (by decide) (nI_clamp (n := 4) (by decide)) (cb_int (by decide)) (show 1 + 1 ≤ 3 from by decide) (show 4 + 4 ≤ 248 from by decide) dX4_init_13 (fun q2 H hP hD hS => ?_)
  have hP : va_P (dC, dI) vwCl ((h0, .inr (3, [.ref q1, .null, .null])) :: (q1, .inl (cI, 4, .inl (fun _ => 0))) :: (q2, .inl (cI, 4, .inl (fun _ => 0))) :: []) H := hP
  have hD : va_D A ((h0, .inr (3, [.ref q1, .null, .null])) :: (q1, .inl (cI, 4, .inl (fun _ => 0))) :: (q2, .inl (cI, 4, .inl (fun _ => 0))) :: []) := hD
  refine W.widen (k := 2) (n := 8) (Nat.le_refl _) (Nat.le_refl _) ?_
  refine va_putF (D := (dC, dI)) (ci := 3) (v := .ref q2) (ty := .array .int) (C := RX4) (T := TX4) (N := 3) hx hb hts (fun _ h => List.mem_cons_of_mem _ (List.mem_append_right _ h)) tyX4 tyX4_ok nmX4 hown hK hP hD hS 0 rfl rfl 1 (by decide) (hts (.fieldLink RX4 15 "WhistledWords$Sheets" "sizes" "[I") (by decide +kernel)) (fun _ h9 => h9) rfl hin rfl (by decide +kernel) rfl rfl (Nat.le_of_ble_eq_true rfl) dX4_init_15 (fun H locs hP hD hS => ?_)
  have hP : va_P (dC, dI) vwCl ((h0, .inr (3, [.ref q1, .ref q2, .null])) :: (q1, .inl (cI, 4, .inl (fun _ => 0))) :: (q2, .inl (cI, 4, .inl (fun _ => 0))) :: []) H := hP
  have hD : va_D A ((h0, .inr (3, [.ref q1, .ref q2, .null])) :: (q1, .inl (cI, 4, .inl (fun _ => 0))) :: (q2, .inl (cI, 4, .inl (fun _ => 0))) :: []) := hD
  refine lv_aload_n hx hb dX4_init_18 rfl (lv_at hl 0 rfl) ?_
  refine va_get (D := (dC, dI)) (ci := 3) (v := .ref q2) (C := RX4) (T := TX4) (N := 3) hx hb hts (fun _ h => List.mem_cons_of_mem _ (List.mem_append_right _ h)) hown hK hP 0 rfl rfl 1 (by decide) (hts (.fieldLink RX4 15 "WhistledWords$Sheets" "sizes" "[I") (by decide +kernel)) (fun _ h => h) rfl dX4_init_19 ?_
  refine lv_iconst (v := -1) hx hb dX4_init_22 (by decide) ?_
  refine cf_v (w1 := ((h0, .inr (3, [.ref q1, .ref q2, .null])) :: (q1, .inl (cI, 4, .inl (fun _ => 0))) :: (q2, .inl (cI, 4, .inl (fl 4 (-1)))) :: [])) (rest := []) ⟨hx, hb, hml, hown, hts⟩ (kJ7_fill_53178 l n dC dI cB cI cJ cZ q2 _ 4 (fun _ => 0) (-1) _ (fill_fl 4 (-1) (by decide) (by omega))) (va_cwS 2 hts gX4_init_J7_fill_53178 rfl rfl rfl (by decide +kernel) ⟨Nat.le_of_ble_eq_true rfl, Nat.le_of_ble_eq_true rfl⟩) hK hP hD hS hA 2 rfl rfl hl.1 rfl (Nat.le_of_ble_eq_true rfl) dX4_init_23 ⟨show 2 ≤ 3 from by decide, show 8 ≤ 248 from by decide⟩ (fun H locs hP hD hS => ?_)
  have hP : va_P (dC, dI) vwCl ((h0, .inr (3, [.ref q1, .ref q2, .null])) :: (q1, .inl (cI, 4, .inl (fun _ => 0))) :: (q2, .inl (cI, 4, .inl (fl 4 (-1)))) :: []) H := hP
  have hD : va_D A ((h0, .inr (3, [.ref q1, .ref q2, .null])) :: (q1, .inl (cI, 4, .inl (fun _ => 0))) :: (q2, .inl (cI, 4, .inl (fl 4 (-1)))) :: []) := hD
  refine lv_aload_n hx hb dX4_init_26 rfl (lv_at hl 0 rfl) ?_
  refine lv_sipush (v := 240) hx hb dX4_init_27 (by decide) ?_
  refine na_k (atype := .int) (a0 := (240, .inl (fun _ => 0))) hx hb (hts (.arrayClass .int) (by decide +kernel)) rfl hK hP hD hS hA 1 rfl (cell_i rfl) (by decide) (nI_clamp (n := 240) (by decide)) (cb_int (by decide)) (show 2 + 1 ≤ 3 from by decide) (show 8 + 240 ≤ 248 from by decide) dX4_init_30 (fun q3 H hP hD hS => ?_)
  have hP : va_P (dC, dI) vwCl ((h0, .inr (3, [.ref q1, .ref q2, .null])) :: (q1, .inl (cI, 4, .inl (fun _ => 0))) :: (q2, .inl (cI, 4, .inl (fl 4 (-1)))) :: (q3, .inl (cI, 240, .inl (fun _ => 0))) :: []) H := hP
  have hD : va_D A ((h0, .inr (3, [.ref q1, .ref q2, .null])) :: (q1, .inl (cI, 4, .inl (fun _ => 0))) :: (q2, .inl (cI, 4, .inl (fl 4 (-1)))) :: (q3, .inl (cI, 240, .inl (fun _ => 0))) :: []) := hD
  refine W.widen (k := 3) (n := 248) (Nat.le_refl _) (Nat.le_refl _) ?_
  refine va_putF (D := (dC, dI)) (ci := 3) (v := .ref q3) (ty := .array .int) (C := RX4) (T := TX4) (N := 3) hx hb hts (fun _ h => List.mem_cons_of_mem _ (List.mem_append_right _ h)) tyX4 tyX4_ok nmX4 hown hK hP hD hS 0 rfl rfl 2 (by decide) (hts (.fieldLink RX4 24 "WhistledWords$Sheets" "cells" "[I") (by decide +kernel)) (fun _ h9 => h9) rfl hin rfl (by decide +kernel) rfl rfl (Nat.le_of_ble_eq_true rfl) dX4_init_32 (fun H locs hP hD hS => ?_)
  have hP : va_P (dC, dI) vwCl ((h0, .inr (3, [.ref q1, .ref q2, .ref q3])) :: (q1, .inl (cI, 4, .inl (fun _ => 0))) :: (q2, .inl (cI, 4, .inl (fl 4 (-1)))) :: (q3, .inl (cI, 240, .inl (fun _ => 0))) :: []) H := hP
  have hD : va_D A ((h0, .inr (3, [.ref q1, .ref q2, .ref q3])) :: (q1, .inl (cI, 4, .inl (fun _ => 0))) :: (q2, .inl (cI, 4, .inl (fl 4 (-1)))) :: (q3, .inl (cI, 240, .inl (fun _ => 0))) :: []) := hD
  exact W.vret hx hb hr (fun t ht hW => ⟨⟨(), rfl, trivial, (fun k => [h0, q1, q2, q3].getD k 0), rfl, by rw [ht]; exact hP, va_K.moved hW.alike hK, hD⟩, hS.F ht⟩) hS.2.2 dX4_init_35 hlocks
def wfX1 (cB cI cJ cZ : ClassId) (x : Nat) (b : Nat → Nat) : va_W := ((b 0, .inr (1, [.ref x, .ref (b 1), .ref (b 2), .ref (b 3), .ref (b 4), .ref (b 5), .ref (b 6), .ref (b 7), .ref (b 8), .int 0, .int 0, .int 0, .int 0])) :: (b 1, .inl (cI, 10, .inl (fun _ => 0))) :: (b 2, .inl (cI, 10, .inl (fun _ => 0))) :: (b 3, .inl (cI, 10, .inl (fun _ => 0))) :: (b 4, .inl (cI, 6, .inl (fun _ => 0))) :: (b 5, .inl (cI, 6, .inl (fun _ => 0))) :: (b 6, .inl (cI, 10, .inl (fun _ => 0))) :: (b 7, .inl (cI, 100, .inl (fun _ => 0))) :: (b 8, .inl (cI, 10, .inl (fun _ => 0))) :: [])
set_option maxHeartbeats 4000000 in
set_option maxRecDepth 100000 in
theorem kX1_init (l : Launch) (n : Nat) (hn : 1000 ≤ n) (dC : Nat → ClassId) (dI : Nat → Nat → Nat) (cB cI cJ cZ : ClassId) (h0 sz : Nat) (x : Nat) : Met l yX1_init wsX1_init ({ frames := 1, cells := 8, slots := 162, locals := 12 }) (gP (dC, dI) (tyz cB cI cJ cZ) E_0 [(h0, .inr (1, [.null, .null, .null, .null, .null, .null, .null, .null, .null, .int 0, .int 0, .int 0, .int 0]))] sz [.ref h0, .ref x]) (gN (dC, dI) (tyz cB cI cJ cZ) (wfX1 cB cI cJ cZ x) h0 (va_A [(h0, .inr (1, [.null, .null, .null, .null, .null, .null, .null, .null, .null, .int 0, .int 0, .int 0, .int 0]))] sz)) 8 162 (va_A [(h0, .inr (1, [.null, .null, .null, .null, .null, .null, .null, .null, .null, .int 0, .int 0, .int 0, .int 0]))] sz) := by
  refine Met.ofW (cc := cX1_init) (maxL := 2) (ret := none) (by decide) rfl ?_
  intro p e s m args below meth c s₁ B hml hv
  obtain ⟨rfl, hsz, hP, hK, hD0, hE⟩ := hv
  have hx := B.exec
  have hb := B.bytes
  have hr := B.returns
  have hts := atoms_spec (ws := wsX1_init) B.pre
  have hown : s.vm.findClass RX1 = some m.cls := findClass_of_methodNamed B.named
  have hlocks := B.notSynchronized
  have hin : meth.name = "<init>" := (name_of_methodNamed B.named B.method).1
  subst hsz
  have hD := hD0.self (sz := s.heap.size)
  have hA : ∀ q : Nat, s.heap.size ≤ q → va_A [(h0, .inr (1, [.null, .null, .null, .null, .null, .null, .null, .null, .null, .int 0, .int 0, .int 0, .int 0]))] s.heap.size q := fun q h => Or.inr h
  generalize va_A [(h0, .inr (1, [.null, .null, .null, .null, .null, .null, .null, .null, .null, .int 0, .int 0, .int 0, .int 0]))] s.heap.size = A at hD hA hE ⊢
  have hS : va_S A s.heap s.heap [] := va_S.rf
  have hl := lv_entry ([.ref h0, .ref x]) (n := 2) (Nat.le_of_ble_eq_true rfl)
  rw [lg_entry_eq]
  generalize (lg_sl ([.ref h0, .ref x]) ++ List.replicate (2 - (lg_sl ([.ref h0, .ref x])).length) Slot.unset).toArray = ls at hl ⊢
  have hl : lv_has ls 2 [(0, .ref h0), (1, .ref x)] := hl
  refine lv_aload_n hx hb dX1_init_0 rfl (lv_at hl 0 rfl) ?_
  refine W.objInit hx hb hown (hts (.methodLink RX1 3 objectInit) (by decide +kernel)) (hts (.instanceMethod objectInit) (by decide +kernel)) (hts (.code objectInit ⟨#[0xb1]⟩ 1 none) (List.mem_of_getElem? (i := 3) rfl)) rfl (by rw [hml]; exact hl.1) rfl dX1_init_1 (Nat.le_of_ble_eq_true rfl) (Nat.le_of_ble_eq_true rfl) ?_
  refine W.eq (g2 := F0 m 4 ls []) rfl ?_
  refine lv_aload_n hx hb dX1_init_4 rfl (lv_at hl 0 rfl) ?_
  refine lv_aload_n hx hb dX1_init_5 rfl (lv_at hl 1 rfl) ?_
  refine va_putF (D := (dC, dI)) (ci := 1) (v := .ref x) (ty := .object "WhistledWords$Sheets") (C := RX1) (T := TX1) (N := 13) hx hb hts (fun _ h => List.mem_cons_of_mem _ (List.mem_append_right _ h)) tyX1 tyX1_ok nmX1 hown hK hP hD hS 0 rfl rfl 0 (by decide) (hts (.fieldLink RX1 9 "WhistledWords$Land" "sheets" "LWhistledWords$Sheets;") (by decide +kernel)) (fun _ h9 => h9) rfl hin rfl (by decide +kernel) rfl rfl (Nat.le_of_ble_eq_true rfl) dX1_init_6 (fun H locs hP hD hS => ?_)
  have hP : va_P (dC, dI) vwCl ((h0, .inr (1, [.ref x, .null, .null, .null, .null, .null, .null, .null, .null, .int 0, .int 0, .int 0, .int 0])) :: []) H := hP
  have hD : va_D A ((h0, .inr (1, [.ref x, .null, .null, .null, .null, .null, .null, .null, .null, .int 0, .int 0, .int 0, .int 0])) :: []) := hD
  refine lv_aload_n hx hb dX1_init_9 rfl (lv_at hl 0 rfl) ?_
  refine lv_bipush (v := 10) hx hb dX1_init_10 (by decide) ?_
  refine na_k (atype := .int) (a0 := (10, .inl (fun _ => 0))) hx hb (hts (.arrayClass .int) (by decide +kernel)) rfl hK hP hD hS hA 1 rfl (cell_i rfl) (by decide) (nI_clamp (n := 10) (by decide)) (cb_int (by decide)) (show 0 + 1 ≤ 8 from by decide) (show 0 + 10 ≤ 162 from by decide) dX1_init_12 (fun q1 H hP hD hS => ?_)
  have hP : va_P (dC, dI) vwCl ((h0, .inr (1, [.ref x, .null, .null, .null, .null, .null, .null, .null, .null, .int 0, .int 0, .int 0, .int 0])) :: (q1, .inl (cI, 10, .inl (fun _ => 0))) :: []) H := hP
  have hD : va_D A ((h0, .inr (1, [.ref x, .null, .null, .null, .null, .null, .null, .null, .null, .int 0, .int 0, .int 0, .int 0])) :: (q1, .inl (cI, 10, .inl (fun _ => 0))) :: []) := hD
  refine W.widen (k := 1) (n := 10) (Nat.le_refl _) (Nat.le_refl _) ?_
  refine va_putF (D := (dC, dI)) (ci := 1) (v := .ref q1) (ty := .array .int) (C := RX1) (T := TX1) (N := 13) hx hb hts (fun _ h => List.mem_cons_of_mem _ (List.mem_append_right _ h)) tyX1 tyX1_ok nmX1 hown hK hP hD hS 0 rfl rfl 1 (by decide) (hts (.fieldLink RX1 15 "WhistledWords$Land" "xs" "[I") (by decide +kernel)) (fun _ h9 => h9) rfl hin rfl (by decide +kernel) rfl rfl (Nat.le_of_ble_eq_true rfl) dX1_init_14 (fun H locs hP hD hS => ?_)
  have hP : va_P (dC, dI) vwCl ((h0, .inr (1, [.ref x, .ref q1, .null, .null, .null, .null, .null, .null, .null, .int 0, .int 0, .int 0, .int 0])) :: (q1, .inl (cI, 10, .inl (fun _ => 0))) :: []) H := hP
  have hD : va_D A ((h0, .inr (1, [.ref x, .ref q1, .null, .null, .null, .null, .null, .null, .null, .int 0, .int 0, .int 0, .int 0])) :: (q1, .inl (cI, 10, .inl (fun _ => 0))) :: []) := hD
  refine lv_aload_n hx hb dX1_init_17 rfl (lv_at hl 0 rfl) ?_
  refine lv_bipush (v := 10) hx hb dX1_init_18 (by decide) ?_
  refine na_k (atype := .int) (a0 := (10, .inl (fun _ => 0))) hx hb (hts (.arrayClass .int) (by decide +kernel)) rfl hK hP hD hS hA 1 rfl (cell_i rfl) (by decide) (nI_clamp (n := 10) (by decide)) (cb_int (by decide)) (show 1 + 1 ≤ 8 from by decide) (show 10 + 10 ≤ 162 from by decide) dX1_init_20 (fun q2 H hP hD hS => ?_)
  have hP : va_P (dC, dI) vwCl ((h0, .inr (1, [.ref x, .ref q1, .null, .null, .null, .null, .null, .null, .null, .int 0, .int 0, .int 0, .int 0])) :: (q1, .inl (cI, 10, .inl (fun _ => 0))) :: (q2, .inl (cI, 10, .inl (fun _ => 0))) :: []) H := hP
  have hD : va_D A ((h0, .inr (1, [.ref x, .ref q1, .null, .null, .null, .null, .null, .null, .null, .int 0, .int 0, .int 0, .int 0])) :: (q1, .inl (cI, 10, .inl (fun _ => 0))) :: (q2, .inl (cI, 10, .inl (fun _ => 0))) :: []) := hD
  refine W.widen (k := 2) (n := 20) (Nat.le_refl _) (Nat.le_refl _) ?_
  refine va_putF (D := (dC, dI)) (ci := 1) (v := .ref q2) (ty := .array .int) (C := RX1) (T := TX1) (N := 13) hx hb hts (fun _ h => List.mem_cons_of_mem _ (List.mem_append_right _ h)) tyX1 tyX1_ok nmX1 hown hK hP hD hS 0 rfl rfl 2 (by decide) (hts (.fieldLink RX1 19 "WhistledWords$Land" "ys" "[I") (by decide +kernel)) (fun _ h9 => h9) rfl hin rfl (by decide +kernel) rfl rfl (Nat.le_of_ble_eq_true rfl) dX1_init_22 (fun H locs hP hD hS => ?_)
  have hP : va_P (dC, dI) vwCl ((h0, .inr (1, [.ref x, .ref q1, .ref q2, .null, .null, .null, .null, .null, .null, .int 0, .int 0, .int 0, .int 0])) :: (q1, .inl (cI, 10, .inl (fun _ => 0))) :: (q2, .inl (cI, 10, .inl (fun _ => 0))) :: []) H := hP
  have hD : va_D A ((h0, .inr (1, [.ref x, .ref q1, .ref q2, .null, .null, .null, .null, .null, .null, .int 0, .int 0, .int 0, .int 0])) :: (q1, .inl (cI, 10, .inl (fun _ => 0))) :: (q2, .inl (cI, 10, .inl (fun _ => 0))) :: []) := hD
  refine lv_aload_n hx hb dX1_init_25 rfl (lv_at hl 0 rfl) ?_
  refine lv_bipush (v := 10) hx hb dX1_init_26 (by decide) ?_
  refine na_k (atype := .int) (a0 := (10, .inl (fun _ => 0))) hx hb (hts (.arrayClass .int) (by decide +kernel)) rfl hK hP hD hS hA 1 rfl (cell_i rfl) (by decide) (nI_clamp (n := 10) (by decide)) (cb_int (by decide)) (show 2 + 1 ≤ 8 from by decide) (show 20 + 10 ≤ 162 from by decide) dX1_init_28 (fun q3 H hP hD hS => ?_)
  have hP : va_P (dC, dI) vwCl ((h0, .inr (1, [.ref x, .ref q1, .ref q2, .null, .null, .null, .null, .null, .null, .int 0, .int 0, .int 0, .int 0])) :: (q1, .inl (cI, 10, .inl (fun _ => 0))) :: (q2, .inl (cI, 10, .inl (fun _ => 0))) :: (q3, .inl (cI, 10, .inl (fun _ => 0))) :: []) H := hP
  have hD : va_D A ((h0, .inr (1, [.ref x, .ref q1, .ref q2, .null, .null, .null, .null, .null, .null, .int 0, .int 0, .int 0, .int 0])) :: (q1, .inl (cI, 10, .inl (fun _ => 0))) :: (q2, .inl (cI, 10, .inl (fun _ => 0))) :: (q3, .inl (cI, 10, .inl (fun _ => 0))) :: []) := hD
  refine W.widen (k := 3) (n := 30) (Nat.le_refl _) (Nat.le_refl _) ?_
  refine va_putF (D := (dC, dI)) (ci := 1) (v := .ref q3) (ty := .array .int) (C := RX1) (T := TX1) (N := 13) hx hb hts (fun _ h => List.mem_cons_of_mem _ (List.mem_append_right _ h)) tyX1 tyX1_ok nmX1 hown hK hP hD hS 0 rfl rfl 3 (by decide) (hts (.fieldLink RX1 22 "WhistledWords$Land" "heights" "[I") (by decide +kernel)) (fun _ h9 => h9) rfl hin rfl (by decide +kernel) rfl rfl (Nat.le_of_ble_eq_true rfl) dX1_init_30 (fun H locs hP hD hS => ?_)
  have hP : va_P (dC, dI) vwCl ((h0, .inr (1, [.ref x, .ref q1, .ref q2, .ref q3, .null, .null, .null, .null, .null, .int 0, .int 0, .int 0, .int 0])) :: (q1, .inl (cI, 10, .inl (fun _ => 0))) :: (q2, .inl (cI, 10, .inl (fun _ => 0))) :: (q3, .inl (cI, 10, .inl (fun _ => 0))) :: []) H := hP
  have hD : va_D A ((h0, .inr (1, [.ref x, .ref q1, .ref q2, .ref q3, .null, .null, .null, .null, .null, .int 0, .int 0, .int 0, .int 0])) :: (q1, .inl (cI, 10, .inl (fun _ => 0))) :: (q2, .inl (cI, 10, .inl (fun _ => 0))) :: (q3, .inl (cI, 10, .inl (fun _ => 0))) :: []) := hD
  refine lv_aload_n hx hb dX1_init_33 rfl (lv_at hl 0 rfl) ?_
  refine lv_bipush (v := 6) hx hb dX1_init_34 (by decide) ?_
  refine na_k (atype := .int) (a0 := (6, .inl (fun _ => 0))) hx hb (hts (.arrayClass .int) (by decide +kernel)) rfl hK hP hD hS hA 1 rfl (cell_i rfl) (by decide) (nI_clamp (n := 6) (by decide)) (cb_int (by decide)) (show 3 + 1 ≤ 8 from by decide) (show 30 + 6 ≤ 162 from by decide) dX1_init_36 (fun q4 H hP hD hS => ?_)
  have hP : va_P (dC, dI) vwCl ((h0, .inr (1, [.ref x, .ref q1, .ref q2, .ref q3, .null, .null, .null, .null, .null, .int 0, .int 0, .int 0, .int 0])) :: (q1, .inl (cI, 10, .inl (fun _ => 0))) :: (q2, .inl (cI, 10, .inl (fun _ => 0))) :: (q3, .inl (cI, 10, .inl (fun _ => 0))) :: (q4, .inl (cI, 6, .inl (fun _ => 0))) :: []) H := hP
  have hD : va_D A ((h0, .inr (1, [.ref x, .ref q1, .ref q2, .ref q3, .null, .null, .null, .null, .null, .int 0, .int 0, .int 0, .int 0])) :: (q1, .inl (cI, 10, .inl (fun _ => 0))) :: (q2, .inl (cI, 10, .inl (fun _ => 0))) :: (q3, .inl (cI, 10, .inl (fun _ => 0))) :: (q4, .inl (cI, 6, .inl (fun _ => 0))) :: []) := hD
  refine W.widen (k := 4) (n := 36) (Nat.le_refl _) (Nat.le_refl _) ?_
  refine va_putF (D := (dC, dI)) (ci := 1) (v := .ref q4) (ty := .array .int) (C := RX1) (T := TX1) (N := 13) hx hb hts (fun _ h => List.mem_cons_of_mem _ (List.mem_append_right _ h)) tyX1 tyX1_ok nmX1 hown hK hP hD hS 0 rfl rfl 4 (by decide) (hts (.fieldLink RX1 25 "WhistledWords$Land" "ridgeXs" "[I") (by decide +kernel)) (fun _ h9 => h9) rfl hin rfl (by decide +kernel) rfl rfl (Nat.le_of_ble_eq_true rfl) dX1_init_38 (fun H locs hP hD hS => ?_)
  have hP : va_P (dC, dI) vwCl ((h0, .inr (1, [.ref x, .ref q1, .ref q2, .ref q3, .ref q4, .null, .null, .null, .null, .int 0, .int 0, .int 0, .int 0])) :: (q1, .inl (cI, 10, .inl (fun _ => 0))) :: (q2, .inl (cI, 10, .inl (fun _ => 0))) :: (q3, .inl (cI, 10, .inl (fun _ => 0))) :: (q4, .inl (cI, 6, .inl (fun _ => 0))) :: []) H := hP
  have hD : va_D A ((h0, .inr (1, [.ref x, .ref q1, .ref q2, .ref q3, .ref q4, .null, .null, .null, .null, .int 0, .int 0, .int 0, .int 0])) :: (q1, .inl (cI, 10, .inl (fun _ => 0))) :: (q2, .inl (cI, 10, .inl (fun _ => 0))) :: (q3, .inl (cI, 10, .inl (fun _ => 0))) :: (q4, .inl (cI, 6, .inl (fun _ => 0))) :: []) := hD
  refine lv_aload_n hx hb dX1_init_41 rfl (lv_at hl 0 rfl) ?_
  refine lv_bipush (v := 6) hx hb dX1_init_42 (by decide) ?_
  refine na_k (atype := .int) (a0 := (6, .inl (fun _ => 0))) hx hb (hts (.arrayClass .int) (by decide +kernel)) rfl hK hP hD hS hA 1 rfl (cell_i rfl) (by decide) (nI_clamp (n := 6) (by decide)) (cb_int (by decide)) (show 4 + 1 ≤ 8 from by decide) (show 36 + 6 ≤ 162 from by decide) dX1_init_44 (fun q5 H hP hD hS => ?_)
  have hP : va_P (dC, dI) vwCl ((h0, .inr (1, [.ref x, .ref q1, .ref q2, .ref q3, .ref q4, .null, .null, .null, .null, .int 0, .int 0, .int 0, .int 0])) :: (q1, .inl (cI, 10, .inl (fun _ => 0))) :: (q2, .inl (cI, 10, .inl (fun _ => 0))) :: (q3, .inl (cI, 10, .inl (fun _ => 0))) :: (q4, .inl (cI, 6, .inl (fun _ => 0))) :: (q5, .inl (cI, 6, .inl (fun _ => 0))) :: []) H := hP
  have hD : va_D A ((h0, .inr (1, [.ref x, .ref q1, .ref q2, .ref q3, .ref q4, .null, .null, .null, .null, .int 0, .int 0, .int 0, .int 0])) :: (q1, .inl (cI, 10, .inl (fun _ => 0))) :: (q2, .inl (cI, 10, .inl (fun _ => 0))) :: (q3, .inl (cI, 10, .inl (fun _ => 0))) :: (q4, .inl (cI, 6, .inl (fun _ => 0))) :: (q5, .inl (cI, 6, .inl (fun _ => 0))) :: []) := hD
  refine W.widen (k := 5) (n := 42) (Nat.le_refl _) (Nat.le_refl _) ?_
  refine va_putF (D := (dC, dI)) (ci := 1) (v := .ref q5) (ty := .array .int) (C := RX1) (T := TX1) (N := 13) hx hb hts (fun _ h => List.mem_cons_of_mem _ (List.mem_append_right _ h)) tyX1 tyX1_ok nmX1 hown hK hP hD hS 0 rfl rfl 5 (by decide) (hts (.fieldLink RX1 28 "WhistledWords$Land" "ridgeHeights" "[I") (by decide +kernel)) (fun _ h9 => h9) rfl hin rfl (by decide +kernel) rfl rfl (Nat.le_of_ble_eq_true rfl) dX1_init_46 (fun H locs hP hD hS => ?_)
  have hP : va_P (dC, dI) vwCl ((h0, .inr (1, [.ref x, .ref q1, .ref q2, .ref q3, .ref q4, .ref q5, .null, .null, .null, .int 0, .int 0, .int 0, .int 0])) :: (q1, .inl (cI, 10, .inl (fun _ => 0))) :: (q2, .inl (cI, 10, .inl (fun _ => 0))) :: (q3, .inl (cI, 10, .inl (fun _ => 0))) :: (q4, .inl (cI, 6, .inl (fun _ => 0))) :: (q5, .inl (cI, 6, .inl (fun _ => 0))) :: []) H := hP
  have hD : va_D A ((h0, .inr (1, [.ref x, .ref q1, .ref q2, .ref q3, .ref q4, .ref q5, .null, .null, .null, .int 0, .int 0, .int 0, .int 0])) :: (q1, .inl (cI, 10, .inl (fun _ => 0))) :: (q2, .inl (cI, 10, .inl (fun _ => 0))) :: (q3, .inl (cI, 10, .inl (fun _ => 0))) :: (q4, .inl (cI, 6, .inl (fun _ => 0))) :: (q5, .inl (cI, 6, .inl (fun _ => 0))) :: []) := hD
  refine lv_aload_n hx hb dX1_init_49 rfl (lv_at hl 0 rfl) ?_
  refine lv_bipush (v := 10) hx hb dX1_init_50 (by decide) ?_
  refine na_k (atype := .int) (a0 := (10, .inl (fun _ => 0))) hx hb (hts (.arrayClass .int) (by decide +kernel)) rfl hK hP hD hS hA 1 rfl (cell_i rfl) (by decide) (nI_clamp (n := 10) (by decide)) (cb_int (by decide)) (show 5 + 1 ≤ 8 from by decide) (show 42 + 10 ≤ 162 from by decide) dX1_init_52 (fun q6 H hP hD hS => ?_)
  have hP : va_P (dC, dI) vwCl ((h0, .inr (1, [.ref x, .ref q1, .ref q2, .ref q3, .ref q4, .ref q5, .null, .null, .null, .int 0, .int 0, .int 0, .int 0])) :: (q1, .inl (cI, 10, .inl (fun _ => 0))) :: (q2, .inl (cI, 10, .inl (fun _ => 0))) :: (q3, .inl (cI, 10, .inl (fun _ => 0))) :: (q4, .inl (cI, 6, .inl (fun _ => 0))) :: (q5, .inl (cI, 6, .inl (fun _ => 0))) :: (q6, .inl (cI, 10, .inl (fun _ => 0))) :: []) H := hP
  have hD : va_D A ((h0, .inr (1, [.ref x, .ref q1, .ref q2, .ref q3, .ref q4, .ref q5, .null, .null, .null, .int 0, .int 0, .int 0, .int 0])) :: (q1, .inl (cI, 10, .inl (fun _ => 0))) :: (q2, .inl (cI, 10, .inl (fun _ => 0))) :: (q3, .inl (cI, 10, .inl (fun _ => 0))) :: (q4, .inl (cI, 6, .inl (fun _ => 0))) :: (q5, .inl (cI, 6, .inl (fun _ => 0))) :: (q6, .inl (cI, 10, .inl (fun _ => 0))) :: []) := hD
  refine W.widen (k := 6) (n := 52) (Nat.le_refl _) (Nat.le_refl _) ?_
  refine va_putF (D := (dC, dI)) (ci := 1) (v := .ref q6) (ty := .array .int) (C := RX1) (T := TX1) (N := 13) hx hb hts (fun _ h => List.mem_cons_of_mem _ (List.mem_append_right _ h)) tyX1 tyX1_ok nmX1 hown hK hP hD hS 0 rfl rfl 6 (by decide) (hts (.fieldLink RX1 31 "WhistledWords$Land" "way" "[I") (by decide +kernel)) (fun _ h9 => h9) rfl hin rfl (by decide +kernel) rfl rfl (Nat.le_of_ble_eq_true rfl) dX1_init_54 (fun H locs hP hD hS => ?_)
  have hP : va_P (dC, dI) vwCl ((h0, .inr (1, [.ref x, .ref q1, .ref q2, .ref q3, .ref q4, .ref q5, .ref q6, .null, .null, .int 0, .int 0, .int 0, .int 0])) :: (q1, .inl (cI, 10, .inl (fun _ => 0))) :: (q2, .inl (cI, 10, .inl (fun _ => 0))) :: (q3, .inl (cI, 10, .inl (fun _ => 0))) :: (q4, .inl (cI, 6, .inl (fun _ => 0))) :: (q5, .inl (cI, 6, .inl (fun _ => 0))) :: (q6, .inl (cI, 10, .inl (fun _ => 0))) :: []) H := hP
  have hD : va_D A ((h0, .inr (1, [.ref x, .ref q1, .ref q2, .ref q3, .ref q4, .ref q5, .ref q6, .null, .null, .int 0, .int 0, .int 0, .int 0])) :: (q1, .inl (cI, 10, .inl (fun _ => 0))) :: (q2, .inl (cI, 10, .inl (fun _ => 0))) :: (q3, .inl (cI, 10, .inl (fun _ => 0))) :: (q4, .inl (cI, 6, .inl (fun _ => 0))) :: (q5, .inl (cI, 6, .inl (fun _ => 0))) :: (q6, .inl (cI, 10, .inl (fun _ => 0))) :: []) := hD
  refine lv_aload_n hx hb dX1_init_57 rfl (lv_at hl 0 rfl) ?_
  refine lv_bipush (v := 100) hx hb dX1_init_58 (by decide) ?_
  refine na_k (atype := .int) (a0 := (100, .inl (fun _ => 0))) hx hb (hts (.arrayClass .int) (by decide +kernel)) rfl hK hP hD hS hA 1 rfl (cell_i rfl) (by decide) (nI_clamp (n := 100) (by decide)) (cb_int (by decide)) (show 6 + 1 ≤ 8 from by decide) (show 52 + 100 ≤ 162 from by decide) dX1_init_60 (fun q7 H hP hD hS => ?_)
  have hP : va_P (dC, dI) vwCl ((h0, .inr (1, [.ref x, .ref q1, .ref q2, .ref q3, .ref q4, .ref q5, .ref q6, .null, .null, .int 0, .int 0, .int 0, .int 0])) :: (q1, .inl (cI, 10, .inl (fun _ => 0))) :: (q2, .inl (cI, 10, .inl (fun _ => 0))) :: (q3, .inl (cI, 10, .inl (fun _ => 0))) :: (q4, .inl (cI, 6, .inl (fun _ => 0))) :: (q5, .inl (cI, 6, .inl (fun _ => 0))) :: (q6, .inl (cI, 10, .inl (fun _ => 0))) :: (q7, .inl (cI, 100, .inl (fun _ => 0))) :: []) H := hP
  have hD : va_D A ((h0, .inr (1, [.ref x, .ref q1, .ref q2, .ref q3, .ref q4, .ref q5, .ref q6, .null, .null, .int 0, .int 0, .int 0, .int 0])) :: (q1, .inl (cI, 10, .inl (fun _ => 0))) :: (q2, .inl (cI, 10, .inl (fun _ => 0))) :: (q3, .inl (cI, 10, .inl (fun _ => 0))) :: (q4, .inl (cI, 6, .inl (fun _ => 0))) :: (q5, .inl (cI, 6, .inl (fun _ => 0))) :: (q6, .inl (cI, 10, .inl (fun _ => 0))) :: (q7, .inl (cI, 100, .inl (fun _ => 0))) :: []) := hD
  refine W.widen (k := 7) (n := 152) (Nat.le_refl _) (Nat.le_refl _) ?_
  refine va_putF (D := (dC, dI)) (ci := 1) (v := .ref q7) (ty := .array .int) (C := RX1) (T := TX1) (N := 13) hx hb hts (fun _ h => List.mem_cons_of_mem _ (List.mem_append_right _ h)) tyX1 tyX1_ok nmX1 hown hK hP hD hS 0 rfl rfl 7 (by decide) (hts (.fieldLink RX1 34 "WhistledWords$Land" "blurs" "[I") (by decide +kernel)) (fun _ h9 => h9) rfl hin rfl (by decide +kernel) rfl rfl (Nat.le_of_ble_eq_true rfl) dX1_init_62 (fun H locs hP hD hS => ?_)
  have hP : va_P (dC, dI) vwCl ((h0, .inr (1, [.ref x, .ref q1, .ref q2, .ref q3, .ref q4, .ref q5, .ref q6, .ref q7, .null, .int 0, .int 0, .int 0, .int 0])) :: (q1, .inl (cI, 10, .inl (fun _ => 0))) :: (q2, .inl (cI, 10, .inl (fun _ => 0))) :: (q3, .inl (cI, 10, .inl (fun _ => 0))) :: (q4, .inl (cI, 6, .inl (fun _ => 0))) :: (q5, .inl (cI, 6, .inl (fun _ => 0))) :: (q6, .inl (cI, 10, .inl (fun _ => 0))) :: (q7, .inl (cI, 100, .inl (fun _ => 0))) :: []) H := hP
  have hD : va_D A ((h0, .inr (1, [.ref x, .ref q1, .ref q2, .ref q3, .ref q4, .ref q5, .ref q6, .ref q7, .null, .int 0, .int 0, .int 0, .int 0])) :: (q1, .inl (cI, 10, .inl (fun _ => 0))) :: (q2, .inl (cI, 10, .inl (fun _ => 0))) :: (q3, .inl (cI, 10, .inl (fun _ => 0))) :: (q4, .inl (cI, 6, .inl (fun _ => 0))) :: (q5, .inl (cI, 6, .inl (fun _ => 0))) :: (q6, .inl (cI, 10, .inl (fun _ => 0))) :: (q7, .inl (cI, 100, .inl (fun _ => 0))) :: []) := hD
  refine lv_aload_n hx hb dX1_init_65 rfl (lv_at hl 0 rfl) ?_
  refine lv_bipush (v := 10) hx hb dX1_init_66 (by decide) ?_
  refine na_k (atype := .int) (a0 := (10, .inl (fun _ => 0))) hx hb (hts (.arrayClass .int) (by decide +kernel)) rfl hK hP hD hS hA 1 rfl (cell_i rfl) (by decide) (nI_clamp (n := 10) (by decide)) (cb_int (by decide)) (show 7 + 1 ≤ 8 from by decide) (show 152 + 10 ≤ 162 from by decide) dX1_init_68 (fun q8 H hP hD hS => ?_)
  have hP : va_P (dC, dI) vwCl ((h0, .inr (1, [.ref x, .ref q1, .ref q2, .ref q3, .ref q4, .ref q5, .ref q6, .ref q7, .null, .int 0, .int 0, .int 0, .int 0])) :: (q1, .inl (cI, 10, .inl (fun _ => 0))) :: (q2, .inl (cI, 10, .inl (fun _ => 0))) :: (q3, .inl (cI, 10, .inl (fun _ => 0))) :: (q4, .inl (cI, 6, .inl (fun _ => 0))) :: (q5, .inl (cI, 6, .inl (fun _ => 0))) :: (q6, .inl (cI, 10, .inl (fun _ => 0))) :: (q7, .inl (cI, 100, .inl (fun _ => 0))) :: (q8, .inl (cI, 10, .inl (fun _ => 0))) :: []) H := hP
  have hD : va_D A ((h0, .inr (1, [.ref x, .ref q1, .ref q2, .ref q3, .ref q4, .ref q5, .ref q6, .ref q7, .null, .int 0, .int 0, .int 0, .int 0])) :: (q1, .inl (cI, 10, .inl (fun _ => 0))) :: (q2, .inl (cI, 10, .inl (fun _ => 0))) :: (q3, .inl (cI, 10, .inl (fun _ => 0))) :: (q4, .inl (cI, 6, .inl (fun _ => 0))) :: (q5, .inl (cI, 6, .inl (fun _ => 0))) :: (q6, .inl (cI, 10, .inl (fun _ => 0))) :: (q7, .inl (cI, 100, .inl (fun _ => 0))) :: (q8, .inl (cI, 10, .inl (fun _ => 0))) :: []) := hD
  refine W.widen (k := 8) (n := 162) (Nat.le_refl _) (Nat.le_refl _) ?_
  refine va_putF (D := (dC, dI)) (ci := 1) (v := .ref q8) (ty := .array .int) (C := RX1) (T := TX1) (N := 13) hx hb hts (fun _ h => List.mem_cons_of_mem _ (List.mem_append_right _ h)) tyX1 tyX1_ok nmX1 hown hK hP hD hS 0 rfl rfl 8 (by decide) (hts (.fieldLink RX1 37 "WhistledWords$Land" "steps" "[I") (by decide +kernel)) (fun _ h9 => h9) rfl hin rfl (by decide +kernel) rfl rfl (Nat.le_of_ble_eq_true rfl) dX1_init_70 (fun H locs hP hD hS => ?_)
  have hP : va_P (dC, dI) vwCl ((h0, .inr (1, [.ref x, .ref q1, .ref q2, .ref q3, .ref q4, .ref q5, .ref q6, .ref q7, .ref q8, .int 0, .int 0, .int 0, .int 0])) :: (q1, .inl (cI, 10, .inl (fun _ => 0))) :: (q2, .inl (cI, 10, .inl (fun _ => 0))) :: (q3, .inl (cI, 10, .inl (fun _ => 0))) :: (q4, .inl (cI, 6, .inl (fun _ => 0))) :: (q5, .inl (cI, 6, .inl (fun _ => 0))) :: (q6, .inl (cI, 10, .inl (fun _ => 0))) :: (q7, .inl (cI, 100, .inl (fun _ => 0))) :: (q8, .inl (cI, 10, .inl (fun _ => 0))) :: []) H := hP
  have hD : va_D A ((h0, .inr (1, [.ref x, .ref q1, .ref q2, .ref q3, .ref q4, .ref q5, .ref q6, .ref q7, .ref q8, .int 0, .int 0, .int 0, .int 0])) :: (q1, .inl (cI, 10, .inl (fun _ => 0))) :: (q2, .inl (cI, 10, .inl (fun _ => 0))) :: (q3, .inl (cI, 10, .inl (fun _ => 0))) :: (q4, .inl (cI, 6, .inl (fun _ => 0))) :: (q5, .inl (cI, 6, .inl (fun _ => 0))) :: (q6, .inl (cI, 10, .inl (fun _ => 0))) :: (q7, .inl (cI, 100, .inl (fun _ => 0))) :: (q8, .inl (cI, 10, .inl (fun _ => 0))) :: []) := hD
  exact W.vret hx hb hr (fun t ht hW => ⟨⟨(), rfl, trivial, (fun k => [h0, q1, q2, q3, q4, q5, q6, q7, q8].getD k 0), rfl, by rw [ht]; exact hP, va_K.moved hW.alike hK, hD⟩, hS.F ht⟩) hS.2.2 dX1_init_73 hlocks
def wfX0 (cB cI cJ cZ : ClassId) (x : Nat) (b : Nat → Nat) : va_W := ((b 0, .inr (0, [.ref x, .ref (b 1), .ref (b 2), .ref (b 3), .ref (b 4), .ref (b 5), .ref (b 6), .ref (b 7), .int 0])) :: (b 1, .inl (cI, 30, .inl (fun _ => 0))) :: (b 2, .inl (cI, 30, .inl (fun _ => 0))) :: (b 3, .inl (cI, 30, .inl (fun _ => 0))) :: (b 4, .inl (cI, 30, .inl (fun _ => 0))) :: (b 5, .inl (cI, 30, .inl (fun _ => 0))) :: (b 6, .inl (cZ, 30, .inl (fun _ => 0))) :: (b 7, .inl (cI, 30, .inl (fun _ => 0))) :: [])
set_option maxHeartbeats 4000000 in
set_option maxRecDepth 100000 in
theorem kX0_init (l : Launch) (n : Nat) (hn : 1000 ≤ n) (dC : Nat → ClassId) (dI : Nat → Nat → Nat) (cB cI cJ cZ : ClassId) (h0 sz : Nat) (x : Nat) : Met l yX0_init wsX0_init ({ frames := 1, cells := 7, slots := 210, locals := 12 }) (gP (dC, dI) (tyz cB cI cJ cZ) E_0 [(h0, .inr (0, [.null, .null, .null, .null, .null, .null, .null, .null, .int 0]))] sz [.ref h0, .ref x]) (gN (dC, dI) (tyz cB cI cJ cZ) (wfX0 cB cI cJ cZ x) h0 (va_A [(h0, .inr (0, [.null, .null, .null, .null, .null, .null, .null, .null, .int 0]))] sz)) 7 210 (va_A [(h0, .inr (0, [.null, .null, .null, .null, .null, .null, .null, .null, .int 0]))] sz) := by
  refine Met.ofW (cc := cX0_init) (maxL := 2) (ret := none) (by decide) rfl ?_
  intro p e s m args below meth c s₁ B hml hv
  obtain ⟨rfl, hsz, hP, hK, hD0, hE⟩ := hv
  have hx := B.exec
  have hb := B.bytes
  have hr := B.returns
  have hts := atoms_spec (ws := wsX0_init) B.pre
  have hown : s.vm.findClass RX0 = some m.cls := findClass_of_methodNamed B.named
  have hlocks := B.notSynchronized
  have hin : meth.name = "<init>" := (name_of_methodNamed B.named B.method).1
  subst hsz
  have hD := hD0.self (sz := s.heap.size)
  have hA : ∀ q : Nat, s.heap.size ≤ q → va_A [(h0, .inr (0, [.null, .null, .null, .null, .null, .null, .null, .null, .int 0]))] s.heap.size q := fun q h => Or.inr h
  generalize va_A [(h0, .inr (0, [.null, .null, .null, .null, .null, .null, .null, .null, .int 0]))] s.heap.size = A at hD hA hE ⊢
  have hS : va_S A s.heap s.heap [] := va_S.rf
  have hl := lv_entry ([.ref h0, .ref x]) (n := 2) (Nat.le_of_ble_eq_true rfl)
  rw [lg_entry_eq]
  generalize (lg_sl ([.ref h0, .ref x]) ++ List.replicate (2 - (lg_sl ([.ref h0, .ref x])).length) Slot.unset).toArray = ls at hl ⊢
  have hl : lv_has ls 2 [(0, .ref h0), (1, .ref x)] := hl
  refine lv_aload_n hx hb dX0_init_0 rfl (lv_at hl 0 rfl) ?_
  refine W.objInit hx hb hown (hts (.methodLink RX0 3 objectInit) (by decide +kernel)) (hts (.instanceMethod objectInit) (by decide +kernel)) (hts (.code objectInit ⟨#[0xb1]⟩ 1 none) (List.mem_of_getElem? (i := 3) rfl)) rfl (by rw [hml]; exact hl.1) rfl dX0_init_1 (Nat.le_of_ble_eq_true rfl) (Nat.le_of_ble_eq_true rfl) ?_
  refine W.eq (g2 := F0 m 4 ls []) rfl ?_
  refine lv_aload_n hx hb dX0_init_4 rfl (lv_at hl 0 rfl) ?_
  refine lv_aload_n hx hb dX0_init_5 rfl (lv_at hl 1 rfl) ?_
  refine va_putF (D := (dC, dI)) (ci := 0) (v := .ref x) (ty := .object "WhistledWords$Land") (C := RX0) (T := TX0) (N := 9) hx hb hts (fun _ h => List.mem_cons_of_mem _ (List.mem_append_right _ h)) tyX0 tyX0_ok nmX0 hown hK hP hD hS 0 rfl rfl 0 (by decide) (hts (.fieldLink RX0 9 "WhistledWords$Book" "land" "LWhistledWords$Land;") (by decide +kernel)) (fun _ h9 => h9) rfl hin rfl (by decide +kernel) rfl rfl (Nat.le_of_ble_eq_true rfl) dX0_init_6 (fun H locs hP hD hS => ?_)
  have hP : va_P (dC, dI) vwCl ((h0, .inr (0, [.ref x, .null, .null, .null, .null, .null, .null, .null, .int 0])) :: []) H := hP
  have hD : va_D A ((h0, .inr (0, [.ref x, .null, .null, .null, .null, .null, .null, .null, .int 0])) :: []) := hD
  refine lv_aload_n hx hb dX0_init_9 rfl (lv_at hl 0 rfl) ?_
  refine lv_bipush (v := 30) hx hb dX0_init_10 (by decide) ?_
  refine na_k (atype := .int) (a0 := (30, .inl (fun _ => 0))) hx hb (hts (.arrayClass .int) (by decide +kernel)) rfl hK hP hD hS hA 1 rfl (cell_i rfl) (by decide) (nI_clamp (n := 30) (by decide)) (cb_int (by decide)) (show 0 + 1 ≤ 7 from by decide) (show 0 + 30 ≤ 210 from by decide) dX0_init_12 (fun q1 H hP hD hS => ?_)
  have hP : va_P (dC, dI) vwCl ((h0, .inr (0, [.ref x, .null, .null, .null, .null, .null, .null, .null, .int 0])) :: (q1, .inl (cI, 30, .inl (fun _ => 0))) :: []) H := hP
  have hD : va_D A ((h0, .inr (0, [.ref x, .null, .null, .null, .null, .null, .null, .null, .int 0])) :: (q1, .inl (cI, 30, .inl (fun _ => 0))) :: []) := hD
  refine W.widen (k := 1) (n := 30) (Nat.le_refl _) (Nat.le_refl _) ?_
  refine va_putF (D := (dC, dI)) (ci := 0) (v := .ref q1) (ty := .array .int) (C := RX0) (T := TX0) (N := 9) hx hb hts (fun _ h => List.mem_cons_of_mem _ (List.mem_append_right _ h)) tyX0 tyX0_ok nmX0 hown hK hP hD hS 0 rfl rfl 1 (by decide) (hts (.fieldLink RX0 15 "WhistledWords$Book" "times" "[I") (by decide +kernel)) (fun _ h9 => h9) rfl hin rfl (by decide +kernel) rfl rfl (Nat.le_of_ble_eq_true rfl) dX0_init_14 (fun H locs hP hD hS => ?_)
  have hP : va_P (dC, dI) vwCl ((h0, .inr (0, [.ref x, .ref q1, .null, .null, .null, .null, .null, .null, .int 0])) :: (q1, .inl (cI, 30, .inl (fun _ => 0))) :: []) H := hP
  have hD : va_D A ((h0, .inr (0, [.ref x, .ref q1, .null, .null, .null, .null, .null, .null, .int 0])) :: (q1, .inl (cI, 30, .inl (fun _ => 0))) :: []) := hD
  refine lv_aload_n hx hb dX0_init_17 rfl (lv_at hl 0 rfl) ?_
  refine lv_bipush (v := 30) hx hb dX0_init_18 (by decide) ?_
  refine na_k (atype := .int) (a0 := (30, .inl (fun _ => 0))) hx hb (hts (.arrayClass .int) (by decide +kernel)) rfl hK hP hD hS hA 1 rfl (cell_i rfl) (by decide) (nI_clamp (n := 30) (by decide)) (cb_int (by decide)) (show 1 + 1 ≤ 7 from by decide) (show 30 + 30 ≤ 210 from by decide) dX0_init_20 (fun q2 H hP hD hS => ?_)
  have hP : va_P (dC, dI) vwCl ((h0, .inr (0, [.ref x, .ref q1, .null, .null, .null, .null, .null, .null, .int 0])) :: (q1, .inl (cI, 30, .inl (fun _ => 0))) :: (q2, .inl (cI, 30, .inl (fun _ => 0))) :: []) H := hP
  have hD : va_D A ((h0, .inr (0, [.ref x, .ref q1, .null, .null, .null, .null, .null, .null, .int 0])) :: (q1, .inl (cI, 30, .inl (fun _ => 0))) :: (q2, .inl (cI, 30, .inl (fun _ => 0))) :: []) := hD
  refine W.widen (k := 2) (n := 60) (Nat.le_refl _) (Nat.le_refl _) ?_
  refine va_putF (D := (dC, dI)) (ci := 0) (v := .ref q2) (ty := .array .int) (C := RX0) (T := TX0) (N := 9) hx hb hts (fun _ h => List.mem_cons_of_mem _ (List.mem_append_right _ h)) tyX0 tyX0_ok nmX0 hown hK hP hD hS 0 rfl rfl 2 (by decide) (hts (.fieldLink RX0 19 "WhistledWords$Book" "froms" "[I") (by decide +kernel)) (fun _ h9 => h9) rfl hin rfl (by decide +kernel) rfl rfl (Nat.le_of_ble_eq_true rfl) dX0_init_22 (fun H locs hP hD hS => ?_)
  have hP : va_P (dC, dI) vwCl ((h0, .inr (0, [.ref x, .ref q1, .ref q2, .null, .null, .null, .null, .null, .int 0])) :: (q1, .inl (cI, 30, .inl (fun _ => 0))) :: (q2, .inl (cI, 30, .inl (fun _ => 0))) :: []) H := hP
  have hD : va_D A ((h0, .inr (0, [.ref x, .ref q1, .ref q2, .null, .null, .null, .null, .null, .int 0])) :: (q1, .inl (cI, 30, .inl (fun _ => 0))) :: (q2, .inl (cI, 30, .inl (fun _ => 0))) :: []) := hD
  refine lv_aload_n hx hb dX0_init_25 rfl (lv_at hl 0 rfl) ?_
  refine lv_bipush (v := 30) hx hb dX0_init_26 (by decide) ?_
  refine na_k (atype := .int) (a0 := (30, .inl (fun _ => 0))) hx hb (hts (.arrayClass .int) (by decide +kernel)) rfl hK hP hD hS hA 1 rfl (cell_i rfl) (by decide) (nI_clamp (n := 30) (by decide)) (cb_int (by decide)) (show 2 + 1 ≤ 7 from by decide) (show 60 + 30 ≤ 210 from by decide) dX0_init_28 (fun q3 H hP hD hS => ?_)
  have hP : va_P (dC, dI) vwCl ((h0, .inr (0, [.ref x, .ref q1, .ref q2, .null, .null, .null, .null, .null, .int 0])) :: (q1, .inl (cI, 30, .inl (fun _ => 0))) :: (q2, .inl (cI, 30, .inl (fun _ => 0))) :: (q3, .inl (cI, 30, .inl (fun _ => 0))) :: []) H := hP
  have hD : va_D A ((h0, .inr (0, [.ref x, .ref q1, .ref q2, .null, .null, .null, .null, .null, .int 0])) :: (q1, .inl (cI, 30, .inl (fun _ => 0))) :: (q2, .inl (cI, 30, .inl (fun _ => 0))) :: (q3, .inl (cI, 30, .inl (fun _ => 0))) :: []) := hD
  refine W.widen (k := 3) (n := 90) (Nat.le_refl _) (Nat.le_refl _) ?_
  refine va_putF (D := (dC, dI)) (ci := 0) (v := .ref q3) (ty := .array .int) (C := RX0) (T := TX0) (N := 9) hx hb hts (fun _ h => List.mem_cons_of_mem _ (List.mem_append_right _ h)) tyX0 tyX0_ok nmX0 hown hK hP hD hS 0 rfl rfl 3 (by decide) (hts (.fieldLink RX0 22 "WhistledWords$Book" "asks" "[I") (by decide +kernel)) (fun _ h9 => h9) rfl hin rfl (by decide +kernel) rfl rfl (Nat.le_of_ble_eq_true rfl) dX0_init_30 (fun H locs hP hD hS => ?_)
  have hP : va_P (dC, dI) vwCl ((h0, .inr (0, [.ref x, .ref q1, .ref q2, .ref q3, .null, .null, .null, .null, .int 0])) :: (q1, .inl (cI, 30, .inl (fun _ => 0))) :: (q2, .inl (cI, 30, .inl (fun _ => 0))) :: (q3, .inl (cI, 30, .inl (fun _ => 0))) :: []) H := hP
  have hD : va_D A ((h0, .inr (0, [.ref x, .ref q1, .ref q2, .ref q3, .null, .null, .null, .null, .int 0])) :: (q1, .inl (cI, 30, .inl (fun _ => 0))) :: (q2, .inl (cI, 30, .inl (fun _ => 0))) :: (q3, .inl (cI, 30, .inl (fun _ => 0))) :: []) := hD
  refine lv_aload_n hx hb dX0_init_33 rfl (lv_at hl 0 rfl) ?_
  refine lv_bipush (v := 30) hx hb dX0_init_34 (by decide) ?_
  refine na_k (atype := .int) (a0 := (30, .inl (fun _ => 0))) hx hb (hts (.arrayClass .int) (by decide +kernel)) rfl hK hP hD hS hA 1 rfl (cell_i rfl) (by decide) (nI_clamp (n := 30) (by decide)) (cb_int (by decide)) (show 3 + 1 ≤ 7 from by decide) (show 90 + 30 ≤ 210 from by decide) dX0_init_36 (fun q4 H hP hD hS => ?_)
  have hP : va_P (dC, dI) vwCl ((h0, .inr (0, [.ref x, .ref q1, .ref q2, .ref q3, .null, .null, .null, .null, .int 0])) :: (q1, .inl (cI, 30, .inl (fun _ => 0))) :: (q2, .inl (cI, 30, .inl (fun _ => 0))) :: (q3, .inl (cI, 30, .inl (fun _ => 0))) :: (q4, .inl (cI, 30, .inl (fun _ => 0))) :: []) H := hP
  have hD : va_D A ((h0, .inr (0, [.ref x, .ref q1, .ref q2, .ref q3, .null, .null, .null, .null, .int 0])) :: (q1, .inl (cI, 30, .inl (fun _ => 0))) :: (q2, .inl (cI, 30, .inl (fun _ => 0))) :: (q3, .inl (cI, 30, .inl (fun _ => 0))) :: (q4, .inl (cI, 30, .inl (fun _ => 0))) :: []) := hD
  refine W.widen (k := 4) (n := 120) (Nat.le_refl _) (Nat.le_refl _) ?_
  refine va_putF (D := (dC, dI)) (ci := 0) (v := .ref q4) (ty := .array .int) (C := RX0) (T := TX0) (N := 9) hx hb hts (fun _ h => List.mem_cons_of_mem _ (List.mem_append_right _ h)) tyX0 tyX0_ok nmX0 hown hK hP hD hS 0 rfl rfl 4 (by decide) (hts (.fieldLink RX0 25 "WhistledWords$Book" "words" "[I") (by decide +kernel)) (fun _ h9 => h9) rfl hin rfl (by decide +kernel) rfl rfl (Nat.le_of_ble_eq_true rfl) dX0_init_38 (fun H locs hP hD hS => ?_)
  have hP : va_P (dC, dI) vwCl ((h0, .inr (0, [.ref x, .ref q1, .ref q2, .ref q3, .ref q4, .null, .null, .null, .int 0])) :: (q1, .inl (cI, 30, .inl (fun _ => 0))) :: (q2, .inl (cI, 30, .inl (fun _ => 0))) :: (q3, .inl (cI, 30, .inl (fun _ => 0))) :: (q4, .inl (cI, 30, .inl (fun _ => 0))) :: []) H := hP
  have hD : va_D A ((h0, .inr (0, [.ref x, .ref q1, .ref q2, .ref q3, .ref q4, .null, .null, .null, .int 0])) :: (q1, .inl (cI, 30, .inl (fun _ => 0))) :: (q2, .inl (cI, 30, .inl (fun _ => 0))) :: (q3, .inl (cI, 30, .inl (fun _ => 0))) :: (q4, .inl (cI, 30, .inl (fun _ => 0))) :: []) := hD
  refine lv_aload_n hx hb dX0_init_41 rfl (lv_at hl 0 rfl) ?_
  refine lv_bipush (v := 30) hx hb dX0_init_42 (by decide) ?_
  refine na_k (atype := .int) (a0 := (30, .inl (fun _ => 0))) hx hb (hts (.arrayClass .int) (by decide +kernel)) rfl hK hP hD hS hA 1 rfl (cell_i rfl) (by decide) (nI_clamp (n := 30) (by decide)) (cb_int (by decide)) (show 4 + 1 ≤ 7 from by decide) (show 120 + 30 ≤ 210 from by decide) dX0_init_44 (fun q5 H hP hD hS => ?_)
  have hP : va_P (dC, dI) vwCl ((h0, .inr (0, [.ref x, .ref q1, .ref q2, .ref q3, .ref q4, .null, .null, .null, .int 0])) :: (q1, .inl (cI, 30, .inl (fun _ => 0))) :: (q2, .inl (cI, 30, .inl (fun _ => 0))) :: (q3, .inl (cI, 30, .inl (fun _ => 0))) :: (q4, .inl (cI, 30, .inl (fun _ => 0))) :: (q5, .inl (cI, 30, .inl (fun _ => 0))) :: []) H := hP
  have hD : va_D A ((h0, .inr (0, [.ref x, .ref q1, .ref q2, .ref q3, .ref q4, .null, .null, .null, .int 0])) :: (q1, .inl (cI, 30, .inl (fun _ => 0))) :: (q2, .inl (cI, 30, .inl (fun _ => 0))) :: (q3, .inl (cI, 30, .inl (fun _ => 0))) :: (q4, .inl (cI, 30, .inl (fun _ => 0))) :: (q5, .inl (cI, 30, .inl (fun _ => 0))) :: []) := hD
  refine W.widen (k := 5) (n := 150) (Nat.le_refl _) (Nat.le_refl _) ?_
  refine va_putF (D := (dC, dI)) (ci := 0) (v := .ref q5) (ty := .array .int) (C := RX0) (T := TX0) (N := 9) hx hb hts (fun _ h => List.mem_cons_of_mem _ (List.mem_append_right _ h)) tyX0 tyX0_ok nmX0 hown hK hP hD hS 0 rfl rfl 5 (by decide) (hts (.fieldLink RX0 28 "WhistledWords$Book" "firsts" "[I") (by decide +kernel)) (fun _ h9 => h9) rfl hin rfl (by decide +kernel) rfl rfl (Nat.le_of_ble_eq_true rfl) dX0_init_46 (fun H locs hP hD hS => ?_)
  have hP : va_P (dC, dI) vwCl ((h0, .inr (0, [.ref x, .ref q1, .ref q2, .ref q3, .ref q4, .ref q5, .null, .null, .int 0])) :: (q1, .inl (cI, 30, .inl (fun _ => 0))) :: (q2, .inl (cI, 30, .inl (fun _ => 0))) :: (q3, .inl (cI, 30, .inl (fun _ => 0))) :: (q4, .inl (cI, 30, .inl (fun _ => 0))) :: (q5, .inl (cI, 30, .inl (fun _ => 0))) :: []) H := hP
  have hD : va_D A ((h0, .inr (0, [.ref x, .ref q1, .ref q2, .ref q3, .ref q4, .ref q5, .null, .null, .int 0])) :: (q1, .inl (cI, 30, .inl (fun _ => 0))) :: (q2, .inl (cI, 30, .inl (fun _ => 0))) :: (q3, .inl (cI, 30, .inl (fun _ => 0))) :: (q4, .inl (cI, 30, .inl (fun _ => 0))) :: (q5, .inl (cI, 30, .inl (fun _ => 0))) :: []) := hD
  refine lv_aload_n hx hb dX0_init_49 rfl (lv_at hl 0 rfl) ?_
  refine lv_bipush (v := 30) hx hb dX0_init_50 (by decide) ?_
  refine na_k (atype := .boolean) (a0 := (30, .inl (fun _ => 0))) hx hb (hts (.arrayClass .boolean) (by decide +kernel)) rfl hK hP hD hS hA 3 rfl (cell_i rfl) (by decide) (nI_clamp (n := 30) (by decide)) (cb_boolean (by decide)) (show 5 + 1 ≤ 7 from by decide) (show 150 + 30 ≤ 210 from by decide) dX0_init_52 (fun q6 H hP hD hS => ?_)
  have hP : va_P (dC, dI) vwCl ((h0, .inr (0, [.ref x, .ref q1, .ref q2, .ref q3, .ref q4, .ref q5, .null, .null, .int 0])) :: (q1, .inl (cI, 30, .inl (fun _ => 0))) :: (q2, .inl (cI, 30, .inl (fun _ => 0))) :: (q3, .inl (cI, 30, .inl (fun _ => 0))) :: (q4, .inl (cI, 30, .inl (fun _ => 0))) :: (q5, .inl (cI, 30, .inl (fun _ => 0))) :: (q6, .inl (cZ, 30, .inl (fun _ => 0))) :: []) H := hP
  have hD : va_D A ((h0, .inr (0, [.ref x, .ref q1, .ref q2, .ref q3, .ref q4, .ref q5, .null, .null, .int 0])) :: (q1, .inl (cI, 30, .inl (fun _ => 0))) :: (q2, .inl (cI, 30, .inl (fun _ => 0))) :: (q3, .inl (cI, 30, .inl (fun _ => 0))) :: (q4, .inl (cI, 30, .inl (fun _ => 0))) :: (q5, .inl (cI, 30, .inl (fun _ => 0))) :: (q6, .inl (cZ, 30, .inl (fun _ => 0))) :: []) := hD
  refine W.widen (k := 6) (n := 180) (Nat.le_refl _) (Nat.le_refl _) ?_
  refine va_putF (D := (dC, dI)) (ci := 0) (v := .ref q6) (ty := .array .boolean) (C := RX0) (T := TX0) (N := 9) hx hb hts (fun _ h => List.mem_cons_of_mem _ (List.mem_append_right _ h)) tyX0 tyX0_ok nmX0 hown hK hP hD hS 0 rfl rfl 6 (by decide) (hts (.fieldLink RX0 31 "WhistledWords$Book" "lies" "[Z") (by decide +kernel)) (fun _ h9 => h9) rfl hin rfl (by decide +kernel) rfl rfl (Nat.le_of_ble_eq_true rfl) dX0_init_54 (fun H locs hP hD hS => ?_)
  have hP : va_P (dC, dI) vwCl ((h0, .inr (0, [.ref x, .ref q1, .ref q2, .ref q3, .ref q4, .ref q5, .ref q6, .null, .int 0])) :: (q1, .inl (cI, 30, .inl (fun _ => 0))) :: (q2, .inl (cI, 30, .inl (fun _ => 0))) :: (q3, .inl (cI, 30, .inl (fun _ => 0))) :: (q4, .inl (cI, 30, .inl (fun _ => 0))) :: (q5, .inl (cI, 30, .inl (fun _ => 0))) :: (q6, .inl (cZ, 30, .inl (fun _ => 0))) :: []) H := hP
  have hD : va_D A ((h0, .inr (0, [.ref x, .ref q1, .ref q2, .ref q3, .ref q4, .ref q5, .ref q6, .null, .int 0])) :: (q1, .inl (cI, 30, .inl (fun _ => 0))) :: (q2, .inl (cI, 30, .inl (fun _ => 0))) :: (q3, .inl (cI, 30, .inl (fun _ => 0))) :: (q4, .inl (cI, 30, .inl (fun _ => 0))) :: (q5, .inl (cI, 30, .inl (fun _ => 0))) :: (q6, .inl (cZ, 30, .inl (fun _ => 0))) :: []) := hD
  refine lv_aload_n hx hb dX0_init_57 rfl (lv_at hl 0 rfl) ?_
  refine lv_bipush (v := 30) hx hb dX0_init_58 (by decide) ?_
  refine na_k (atype := .int) (a0 := (30, .inl (fun _ => 0))) hx hb (hts (.arrayClass .int) (by decide +kernel)) rfl hK hP hD hS hA 1 rfl (cell_i rfl) (by decide) (nI_clamp (n := 30) (by decide)) (cb_int (by decide)) (show 6 + 1 ≤ 7 from by decide) (show 180 + 30 ≤ 210 from by decide) dX0_init_60 (fun q7 H hP hD hS => ?_)
  have hP : va_P (dC, dI) vwCl ((h0, .inr (0, [.ref x, .ref q1, .ref q2, .ref q3, .ref q4, .ref q5, .ref q6, .null, .int 0])) :: (q1, .inl (cI, 30, .inl (fun _ => 0))) :: (q2, .inl (cI, 30, .inl (fun _ => 0))) :: (q3, .inl (cI, 30, .inl (fun _ => 0))) :: (q4, .inl (cI, 30, .inl (fun _ => 0))) :: (q5, .inl (cI, 30, .inl (fun _ => 0))) :: (q6, .inl (cZ, 30, .inl (fun _ => 0))) :: (q7, .inl (cI, 30, .inl (fun _ => 0))) :: []) H := hP
  have hD : va_D A ((h0, .inr (0, [.ref x, .ref q1, .ref q2, .ref q3, .ref q4, .ref q5, .ref q6, .null, .int 0])) :: (q1, .inl (cI, 30, .inl (fun _ => 0))) :: (q2, .inl (cI, 30, .inl (fun _ => 0))) :: (q3, .inl (cI, 30, .inl (fun _ => 0))) :: (q4, .inl (cI, 30, .inl (fun _ => 0))) :: (q5, .inl (cI, 30, .inl (fun _ => 0))) :: (q6, .inl (cZ, 30, .inl (fun _ => 0))) :: (q7, .inl (cI, 30, .inl (fun _ => 0))) :: []) := hD
  refine W.widen (k := 7) (n := 210) (Nat.le_refl _) (Nat.le_refl _) ?_
  refine va_putF (D := (dC, dI)) (ci := 0) (v := .ref q7) (ty := .array .int) (C := RX0) (T := TX0) (N := 9) hx hb hts (fun _ h => List.mem_cons_of_mem _ (List.mem_append_right _ h)) tyX0 tyX0_ok nmX0 hown hK hP hD hS 0 rfl rfl 7 (by decide) (hts (.fieldLink RX0 35 "WhistledWords$Book" "held" "[I") (by decide +kernel)) (fun _ h9 => h9) rfl hin rfl (by decide +kernel) rfl rfl (Nat.le_of_ble_eq_true rfl) dX0_init_62 (fun H locs hP hD hS => ?_)
  have hP : va_P (dC, dI) vwCl ((h0, .inr (0, [.ref x, .ref q1, .ref q2, .ref q3, .ref q4, .ref q5, .ref q6, .ref q7, .int 0])) :: (q1, .inl (cI, 30, .inl (fun _ => 0))) :: (q2, .inl (cI, 30, .inl (fun _ => 0))) :: (q3, .inl (cI, 30, .inl (fun _ => 0))) :: (q4, .inl (cI, 30, .inl (fun _ => 0))) :: (q5, .inl (cI, 30, .inl (fun _ => 0))) :: (q6, .inl (cZ, 30, .inl (fun _ => 0))) :: (q7, .inl (cI, 30, .inl (fun _ => 0))) :: []) H := hP
  have hD : va_D A ((h0, .inr (0, [.ref x, .ref q1, .ref q2, .ref q3, .ref q4, .ref q5, .ref q6, .ref q7, .int 0])) :: (q1, .inl (cI, 30, .inl (fun _ => 0))) :: (q2, .inl (cI, 30, .inl (fun _ => 0))) :: (q3, .inl (cI, 30, .inl (fun _ => 0))) :: (q4, .inl (cI, 30, .inl (fun _ => 0))) :: (q5, .inl (cI, 30, .inl (fun _ => 0))) :: (q6, .inl (cZ, 30, .inl (fun _ => 0))) :: (q7, .inl (cI, 30, .inl (fun _ => 0))) :: []) := hD
  exact W.vret hx hb hr (fun t ht hW => ⟨⟨(), rfl, trivial, (fun k => [h0, q1, q2, q3, q4, q5, q6, q7].getD k 0), rfl, by rw [ht]; exact hP, va_K.moved hW.alike hK, hD⟩, hS.F ht⟩) hS.2.2 dX0_init_65 hlocks
def wfX2 (cB cI cJ cZ : ClassId) (b : Nat → Nat) : va_W := ((b 0, .inr (2, [.ref (b 1), .int 0])) :: (b 1, .inl (cI, 64, .inl (fun _ => 0))) :: [])
set_option maxHeartbeats 4000000 in
set_option maxRecDepth 100000 in
theorem kX2_init (l : Launch) (n : Nat) (hn : 1000 ≤ n) (dC : Nat → ClassId) (dI : Nat → Nat → Nat) (cB cI cJ cZ : ClassId) (h0 sz : Nat) : Met l yX2_init wsX2_init ({ frames := 1, cells := 1, slots := 64, locals := 12 }) (gP (dC, dI) (tyz cB cI cJ cZ) E_0 [(h0, .inr (2, [.null, .int 0]))] sz [.ref h0]) (gN (dC, dI) (tyz cB cI cJ cZ) (wfX2 cB cI cJ cZ) h0 (va_A [(h0, .inr (2, [.null, .int 0]))] sz)) 1 64 (va_A [(h0, .inr (2, [.null, .int 0]))] sz) := by
  refine Met.ofW (cc := cX2_init) (maxL := 1) (ret := none) (by decide) rfl ?_
  intro p e s m args below meth c s₁ B hml hv
  obtain ⟨rfl, hsz, hP, hK, hD0, hE⟩ := hv
  have hx := B.exec
  have hb := B.bytes
  have hr := B.returns
  have hts := atoms_spec (ws := wsX2_init) B.pre
  have hown : s.vm.findClass RX2 = some m.cls := findClass_of_methodNamed B.named
  have hlocks := B.notSynchronized
  have hin : meth.name = "<init>" := (name_of_methodNamed B.named B.method).1
  subst hsz
  have hD := hD0.self (sz := s.heap.size)
  have hA : ∀ q : Nat, s.heap.size ≤ q → va_A [(h0, .inr (2, [.null, .int 0]))] s.heap.size q := fun q h => Or.inr h
  generalize va_A [(h0, .inr (2, [.null, .int 0]))] s.heap.size = A at hD hA hE ⊢
  have hS : va_S A s.heap s.heap [] := va_S.rf
  have hl := lv_entry ([.ref h0]) (n := 1) (Nat.le_of_ble_eq_true rfl)
  rw [lg_entry_eq]
  generalize (lg_sl ([.ref h0]) ++ List.replicate (1 - (lg_sl ([.ref h0])).length) Slot.unset).toArray = ls at hl ⊢
  have hl : lv_has ls 1 [(0, .ref h0)] := hl
  refine lv_aload_n hx hb dX2_init_0 rfl (lv_at hl 0 rfl) ?_
  refine W.objInit hx hb hown (hts (.methodLink RX2 3 objectInit) (by decide +kernel)) (hts (.instanceMethod objectInit) (by decide +kernel)) (hts (.code objectInit ⟨#[0xb1]⟩ 1 none) (List.mem_of_getElem? (i := 3) rfl)) rfl (by rw [hml]; exact hl.1) rfl dX2_init_1 (Nat.le_of_ble_eq_true rfl) (Nat.le_of_ble_eq_true rfl) ?_
  refine W.eq (g2 := F0 m 4 ls []) rfl ?_
  refine lv_aload_n hx hb dX2_init_4 rfl (lv_at hl 0 rfl) ?_
  refine lv_bipush (v := 64) hx hb dX2_init_5 (by decide) ?_
  refine na_k (atype := .int) (a0 := (64, .inl (fun _ => 0))) hx hb (hts (.arrayClass .int) (by decide +kernel)) rfl hK hP hD hS hA 1 rfl (cell_i rfl) (by decide) (nI_clamp (n := 64) (by decide)) (cb_int (by decide)) (show 0 + 1 ≤ 1 from by decide) (show 0 + 64 ≤ 64 from by decide) dX2_init_7 (fun q1 H hP hD hS => ?_)
  have hP : va_P (dC, dI) vwCl ((h0, .inr (2, [.null, .int 0])) :: (q1, .inl (cI, 64, .inl (fun _ => 0))) :: []) H := hP
  have hD : va_D A ((h0, .inr (2, [.null, .int 0])) :: (q1, .inl (cI, 64, .inl (fun _ => 0))) :: []) := hD
  refine W.widen (k := 1) (n := 64) (Nat.le_refl _) (Nat.le_refl _) ?_
  refine va_putF (D := (dC, dI)) (ci := 2) (v := .ref q1) (ty := .array .int) (C := RX2) (T := TX2) (N := 2) hx hb hts (fun _ h => List.mem_cons_of_mem _ (List.mem_append_right _ h)) tyX2 tyX2_ok nmX2 hown hK hP hD hS 0 rfl rfl 0 (by decide) (hts (.fieldLink RX2 9 "WhistledWords$Nursery" "learned" "[I") (by decide +kernel)) (fun _ h9 => h9) rfl hin rfl (by decide +kernel) rfl rfl (Nat.le_of_ble_eq_true rfl) dX2_init_9 (fun H locs hP hD hS => ?_)
  have hP : va_P (dC, dI) vwCl ((h0, .inr (2, [.ref q1, .int 0])) :: (q1, .inl (cI, 64, .inl (fun _ => 0))) :: []) H := hP
  have hD : va_D A ((h0, .inr (2, [.ref q1, .int 0])) :: (q1, .inl (cI, 64, .inl (fun _ => 0))) :: []) := hD
  exact W.vret hx hb hr (fun t ht hW => ⟨⟨(), rfl, trivial, (fun k => [h0, q1].getD k 0), rfl, by rw [ht]; exact hP, va_K.moved hW.alike hK, hD⟩, hS.F ht⟩) hS.2.2 dX2_init_12 hlocks
