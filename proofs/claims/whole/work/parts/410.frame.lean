/-! two worlds side by side; a call that touches one of them; a new row of a known class; constructors -/
theorem ap_l {α : Type} {u w : List α} {k : Nat} {q : α} (h : u[k]? = some q) : (u ++ w)[k]? = some q := by
  have hlt : k < u.length := (List.getElem?_eq_some_iff.mp h).1
  rw [List.getElem?_append_left hlt]
  exact h
theorem ap_r {α : Type} {u w : List α} {k : Nat} {q : α} (h : w[k]? = some q) : (u ++ w)[u.length + k]? = some q := by
  rw [List.getElem?_append_right (by omega), Nat.add_sub_cancel_left]
  exact h
theorem P_left {D : va_G} {cl : List vw_C} {u w : va_W} {H : Heap} (h : va_P D cl (u ++ w) H) : va_P D cl u H := fun k q hk => h k q (ap_l hk)
theorem P_right {D : va_G} {cl : List vw_C} {u w : va_W} {H : Heap} (h : va_P D cl (u ++ w) H) : va_P D cl w H := fun k q hk => h (u.length + k) q (ap_r hk)
theorem D_left {A : Nat → Prop} {u w : va_W} (h : va_D A (u ++ w)) : va_D A u := ⟨fun i j p q hi hj e => h.1 i j p q (ap_l hi) (ap_l hj) e, fun k q hk => h.2 k q (ap_l hk)⟩
theorem D_right {A : Nat → Prop} {u w : va_W} (h : va_D A (u ++ w)) : va_D A w := ⟨fun i j p q hi hj e => by have := h.1 (u.length + i) (u.length + j) p q (ap_r hi) (ap_r hj) e; omega, fun k q hk => h.2 (u.length + k) q (ap_r hk)⟩
theorem D_apart {A : Nat → Prop} {u w : va_W} (h : va_D A (u ++ w)) {i j : Nat} {p q : Nat × va_E} (hi : u[i]? = some p) (hj : w[j]? = some q) : p.1 ≠ q.1 := by
  intro e
  have := h.1 i (u.length + j) p q (ap_l hi) (ap_r hj) e
  have hlt : i < u.length := (List.getElem?_eq_some_iff.mp hi).1
  omega
theorem fr_r {D : va_G} {cl : List vw_C} {A : Nat → Prop} {u w w1 : va_W} {H H1 : Heap} (hP : va_P D cl (u ++ w) H) (hD : va_D A (u ++ w)) (hF : ∀ q, va_A w H.size q → A q) (hk : ∀ q : Nat, q < H.size → ¬ va_A w H.size q → H1[q]? = H[q]?) (hP1 : va_P D cl w1 H1) (hD1 : va_D (va_A w H.size) w1) : va_P D cl (u ++ w1) H1 ∧ va_D A (u ++ w1) := by
  have hPu := P_left hP
  have out : ∀ (k : Nat) (q : Nat × va_E), u[k]? = some q → q.1 < H.size ∧ ¬ va_A w H.size q.1 := by
    intro k q hq
    have hlt := (hPu k q hq).lt
    refine ⟨hlt, ?_⟩
    rintro (⟨k1, e1, h1⟩ | h1)
    · exact D_apart hD hq h1 rfl
    · omega
  refine ⟨(hPu.kept (fun k q hq => hk q.1 (out k q hq).1 (out k q hq).2)).app hP1, va_D.app (D_left hD) (hD1.weaken (fun _ _ _ h => hF _ h)) (fun i j p q hi hj e => ?_)⟩
  have h2 := hD1.2 j q hj
  rw [← e] at h2
  exact (out i p hi).2 h2
theorem fr_l {D : va_G} {cl : List vw_C} {A : Nat → Prop} {u w w1 : va_W} {H H1 : Heap} (hP : va_P D cl (w ++ u) H) (hD : va_D A (w ++ u)) (hF : ∀ q, va_A w H.size q → A q) (hk : ∀ q : Nat, q < H.size → ¬ va_A w H.size q → H1[q]? = H[q]?) (hP1 : va_P D cl w1 H1) (hD1 : va_D (va_A w H.size) w1) : va_P D cl (w1 ++ u) H1 ∧ va_D A (w1 ++ u) := by
  have hPu := P_right hP
  have out : ∀ (k : Nat) (q : Nat × va_E), u[k]? = some q → q.1 < H.size ∧ ¬ va_A w H.size q.1 := by
    intro k q hq
    have hlt := (hPu k q hq).lt
    refine ⟨hlt, ?_⟩
    rintro (⟨k1, e1, h1⟩ | h1)
    · exact D_apart hD h1 hq rfl
    · omega
  refine ⟨hP1.app (hPu.kept (fun k q hq => hk q.1 (out k q hq).1 (out k q hq).2)), va_D.app (hD1.weaken (fun _ _ _ h => hF _ h)) (D_right hD) (fun i j p q hi hj e => ?_)⟩
  have h2 := hD1.2 i p hi
  rw [e] at h2
  exact (out j q hj).2 h2
section FW
variable {p : Program} {l : Launch} {e : Env} {R : Room} {s : State} {m : MethodId} {args : Array Value} {below : List Frame} {meth : Method} {c : Code} {H : Heap} {locs : List Loc} {cells slots : Nat} {Q : State → Prop} {cc bytes : ByteArray} {nL maxL n index pc : Nat} {ls : Array Slot} {Ts ws : List Cond} {own C host : String} {y : MethodName} {rm : Room} {D : va_G} {ty : List (ClassId × FieldType)} {E : (Nat → Prop) → State → Prop} {w w1 u : va_W} {b : Nat} {As rest st0 : List Value} {ret : Option FieldType} {A : Nat → Prop}
theorem cl_l (S : CallFix p m c cc nL s args Ts own) {r0 : Int32} (hM : Met l y ws rm (gP D ty E w H.size (.ref b :: As)) (gI D ty w1 (va_A w H.size) r0) 0 0 (va_A w H.size)) (cw : CallW R s args own C index y bytes maxL ret ws rm 0 0 n) (hEB : EB E) (hE : E A s) (hK : va_K D vwCl ty s) (hP : va_P D vwCl (w ++ u) H) (hD : va_D A (w ++ u)) (hS : va_S A s.heap H locs) (hA : ∀ q, s.heap.size ≤ q → A q) (q0 : Nat) {ci : Nat} {q : vw_C} {fs : List Value} (he : w[q0]? = some (b, .inr (ci, fs))) (hc : vwCl[ci]? = some q) (hq : q.1 = C) (hn : As.length = n) (hsz : ls.size = nL) (hst : st0 = As.reverse ++ .ref b :: rest) (hrm : (rest.map fun v => v.category).sum ≤ 8) (hdg : decode cc pc = .ok (.invokevirtual index, 3)) (hf : cells ≤ R.cells ∧ slots ≤ R.slots)
    (kk : ∀ (H1 : Heap) (locs1 : List Loc), va_P D vwCl (w1 ++ u) H1 → va_D A (w1 ++ u) → va_S A s.heap H1 locs1 → W p l e R s m args below meth c H1 locs1 cells slots Q (F0 m (pc + 3) ls (.int r0 :: rest))) : W p l e R s m args below meth c H locs cells slots Q (F0 m pc ls st0) := by
  have hDw := D_left hD
  have hPw := P_left hP
  have hF := gA_in hDw hS hA
  refine va_calli (va_runV S hM cw ⟨gP_blind hEB, hq ▸ va_recv hK hPw hc he, fun U hU hW => ⟨rfl, by rw [hU], by rw [hU]; exact hPw, va_K.moved hW.alike hK, hDw.weaken (fun _ _ _ _ => trivial), hEB.2 A _ s U locs hW (by rw [hU]; exact hS) hF hE⟩⟩ rfl hn hsz hst (lv_room hrm) hdg hf) hS (fun q _ h => hF q h) hF (fun r u' t H1 locs1 ht hvm hw hB hz1 hk1 hS => ?_)
  obtain ⟨hP1, hK1, hD1⟩ := hB
  rw [ht] at hP1
  subst hw
  obtain ⟨j1, j2⟩ := fr_l hP hD hF hk1 hP1 hD1
  exact kk H1 locs1 j1 j2 hS
theorem cl_r (S : CallFix p m c cc nL s args Ts own) {r0 : Int32} (hM : Met l y ws rm (gP D ty E w H.size (.ref b :: As)) (gI D ty w1 (va_A w H.size) r0) 0 0 (va_A w H.size)) (cw : CallW R s args own C index y bytes maxL ret ws rm 0 0 n) (hEB : EB E) (hE : E A s) (hK : va_K D vwCl ty s) (hP : va_P D vwCl (u ++ w) H) (hD : va_D A (u ++ w)) (hS : va_S A s.heap H locs) (hA : ∀ q, s.heap.size ≤ q → A q) (q0 : Nat) {ci : Nat} {q : vw_C} {fs : List Value} (he : w[q0]? = some (b, .inr (ci, fs))) (hc : vwCl[ci]? = some q) (hq : q.1 = C) (hn : As.length = n) (hsz : ls.size = nL) (hst : st0 = As.reverse ++ .ref b :: rest) (hrm : (rest.map fun v => v.category).sum ≤ 8) (hdg : decode cc pc = .ok (.invokevirtual index, 3)) (hf : cells ≤ R.cells ∧ slots ≤ R.slots)
    (kk : ∀ (H1 : Heap) (locs1 : List Loc), va_P D vwCl (u ++ w1) H1 → va_D A (u ++ w1) → va_S A s.heap H1 locs1 → W p l e R s m args below meth c H1 locs1 cells slots Q (F0 m (pc + 3) ls (.int r0 :: rest))) : W p l e R s m args below meth c H locs cells slots Q (F0 m pc ls st0) := by
  have hDw := D_right hD
  have hPw := P_right hP
  have hF := gA_in hDw hS hA
  refine va_calli (va_runV S hM cw ⟨gP_blind hEB, hq ▸ va_recv hK hPw hc he, fun U hU hW => ⟨rfl, by rw [hU], by rw [hU]; exact hPw, va_K.moved hW.alike hK, hDw.weaken (fun _ _ _ _ => trivial), hEB.2 A _ s U locs hW (by rw [hU]; exact hS) hF hE⟩⟩ rfl hn hsz hst (lv_room hrm) hdg hf) hS (fun q _ h => hF q h) hF (fun r u' t H1 locs1 ht hvm hw hB hz1 hk1 hS => ?_)
  obtain ⟨hP1, hK1, hD1⟩ := hB
  rw [ht] at hP1
  subst hw
  obtain ⟨j1, j2⟩ := fr_r hP hD hF hk1 hP1 hD1
  exact kk H1 locs1 j1 j2 hS
/-- tongue() -/
theorem cl_t (S : CallFix p m c cc nL s args Ts own) {r0 : Int32} {wf : (Nat → Nat) → va_W} (hM : Met l y ws rm (gP D ty E w H.size (.ref b :: As)) (gT D ty wf b (va_A w H.size) r0) 0 0 (va_A w H.size)) (cw : CallW R s args own C index y bytes maxL ret ws rm 0 0 n) (hEB : EB E) (hE : E A s) (hK : va_K D vwCl ty s) (hP : va_P D vwCl (w ++ u) H) (hD : va_D A (w ++ u)) (hS : va_S A s.heap H locs) (hA : ∀ q, s.heap.size ≤ q → A q) (q0 : Nat) {ci : Nat} {q : vw_C} {fs : List Value} (he : w[q0]? = some (b, .inr (ci, fs))) (hc : vwCl[ci]? = some q) (hq : q.1 = C) (hn : As.length = n) (hsz : ls.size = nL) (hst : st0 = As.reverse ++ .ref b :: rest) (hrm : (rest.map fun v => v.category).sum ≤ 8) (hdg : decode cc pc = .ok (.invokevirtual index, 3)) (hf : cells ≤ R.cells ∧ slots ≤ R.slots)
    (kk : ∀ (a1 : Nat → Nat) (H1 : Heap) (locs1 : List Loc), a1 0 = b → va_P D vwCl (wf a1 ++ u) H1 → va_D A (wf a1 ++ u) → va_S A s.heap H1 locs1 → W p l e R s m args below meth c H1 locs1 cells slots Q (F0 m (pc + 3) ls (.int r0 :: rest))) : W p l e R s m args below meth c H locs cells slots Q (F0 m pc ls st0) := by
  have hDw := D_left hD
  have hPw := P_left hP
  have hF := gA_in hDw hS hA
  refine va_calli (va_runV S hM cw ⟨gP_blind hEB, hq ▸ va_recv hK hPw hc he, fun U hU hW => ⟨rfl, by rw [hU], by rw [hU]; exact hPw, va_K.moved hW.alike hK, hDw.weaken (fun _ _ _ _ => trivial), hEB.2 A _ s U locs hW (by rw [hU]; exact hS) hF hE⟩⟩ rfl hn hsz hst (lv_room hrm) hdg hf) hS (fun q _ h => hF q h) hF (fun r u' t H1 locs1 ht hvm hw hB hz1 hk1 hS => ?_)
  obtain ⟨a1, ha1, hP1, hK1, hD1⟩ := hB
  rw [ht] at hP1
  subst hw
  obtain ⟨j1, j2⟩ := fr_l hP hD hF hk1 hP1 hD1
  exact kk a1 H1 locs1 ha1 j1 j2 hS
/-- behind a constructor: the cells by some naming -/
def gN (D : va_G) (ty : List (ClassId × FieldType)) (wf : (Nat → Nat) → va_W) (a0 : Nat) (A : Nat → Prop) := va_Qv (fun (_ : Unit) => True) (fun _ t => ∃ b : Nat → Nat, b 0 = a0 ∧ gB D ty (wf b) A t) A
theorem ci_v (S : CallFix p m c cc nL s args Ts own) {e0 : va_E} {mc ms : Nat} {wf : (Nat → Nat) → va_W} (hM : Met l y ws rm (gP D ty E_0 [(b, e0)] H.size (.ref b :: As)) (gN D ty wf b (va_A [(b, e0)] H.size)) mc ms (va_A [(b, e0)] H.size)) (cw : CallB R s args own index y bytes maxL none ws rm mc ms n ∧ y.name = "<init>" ∧ (Cond.instanceMethod y).before args s = true) (hK : va_K D vwCl ty s) (hP : va_P D vwCl (u ++ [(b, e0)]) H) (hD : va_D A (u ++ [(b, e0)])) (hS : va_S A s.heap H locs) (hA : ∀ q, s.heap.size ≤ q → A q) (hn : As.length = n) (hsz : ls.size = nL) (hst : st0 = As.reverse ++ .ref b :: rest) (hrm : (rest.map fun v => v.category).sum ≤ 8) (hdg : decode cc pc = .ok (.invokespecial index, 3)) (hf : cells + mc ≤ R.cells ∧ slots + ms ≤ R.slots)
    (kk : ∀ (a1 : Nat → Nat) (H1 : Heap) (locs1 : List Loc), a1 0 = b → va_P D vwCl (u ++ wf a1) H1 → va_D A (u ++ wf a1) → va_S A s.heap H1 locs1 → W p l e R s m args below meth c H1 locs1 (cells + mc) (slots + ms) Q (F0 m (pc + 3) ls rest)) : W p l e R s m args below meth c H locs cells slots Q (F0 m pc ls st0) := by
  have hDw := D_right hD
  have hPw := P_right hP
  have hF := gA_in hDw hS hA
  refine va_callv (va_runI S hM cw ⟨gP_blind EB_0, fun U hU hW => ⟨rfl, by rw [hU], by rw [hU]; exact hPw, va_K.moved hW.alike hK, hDw.weaken (fun _ _ _ _ => trivial), trivial⟩⟩ rfl hn hsz hst (lv_room hrm) hdg hf) hS (fun q _ h => hF q h) hF (fun u' t H1 locs1 ht hvm hw hB hz1 hk1 hS => ?_)
  obtain ⟨a1, ha1, hP1, hK1, hD1⟩ := hB
  rw [ht] at hP1
  obtain ⟨j1, j2⟩ := fr_r hP hD hF hk1 hP1 hD1
  exact kk a1 H1 locs1 ha1 j1 j2 hS
theorem na_k {H0 : Heap} (hexec : p.tables.exec = Jvm.exec) (hb : c.code = cc) {atype : ArrayType} (harr : (Cond.arrayClass (newarray.typeOf atype)).before args s = true) {t0 : FieldType} (hty : newarray.typeOf atype = t0) (hK : va_K D vwCl ty s) (hP : va_P D vwCl w H) (hD : va_D A w) (hS : va_S A H0 H locs) (hA : ∀ q, H0.size ≤ q → A q) {cA0 : ClassId} (kq : Nat) (hkq : ty[kq]? = some (cA0, t0))
    {i : Int32} {N' : Nat} {a0 : vp_A} (ha : ∀ cA : ClassId, vp_cell cA a0 = arrV cA N' (fun _ => defaultValue t0)) (hn : ¬ i < 0) (hN : i.toNatClampNeg = N') (hbytes : N' * componentBytes t0 ≤ 536870912) (hcells : cells + 1 ≤ R.cells) (hslots : slots + N' ≤ R.slots) (hdg : decode cc pc = .ok (.newarray atype, 2))
    (kk : ∀ (q : Nat) (H1 : Heap), va_P D vwCl (w ++ [(q, .inl (cA0, a0))]) H1 → va_D A (w ++ [(q, .inl (cA0, a0))]) → va_S A H0 H1 locs →
      W p l e R s m args below meth c H1 locs (cells + 1) (slots + N') Q (F0 m (pc + 2) ls (.ref q :: rest))) : W p l e R s m args below meth c H locs cells slots Q (F0 m pc ls (.int i :: rest)) := by
  refine va_newa hexec hb harr hty hK hP hD hS hA ha hn hN hbytes hcells hslots hdg (fun q cA H1 hK1 hP1 hD1 hS1 => ?_)
  have h1 := (hK1.2 ty.length (cA, t0) (by simp)).2
  have h2 := (hK.2 kq _ hkq).2
  have e : cA = cA0 := by
    subst hty
    cases atype <;> exact Option.some.inj (h1.symm.trans h2)
  subst e
  exact kk q H1 hP1 hD1 hS1
end FW
