-- MAKING: a field read, segments exchanged, a method called on a part of the world
section
variable {p : Program} {l : Launch} {e : Env} {R : Room} {s : State} {m : MethodId} {args : Array Value} {below : List Frame} {meth : Method} {c : Code} {H : Heap} {locs : List Loc} {cells slots : Nat} {Q : State → Prop}
variable {pc : Nat} {ls : Array Slot} {rest : List Value} {A : Nat → Prop} {H0 : Heap} {D : va_G} {cA : Nat → ClassId} {cc : ByteArray}
theorem yb_get {ws : va_W} {own : String} {FL : List (Nat × Nat × Nat)} {a0 ci k idx q0 : Nat} {v : Value} {fs : List Value} (hx : p.tables.exec = Jvm.exec) (hb : c.code = cc) (hts : ∀ w ∈ xm_tbl, w.before args s = true) (hcl : xm_cls) (hFL : xm_FLs own FL) (hown : s.vm.findClass own = some m.cls) (hK : va_K D vwCl (xm_tys cA) s) (hP : va_P D vwCl ws H) (he : ws[q0]? = some (a0, .inr (ci, fs))) (hfl : (idx, ci, k) ∈ FL) (q : vw_C) (hq : vwCl[ci]? = some q) (hv : fs[k]? = some v) (hdg : decode cc pc = .ok (.getfield idx, 3))
    (kk : W p l e R s m args below meth c H locs cells slots Q (F0 m (pc + 3) ls (v :: rest))) : W p l e R s m args below meth c H locs cells slots Q (F0 m pc ls (.ref a0 :: rest)) := by
  obtain ⟨cq, f1, f2, f3⟩ := xm_FL_of (hFL _ hfl) hq
  exact va_get hx hb hts (hcl _ _ f1).1 hown hK hP _ he f1 k f2 (hts _ f3) (fun _ h9 => h9) hv hdg kk
theorem ys_at {X Y Z : va_W} (k : Nat) : (X ++ (Z ++ Y))[k]? = (X ++ (Y ++ Z))[if k < X.length then k else if k < X.length + Z.length then k + Y.length else if k < X.length + Z.length + Y.length then k - Z.length else k]? := by
  by_cases h1 : k < X.length
  · rw [if_pos h1, List.getElem?_append_left h1, List.getElem?_append_left h1]
  · rw [if_neg h1, List.getElem?_append_right (by omega)]
    by_cases h2 : k < X.length + Z.length
    · rw [if_pos h2, List.getElem?_append_left (by omega), List.getElem?_append_right (by omega), List.getElem?_append_right (by omega)]
      congr 1; omega
    · rw [if_neg h2, List.getElem?_append_right (by omega)]
      by_cases h3 : k < X.length + Z.length + Y.length
      · rw [if_pos h3, List.getElem?_append_right (by omega), List.getElem?_append_left (by omega)]
        congr 1; omega
      · rw [if_neg h3, List.getElem?_eq_none (by omega), List.getElem?_eq_none (by simp only [List.length_append]; omega)]
theorem ys_inj (x y z : Nat) : ∀ i j : Nat, (if i < x then i else if i < x + z then i + y else if i < x + z + y then i - z else i) = (if j < x then j else if j < x + z then j + y else if j < x + z + y then j - z else j) → i = j := by
  intro i j h
  by_cases a1 : i < x <;> by_cases b1 : j < x <;> by_cases a2 : i < x + z <;> by_cases b2 : j < x + z <;> by_cases a3 : i < x + z + y <;> by_cases b3 : j < x + z + y <;> simp only [a1, a2, a3, b1, b2, b3, if_true, if_false] at h <;> omega
theorem ys_P {X Y Z : va_W} (h : va_P D vwCl (X ++ (Y ++ Z)) H) : va_P D vwCl (X ++ (Z ++ Y)) H := va_P_of _ (fun k => ys_at k) h
theorem ys_D {X Y Z : va_W} (h : va_D A (X ++ (Y ++ Z))) : va_D A (X ++ (Z ++ Y)) := va_D_of _ (ys_inj X.length Y.length Z.length) (fun k => ys_at k) h
theorem yd_r {X Y : va_W} (h : va_D A (X ++ Y)) : va_D A Y := va_D_of (fun k => X.length + k) (fun i j e => by omega) (fun k => by rw [List.getElem?_append_right (by omega), Nat.add_sub_cancel_left]) h
theorem yp_r {X Y : va_W} (h : va_P D vwCl (X ++ Y) H) : va_P D vwCl Y H := va_P_of (fun k => X.length + k) (fun k => by rw [List.getElem?_append_right (by omega), Nat.add_sub_cancel_left]) h
theorem yd_w {X : va_W} (h : va_D A X) : va_D (fun _ => True) X := ⟨h.1, fun _ _ _ => trivial⟩
/-- behind a call on the last part of a world -/
theorem ys_join {X Y Y1 : va_W} {H1 : Heap} {A1 : Nat → Prop} (hP : va_P D vwCl (X ++ Y) H) (hD : va_D A (X ++ Y)) (hA1 : ∀ z, A1 z → (∃ (k : Nat) (x : Nat × va_E), Y[k]? = some x ∧ x.1 = z) ∨ H.size ≤ z) (hk : ∀ z : Nat, z < H.size → ¬ A1 z → H1[z]? = H[z]?) (hP1 : va_P D vwCl Y1 H1) (hY : ∀ (k : Nat) (x : Nat × va_E), Y1[k]? = some x → ∃ x0 : Nat × va_E, Y[k]? = some x0 ∧ x0.1 = x.1) : va_P D vwCl (X ++ Y1) H1 ∧ va_D A (X ++ Y1) := by
  have at1 : ∀ (k : Nat) (y : Nat × va_E), X[k]? = some y → (X ++ Y)[k]? = some y := fun k y h => by
    rw [List.getElem?_append_left (List.getElem?_eq_some_iff.mp h).1]; exact h
  have at2 : ∀ (k : Nat) (y : Nat × va_E), Y[k]? = some y → (X ++ Y)[X.length + k]? = some y := fun k y h => by
    rw [List.getElem?_append_right (by omega), Nat.add_sub_cancel_left]; exact h
  have look : ∀ (k : Nat) (y : Nat × va_E), (X ++ Y1)[k]? = some y → ∃ y0 : Nat × va_E, (X ++ Y)[k]? = some y0 ∧ y0.1 = y.1 := fun k y h => by
    by_cases hl : k < X.length
    · rw [List.getElem?_append_left hl] at h
      exact ⟨y, at1 k y h, rfl⟩
    · rw [List.getElem?_append_right (by omega)] at h
      obtain ⟨x0, h1, h2⟩ := hY _ y h
      have h3 := at2 _ x0 h1
      rw [show X.length + (k - X.length) = k by omega] at h3
      exact ⟨x0, h3, h2⟩
  refine ⟨fun k y hy => ?_, fun i j y z hy hz e => ?_, fun k y hy => ?_⟩
  · by_cases hl : k < X.length
    · rw [List.getElem?_append_left hl] at hy
      have h1 := hP k y (at1 k y hy)
      refine h1.kept (hk y.1 h1.lt (fun z => ?_))
      rcases hA1 _ z with ⟨k2, x, h2, h3⟩ | h2
      · have := hD.1 k (X.length + k2) y x (at1 k y hy) (at2 k2 x h2) h3.symm
        omega
      · have := h1.lt
        omega
    · rw [List.getElem?_append_right (by omega)] at hy
      exact hP1 _ y hy
  · obtain ⟨y0, h1, h2⟩ := look i y hy
    obtain ⟨z0, h3, h4⟩ := look j z hz
    exact hD.1 i j y0 z0 h1 h3 (by rw [h2, h4]; exact e)
  · obtain ⟨y0, h1, h2⟩ := look k y hy
    rw [← h2]
    exact hD.2 k y0 h1
/-- a method of a shape, called where its world is the last part -/
theorem ys_call {own C : String} {T : u_T} {N : Nat} {S : List xC} {r1 maxL idx nL ci : Nat} {y : MethodName} {bytes : ByteArray} {Tx : xT} {X : va_W} {ad : Nat → Nat} {g : xG} {b : Nat} {As : List Value} {fs : List Value} {Qx : Option Value → xG → Prop} {na : Nat}
    (hx : p.tables.exec = Jvm.exec) (hb : c.code = cc) (hml : c.maxLocals = nL) (hls : ls.size = nL) (hts : ∀ w ∈ xm_tbl, w.before args s = true) (hown : s.vm.findClass own = some m.cls) (hK : va_K D vwCl (xm_tys cA) s) (hP : va_P D vwCl (X ++ xm_ws ad cA g S) H) (hD : va_D A (X ++ xm_ws ad cA g S)) (hS : va_S A H0 H locs) (hA : ∀ z, H0.size ≤ z → A z)
    (hM : xm_Met l D cA [] S r1 y bytes maxL none Tx) (hT : Tx (.ref b :: As) g Qx) (hB : ∀ U : State, U.heap = H → s.WarmedH U.vm → xm_B [] ad S U U.heap) (hcb : S[b]? = some (.inr (ci, []))  ∨ ∃ fk, S[b]? = some (.inr (ci, fk))) (hci : vwCl[ci]? = some (C, T, N)) (w0 : Cond.code y bytes maxL none ∈ xm_tbl) (w1 : Cond.methodLink own idx y ∈ xm_tbl) (w2 : Cond.initialized y.cls ∈ xm_tbl) (w3 : Cond.instanceMethod y ∈ xm_tbl) (w4 : Cond.selects y.cls y y ∈ xm_tbl) (hyc : C = y.cls) (hd : y.cls ≠ "java/lang/invoke/MethodHandle" ∧ y.cls ≠ "java/lang/invoke/VarHandle" ∧ (parseMethodDescriptor y.desc).map (fun d => d.parameters.length) = some As.length)
    (hR : r1 + 1 ≤ R.frames ∧ 8 + (maxL + 11) + 60 * r1 ≤ R.locals) (hrest : 2 * 0 + (rest.map fun v => v.category).sum ≤ 8) (hf : cells ≤ R.cells ∧ slots ≤ R.slots) (hdg : decode cc pc = .ok (.invokevirtual idx, 3))
    (kk : ∀ (o : Option Value) (g1 : xG) (H1 : Heap) (locs1 : List Loc), Qx o g1 → va_P D vwCl (X ++ xm_ws ad cA g1 S) H1 → va_D A (X ++ xm_ws ad cA g1 S) → va_S A H0 H1 locs1 → W p l e R s m args below meth c H1 locs1 cells slots Q (F0 m (pc + 3) ls ((o.map (xm_cv ad)).toList ++ rest))) : W p l e R s m args below meth c H locs cells slots Q (F0 m pc ls ((As.map (xm_cv ad)).reverse ++ .ref (ad b) :: rest)) := by
  obtain ⟨fk, hfk⟩ : ∃ fk, S[b]? = some (.inr (ci, fk)) := by
    rcases hcb with h | h
    · exact ⟨_, h⟩
    · exact h
  have hPs := yp_r hP
  have hDs := yd_r hD
  have hsub : ∀ z, xm_A ad S H.size z → (∃ (k : Nat) (x : Nat × va_E), (xm_ws ad cA g S)[k]? = some x ∧ x.1 = z) ∨ H.size ≤ z := fun z hz => by
    rcases hz with ⟨k, hk, rfl⟩ | hz
    · exact Or.inl ⟨k, _, xm_ws_at (List.getElem?_eq_getElem hk), rfl⟩
    · exact Or.inr hz
  have hAA : ∀ z, xm_A ad S H.size z → A z := fun z hz => by
    rcases hsub z hz with ⟨k, x, h1, rfl⟩ | hz
    · exact hDs.2 k x h1
    · exact hA _ (Nat.le_trans hS.1 hz)
  have cb := callB_of (R := R) (s := s) (args := args) (own := own) (mc := 0) (ms := 0) (rm := xm_rm r1) As.length hts (xm_goodIn w0) rfl rfl rfl (hts _ w2) (hts _ w1) hd hR
  have rc : ∃ cell : Cell, H[ad b]? = some cell ∧ cell.vm.isStatics = false ∧ s.vm.findClass y.cls = some cell.cls := by
    rw [← hyc]
    exact va_recv hK hPs hci (xm_ws_at hfk)
  have hr := va_runV (p := p) (l := l) (e := e) (As := As.map (xm_cv ad)) (rest := rest) (b := ad b) (g := F0 m pc ls ((As.map (xm_cv ad)).reverse ++ .ref (ad b) :: rest)) (below := below) (meth := meth) (locs := locs) (cells := cells) (slots := slots) ⟨hx, hb, hml, hown, hts⟩ (hM ad H.size _ g _ hT) ⟨cb, hts _ w3, hts _ w4⟩ ⟨(fun a U g mk q => by obtain ⟨q0, q1, qP, qK, qD, qB⟩ := q; exact ⟨q0, q1, qP, va_K.moved (u := U) (U := U.calling g mk a) (Vm.Alike.refl U.vm) qK, qD, xm_B.same (u := U) (U := U.calling g mk a) rfl qB⟩), rc, fun U hU hW => ⟨rfl, by rw [hU], by rw [hU]; exact hPs, va_K.moved hW.alike hK, yd_w hDs, hB U hU hW⟩⟩ rfl (by rw [List.length_map]) hls rfl hrest hdg hf
  refine xm_call hr hS (A1 := xm_A ad S H.size) (fun st₀ o t h => h.2) (fun z _ h => hAA z h) hAA (fun o st₀ t locs1 h0 hq hS1 => ?_)
  obtain ⟨⟨o1, g1, ho, hQ, hP1⟩, hF⟩ := hq
  cases ho
  have hk : ∀ z : Nat, z < H.size → ¬ xm_A ad S H.size z → t.heap[z]? = H[z]? := fun z h1 h2 => by
    have := hF.2 z (by rw [h0]; exact h1) h2
    rw [h0] at this
    exact this
  obtain ⟨j1, j2⟩ := ys_join hP hD hsub hk hP1 (fun k x hx1 => by
    obtain ⟨c1, h1, rfl⟩ := xm_ws_of hx1
    exact ⟨_, xm_ws_at h1, rfl⟩)
  exact kk o1 g1 t.heap locs1 hQ j1 j2 hS1
end
