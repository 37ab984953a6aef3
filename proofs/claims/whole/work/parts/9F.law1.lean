-- THE LAW: a method of a shape called, the script's ints read
section
variable {p : Program} {l : Launch} {e : Env} {R : Room} {s : State} {m : MethodId} {args : Array Value} {below : List Frame} {meth : Method} {c : Code} {H : Heap} {locs : List Loc} {cells slots : Nat} {Q : State → Prop}
variable {pc : Nat} {ls : Array Slot} {rest : List Value} {A : Nat → Prop} {H0 : Heap} {D : va_G} {cA : Nat → ClassId} {cc : ByteArray}
/-- a method of a shape, called where its world is the last part, with an answer -/
theorem zs_call {ret : Option FieldType} {own C : String} {T : u_T} {N : Nat} {S : List xC} {r1 maxL idx nL ci : Nat} {y : MethodName} {bytes : ByteArray} {Tx : xT} {X : va_W} {ad : Nat → Nat} {g : xG} {b : Nat} {As : List Value} {Qx : Option Value → xG → Prop}
    (hx : p.tables.exec = Jvm.exec) (hb : c.code = cc) (hml : c.maxLocals = nL) (hls : ls.size = nL) (hts : ∀ w ∈ xm_tbl, w.before args s = true) (hown : s.vm.findClass own = some m.cls) (hK : va_K D vwCl (xm_tys cA) s) (hP : va_P D vwCl (X ++ xm_ws ad cA g S) H) (hD : va_D A (X ++ xm_ws ad cA g S)) (hS : va_S A H0 H locs) (hA : ∀ z, H0.size ≤ z → A z)
    (hM : xm_Met l D cA [] S r1 y bytes maxL ret Tx) (hT : Tx (.ref b :: As) g Qx) (hB : ∀ U : State, U.heap = H → s.WarmedH U.vm → xm_B [] ad S U U.heap) (hcb : ∃ fk, S[b]? = some (.inr (ci, fk))) (hci : vwCl[ci]? = some (C, T, N)) (w0 : Cond.code y bytes maxL ret ∈ xm_tbl) (w1 : Cond.methodLink own idx y ∈ xm_tbl) (w2 : Cond.initialized y.cls ∈ xm_tbl) (w3 : Cond.instanceMethod y ∈ xm_tbl) (w4 : Cond.selects y.cls y y ∈ xm_tbl) (hyc : C = y.cls) (hd : y.cls ≠ "java/lang/invoke/MethodHandle" ∧ y.cls ≠ "java/lang/invoke/VarHandle" ∧ (parseMethodDescriptor y.desc).map (fun d => d.parameters.length) = some As.length)
    (hR : r1 + 1 ≤ R.frames ∧ 8 + (maxL + 11) + 60 * r1 ≤ R.locals) (hrest : 2 * 0 + (rest.map fun v => v.category).sum ≤ 8) (hf : cells ≤ R.cells ∧ slots ≤ R.slots) (hdg : decode cc pc = .ok (.invokevirtual idx, 3))
    (kk : ∀ (o : Option Value) (g1 : xG) (H1 : Heap) (locs1 : List Loc), Qx o g1 → va_P D vwCl (X ++ xm_ws ad cA g1 S) H1 → va_D A (X ++ xm_ws ad cA g1 S) → va_S A H0 H1 locs1 → W p l e R s m args below meth c H1 locs1 cells slots Q (F0 m (pc + 3) ls ((o.map (xm_cv ad)).toList ++ rest))) : W p l e R s m args below meth c H locs cells slots Q (F0 m pc ls ((As.map (xm_cv ad)).reverse ++ .ref (ad b) :: rest)) := by
  obtain ⟨fk, hfk⟩ := hcb
  have hPs := yp_r hP
  have hDs := yd_r hD
  have hsub : ∀ z, xm_A ad S H.size z → (∃ (k : Nat) (x : Nat × va_E), (xm_ws ad cA g S)[k]? = some x ∧ x.1 = z) ∨ H.size ≤ z := fun z hz => by
    rcases hz with ⟨k, hk, rfl⟩ | hz
    · exact Or.inl ⟨k, _, xm_ws_at (List.getElem?_eq_getElem hk), rfl⟩
    · exact Or.inr hz
  have hAA : ∀ z, xm_A ad S H.size z → A z := fun z hz => by
    rcases hsub z hz with ⟨k, x, h1, rfl⟩ | hz
    · exact hDs.2 k x h1
    · exact hA _ (Nat.le_trans hS.1 hz)
  have cb := callB_of (R := R) (s := s) (args := args) (own := own) (mc := 0) (ms := 0) (rm := xm_rm r1) As.length hts (xm_goodIn w0) rfl rfl rfl (hts _ w2) (hts _ w1) hd hR
  have rc : ∃ cell : Cell, H[ad b]? = some cell ∧ cell.vm.isStatics = false ∧ s.vm.findClass y.cls = some cell.cls := by
    rw [← hyc]
    exact va_recv hK hPs hci (xm_ws_at hfk)
  have hr := va_runV (p := p) (l := l) (e := e) (As := As.map (xm_cv ad)) (rest := rest) (b := ad b) (g := F0 m pc ls ((As.map (xm_cv ad)).reverse ++ .ref (ad b) :: rest)) (below := below) (meth := meth) (locs := locs) (cells := cells) (slots := slots) ⟨hx, hb, hml, hown, hts⟩ (hM ad H.size _ g _ hT) ⟨cb, hts _ w3, hts _ w4⟩ ⟨(fun a U g mk q => by obtain ⟨q0, q1, qP, qK, qD, qB⟩ := q; exact ⟨q0, q1, qP, va_K.moved (u := U) (U := U.calling g mk a) (Vm.Alike.refl U.vm) qK, qD, xm_B.same (u := U) (U := U.calling g mk a) rfl qB⟩), rc, fun U hU hW => ⟨rfl, by rw [hU], by rw [hU]; exact hPs, va_K.moved hW.alike hK, yd_w hDs, hB U hU hW⟩⟩ rfl (by rw [List.length_map]) hls rfl hrest hdg hf
  refine xm_call hr hS (A1 := xm_A ad S H.size) (fun st₀ o t h => h.2) (fun z _ h => hAA z h) hAA (fun o st₀ t locs1 h0 hq hS1 => ?_)
  obtain ⟨⟨o1, g1, ho, hQ, hP1⟩, hF⟩ := hq
  cases ho
  have hk : ∀ z : Nat, z < H.size → ¬ xm_A ad S H.size z → t.heap[z]? = H[z]? := fun z h1 h2 => by
    have := hF.2 z (by rw [h0]; exact h1) h2
    rw [h0] at this
    exact this
  obtain ⟨j1, j2⟩ := ys_join hP hD hsub hk hP1 (fun k x hx1 => by
    obtain ⟨c1, h1, rfl⟩ := xm_ws_of hx1
    exact ⟨_, xm_ws_at h1, rfl⟩)
  exact kk o1 g1 t.heap locs1 hQ j1 j2 hS1
end
def zl_len (k : Nat × Bool) : Nat := if k.2 then 13 else 5
def zl_v (xs : Nat → Int32) (i : Nat) (k : Nat × Bool) : Int32 := if k.2 then (if xs (i + k.1) = 0 then 0 else 1) else xs (i + k.1)
def zl_ca (pc : Nat) (k : Nat × Bool) : Bool := decide (decode code pc = .ok (.aload_n 0, 1)) && (decide (decode code (pc + 1) = .ok (.iload_n 3, 1)) && (decide (decode code (pc + 1 + 1) = .ok (.iconst k.1, 1)) && (decide (decode code (pc + 1 + 1 + 1) = .ok (.iadd, 1)) && (decide (decode code (pc + 1 + 1 + 1 + 1) = .ok (.iaload, 1)) && (!k.2 || (decide (decode code (pc + 5) = .ok (.ifCond .eq 7, 3)) && (decide (decode code (pc + 5 + 3) = .ok (.iconst 1, 1)) && (decide (decode code (pc + 5 + 3 + 1) = .ok (.goto 4, 3)) && decide (decode code (pc + 12) = .ok (.iconst 0, 1))))))))))
def zl_ck : Nat → List (Nat × Bool) → Bool
  | _, [] => true
  | pc, k :: r => zl_ca pc k && zl_ck (pc + zl_len k) r
def zl_end : Nat → List (Nat × Bool) → Nat
  | pc, [] => pc
  | pc, k :: r => zl_end (pc + zl_len k) r
def zl_ar (xs : Nat → Int32) (i : Nat) (ks : List (Nat × Bool)) : List Value := ks.map (fun k => .int (zl_v xs i k))
section
variable {p : Program} {l : Launch} {e : Env} {R : Room} {s : State} {m : MethodId} {args : Array Value} {below : List Frame} {meth : Method} {c : Code} {H : Heap} {locs : List Loc} {cells slots : Nat} {Q : State → Prop}
variable {ls : Array Slot} {A : Nat → Prop} {H0 : Heap}
theorem zl_arg {b L i : Nat} {xs : Nat → Int32} {rest : List Value} (hx : p.tables.exec = Jvm.exec) (hb : c.code = code) (hX : va_X b L xs s H0) (hbl : b < H0.size) (hbA : ¬ A b) (hS : va_S A H0 H locs) (h0 : ls[0]? = some (.val (.ref b))) (h3 : ls[3]? = some (.val (.int (nI i)))) (hL : L < 2 ^ 31) (pc : Nat) (k : Nat × Bool) (hc : zl_ca pc k = true) (hk : i + k.1 < L)
    (kk : W p l e R s m args below meth c H locs cells slots Q (F0 m (pc + zl_len k) ls (.int (zl_v xs i k) :: rest))) : W p l e R s m args below meth c H locs cells slots Q (F0 m pc ls rest) := by
  obtain ⟨k1, k2⟩ := k
  simp only [zl_ca, Bool.and_eq_true, decide_eq_true_eq] at hc
  obtain ⟨d0, d1, d2, d3, d4, d5⟩ := hc
  refine lv_aload_n hx hb d0 rfl h0 (lv_iload_n hx hb d1 rfl h3 (lv_iconst (v := nI k1) hx hb d2 rfl (lv_iadd hx hb d3 ?_)))
  rw [nI_add]
  refine va_sld hx hb hX hbl hbA hS (vp_in_nI hk hL) d4 ?_
  rw [nI_clamp (Nat.lt_trans hk hL)]
  cases k2 with
  | false => exact kk
  | true =>
    simp only [Bool.not_true, Bool.false_or, Bool.and_eq_true, decide_eq_true_eq] at d5
    obtain ⟨d5, d6, d7, d8⟩ := d5
    refine lv_if_eq (tgt := pc + 12) hx hb d5 (by omega) (fun z => ?_) (fun z => ?_)
    · refine lv_iconst (v := 0) hx hb d8 rfl ?_
      have e1 : zl_v xs i (k1, true) = 0 := (if_pos rfl).trans (if_pos z)
      rw [e1] at kk
      exact kk
    · refine lv_iconst (v := 1) hx hb d6 rfl (lv_goto (tgt := pc + 13) hx hb d7 (by omega) ?_)
      have e1 : zl_v xs i (k1, true) = 1 := (if_pos rfl).trans (if_neg z)
      rw [e1] at kk
      exact kk
theorem zl_args {b L i : Nat} {xs : Nat → Int32} (hx : p.tables.exec = Jvm.exec) (hb : c.code = code) (hX : va_X b L xs s H0) (hbl : b < H0.size) (hbA : ¬ A b) (hS : va_S A H0 H locs) (h0 : ls[0]? = some (.val (.ref b))) (h3 : ls[3]? = some (.val (.int (nI i)))) (hL : L < 2 ^ 31) : ∀ (ks : List (Nat × Bool)) (pc : Nat) (rest : List Value), zl_ck pc ks = true → (∀ k ∈ ks, i + k.1 < L) →
    W p l e R s m args below meth c H locs cells slots Q (F0 m (zl_end pc ks) ls ((zl_ar xs i ks).reverse ++ rest)) → W p l e R s m args below meth c H locs cells slots Q (F0 m pc ls rest) := by
  intro ks
  induction ks with
  | nil => intro pc rest hc hk kk; exact kk
  | cons k r ih =>
    intro pc rest hc hk kk
    rw [zl_ck, Bool.and_eq_true] at hc
    refine zl_arg hx hb hX hbl hbA hS h0 h3 hL pc k hc.1 (hk k List.mem_cons_self) (ih (pc + zl_len k) _ hc.2 (fun q hq => hk q (List.mem_cons_of_mem _ hq)) ?_)
    have e1 : (zl_ar xs i (k :: r)).reverse ++ rest = (zl_ar xs i r).reverse ++ (.int (zl_v xs i k) :: rest) := by
      rw [zl_ar, List.map_cons, List.reverse_cons, List.append_assoc]; rfl
    rw [e1] at kk
    exact kk
end
