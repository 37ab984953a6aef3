-- MAKING: the reader
def yf_X1 : List Value := [.null, .null, .null, .null, .null, .int 0, .int 0, .int 0, .int 0, .int 0, .int 0, .int 0]
def yl_X1 : List yB := [(1, .iconst 5, 5, 3, 2, 18), (2, .bipush 6, 6, 3, 3, 22), (2, .bipush 21, 21, 0, 4, 25)]
def yw_X1 (cA : Nat → ClassId) (b : Nat) (ad : Nat → Nat) : va_W := [(ad 0, .inr (1, [.ref (ad 1), .ref (ad 13), .ref (ad 10), .ref (ad 11), .ref (ad 12), .int 0, .int 0, .int 0, .int 0, .int 0, .int 0, .int 0])), (ad 1, .inr (5, [.ref (ad 2), .ref (ad 3), .ref (ad 4), .ref (ad 5), .ref (ad 6), .ref (ad 7), .ref (ad 8), .ref (ad 9), .int 0, .int 0, .int 0, .int 0, .int 0])), (ad 2, .inl (cA 0, yb_a0 0 5)), (ad 3, .inl (cA 0, yb_a0 0 5)), (ad 4, .inl (cA 0, yb_a0 0 5)), (ad 5, .inl (cA 0, yb_a0 0 6)), (ad 6, .inl (cA 0, yb_a0 0 20)), (ad 7, .inl (cA 0, yb_a0 0 20)), (ad 8, .inl (cA 0, yb_a0 0 408)), (ad 9, .inl (cA 0, yb_a0 0 4)), (ad 10, .inl (cA 3, yb_a0 3 5)), (ad 11, .inl (cA 3, yb_a0 3 6)), (ad 12, .inl (cA 0, yb_a0 0 21)), (ad 13, .inr (7, [.ref (ad 14), .ref (ad 15), .ref (ad 16), .ref b, .int 0])), (ad 14, .inl (cA 0, yb_a0 0 402)), (ad 15, .inl (cA 0, yb_a0 0 402)), (ad 16, .inl (cA 3, yb_a0 3 402))]
def y1_Pre (D : va_G) (cA : Nat → ClassId) (sz a0 b : Nat) : Array Value → State → Prop := va_Pc [.ref a0, .ref b] (fun U => U.heap.size = sz ∧ va_P D vwCl [(a0, .inr (1, yf_X1))] U.heap ∧ va_K D vwCl (xm_tys cA) U ∧ va_Nw (.methodLinkNest RX1 13 yX5_init "LanternPeople") U)
theorem y1_blind {D : va_G} {cA : Nat → ClassId} {sz a0 b : Nat} : FrameBlind (y1_Pre D cA sz a0 b) := fun a U g mk q => by
  obtain ⟨q0, q1, qP, qK, qN⟩ := q
  exact ⟨q0, q1, qP, va_K.moved (u := U) (U := U.calling g mk a) (Vm.Alike.refl U.vm) qK, va_Nw.same rfl rfl qN⟩
set_option maxRecDepth 100000 in
theorem y1_c : (decide (decode cX1_init 0 = .ok (.aload_n 0, 1)) && decide (decode cX1_init 1 = .ok (.invokespecial 5, 3)) && decide (decode cX1_init 4 = .ok (.aload_n 0, 1)) && decide (decode cX1_init 5 = .ok (.new 11, 3)) && decide (decode cX1_init 8 = .ok (.dup, 1)) && decide (decode cX1_init 9 = .ok (.invokespecial 13, 3)) && decide (decode cX1_init 12 = .ok (.putfield 14, 3)) && yb_chk cX1_init xf_X1 RX1 1 15 yl_X1 38 && decide (decode cX1_init 38 = .ok (.aload_n 0, 1)) && decide (decode cX1_init 39 = .ok (.new 29, 3)) && decide (decode cX1_init 42 = .ok (.dup, 1)) && decide (decode cX1_init 43 = .ok (.aload_n 1, 1)) && decide (decode cX1_init 44 = .ok (.invokespecial 31, 3)) && decide (decode cX1_init 47 = .ok (.putfield 34, 3)) && decide (decode cX1_init 50 = .ok (.return_, 1)) && xf_X1.elem (14, 1, 0) && xf_X1.elem (34, 1, 1) && yb_fok RX1 1 0 && yb_fok RX1 1 1) = true := by decide +kernel
theorem yi_X1 {l : Launch} {D : va_G} {cA : Nat → ClassId} (a0 b sz : Nat) : Met l yX1_init (.code yX1_init cX1_init 2 none :: xm_tbl) (xm_rq 2 16 1729) (y1_Pre D cA sz a0 b) (yi_Post D sz a0 (fun ad => yw_X1 cA b ad)) 16 1729 (yi_A a0 sz) := by
  have hchk := y1_c
  simp only [Bool.and_eq_true, decide_eq_true_eq, List.elem_eq_mem] at hchk
  obtain ⟨⟨⟨⟨⟨⟨⟨⟨⟨⟨⟨⟨⟨⟨⟨⟨⟨⟨d0, d1⟩, d4⟩, d5⟩, d8⟩, d9⟩, d12⟩, hc⟩, d38⟩, d39⟩, d42⟩, d43⟩, d44⟩, d47⟩, d50⟩, fl1⟩, fl2⟩, ok1⟩, ok2⟩ := hchk
  refine xm_ofW (cc := cX1_init) (maxL := 2) (ret := none) (by decide +kernel) rfl ?_
  intro p e s m args below meth c s₁ BB hml hv
  obtain ⟨rfl, hsz, hP, hK, hN⟩ := hv
  subst hsz
  have hts0 := atoms_spec (ws := Cond.code yX1_init cX1_init 2 none :: xm_tbl) BB.pre
  have hts : ∀ w ∈ xm_tbl, w.before _ s = true := fun w hw => hts0 w (List.mem_cons_of_mem _ hw)
  have hown : s.vm.findClass RX1 = some m.cls := findClass_of_methodNamed BB.named
  have hname : meth.name = "<init>" := (name_of_methodNamed BB.named BB.method).1
  have hlen : ∀ q : vw_C, vwCl[1]? = some q → q.2.2 ≤ yf_X1.length := fun q hq => by cases hq; exact Nat.le_of_ble_eq_true rfl
  have hA : ∀ z, s.heap.size ≤ z → yi_A a0 s.heap.size z := fun z hz => Or.inr hz
  rw [lg_entry_eq]
  refine lv_aload_n BB.exec BB.bytes d0 rfl (x := a0) rfl ?_
  refine W.objInit BB.exec BB.bytes hown (hts _ (xm_in 50 (by decide +kernel) rfl)) (hts _ yo_i) (hts _ yo_c) rfl hml.symm (a := a0) (rest := []) rfl d1 (by show 1 ≤ 2; decide) (by show 2 * 0 + 0 + 12 ≤ 60 * 2; decide) ?_
  refine lv_aload_n BB.exec BB.bytes d4 rfl (x := a0) rfl ?_
  refine yc_new (A := yi_A a0 s.heap.size) (H0 := s.heap) (ci := 5) (fs := yf_X5) BB.exec BB.bytes hts xm_clsok hown hK hP (yi_D1 (Or.inl rfl)) va_S.rf hA rfl (xm_in 51 (by decide +kernel) rfl) (xm_in 52 (by decide +kernel) rfl) (xm_in 4 (by decide +kernel) rfl) (by decide +kernel) (by show 0 + 1 ≤ 16; decide) (by show 0 + 13 ≤ 1729; decide) d5 d8 (fun q H1 hP1 hD1 hS1 => ?_)
  refine yc_mkN (nL := 2) (ci := 5) (fs := yf_X5) (ws := [(a0, .inr (1, yf_X1))]) BB.exec BB.bytes hml rfl hts hown hK hP1 hD1 hS1 hA (yi_X5 q H1.size) (xm_in 55 rfl rfl) hN (xm_in 4 (by decide +kernel) rfl) (xm_in 54 (by decide +kernel) rfl) rfl ⟨by decide +kernel, by decide +kernel, by decide +kernel⟩ ⟨by show 1 + 1 ≤ 2; decide, by show 8 + (1 + 11) + 60 * 1 ≤ 60 * 2; decide⟩ (by show 2 * 0 + 2 ≤ 8; decide) ⟨by show 0 + 1 + 8 ≤ 16; decide, by show 0 + 13 + 473 ≤ 1729; decide⟩ d9 (fun adD H2 locs2 e2 hP2 hD2 hS2 => ?_)
  refine yb_put (q0 := 0) BB.exec BB.bytes hts xm_clsok xf_X1_ok hown hname hK hP2 hD2 hS2 rfl fl1 ok1 hlen d12 (fun H3 locs3 hP3 hD3 hS3 => ?_)
  refine yb_all (A := yi_A a0 s.heap.size) (H0 := s.heap) (a0 := a0) (ci := 1) BB.exec BB.bytes hts xm_clsok xf_X1_ok hown hname hK hA rfl yl_X1 15 _ _ 1 (fun _ => a0) (yf_X1.set 0 (.ref q)) ((adD 0, .inr (5, yb_fs adD 1 yf_X5 yl_X5)) :: yb_ar cA adD 1 yl_X5) H3 locs3 hc (fun q hq => by rw [List.length_set]; exact hlen q hq) (by show 0 + 1 + 8 + 3 ≤ 16; decide) (by show 0 + 13 + 473 + 32 ≤ 1729; decide) hP3 hD3 hS3 (fun adA H4 locs4 ha hP4 hD4 hS4 => ?_)
  refine lv_aload_n BB.exec BB.bytes d38 rfl (x := a0) rfl ?_
  refine yc_new (A := yi_A a0 s.heap.size) (H0 := s.heap) (ci := 7) (fs := yf_X7) BB.exec BB.bytes hts xm_clsok hown hK hP4 hD4 hS4 hA rfl (xm_in 130 (by decide +kernel) rfl) (xm_in 131 (by decide +kernel) rfl) (xm_in 5 (by decide +kernel) rfl) (by decide +kernel) (by show 0 + 1 + 8 + 3 + 1 ≤ 16; decide) (by show 0 + 13 + 473 + 32 + 5 ≤ 1729; decide) d39 d42 (fun q2 H5 hP5 hD5 hS5 => ?_)
  refine lv_aload_n BB.exec BB.bytes d43 rfl (x := b) rfl ?_
  refine yc_mkI (nL := 2) (ci := 7) (fs := yf_X7) (Pc := yi_Pre D cA [.ref q2, .ref b] H5.size q2 7 yf_X7) BB.exec BB.bytes hml rfl hts hown hP5 hD5 hS5 hA (yi_X7 q2 b H5.size) ⟨yi_blind, fun U hU hW => ⟨rfl, by rw [hU], by rw [hU]; exact yP1 hP5, va_K.moved hW.alike hK⟩⟩ (xm_in 134 rfl rfl) (xm_in 132 (by decide +kernel) rfl) (xm_in 5 (by decide +kernel) rfl) (xm_in 133 (by decide +kernel) rfl) rfl ⟨by decide +kernel, by decide +kernel, by decide +kernel⟩ ⟨by show 1 + 1 ≤ 2; decide, by show 8 + (2 + 11) + 60 * 1 ≤ 60 * 2; decide⟩ (by show 2 * 0 + 2 ≤ 8; decide) ⟨by show 0 + 1 + 8 + 3 + 1 + 3 ≤ 16; decide, by show 0 + 13 + 473 + 32 + 5 + 1206 ≤ 1729; decide⟩ d44 (fun adK H6 locs6 e6 hP6 hD6 hS6 => ?_)
  refine yb_put (q0 := 0) BB.exec BB.bytes hts xm_clsok xf_X1_ok hown hname hK hP6 hD6 hS6 rfl fl2 ok2 (fun q hq => by rw [yb_fs_len, List.length_set]; exact hlen q hq) d47 (fun H7 locs7 hP7 hD7 hS7 => ?_)
  subst e2
  subst e6
  have fin : ∀ t : State, t.heap = H7 → s.WarmedH t.vm → yi_Post D s.heap.size a0 (fun ad => yw_X1 cA b ad) #[.ref a0, .ref b] s (.returned none) t := fun t ht hW => ⟨⟨fun k => if k = 0 then a0 else if k < 10 then adD (k - 1) else if k < 13 then adA (k - 9) else adK (k - 13), rfl, rfl, by rw [ht]; exact hP7, hD7⟩, hS7.F ht⟩
  exact W.vret BB.exec BB.bytes BB.returns fin hS7.2.2 d50 BB.notSynchronized
