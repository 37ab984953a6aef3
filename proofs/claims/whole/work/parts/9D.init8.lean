-- MAKING: the class
def yf_X8 : List Value := [.null, .null, .null, .null, .null, .null, .null, .null, .int 0]
def y8_N (U : State) : Prop := va_Nw (.methodLinkNest RX8 9 yX6_init "LanternPeople") U ∧ va_Nw (.methodLinkNest RX8 27 yX5_init "LanternPeople") U ∧ va_Nw (.methodLinkNest RX8 52 yX4_init "LanternPeople") U ∧ va_Nw (.methodLinkNest RX8 59 yX2_init "LanternPeople") U ∧ va_Nw (.methodLinkNest RX8 66 yX0_init "LanternPeople") U ∧ va_Nw (.methodLinkNest RX1 13 yX5_init "LanternPeople") U
def y8_Pre (D : va_G) (cA : Nat → ClassId) (sa : Nat → Nat) (sz a0 : Nat) : Array Value → State → Prop := va_Pc [.ref a0] (fun U => U.heap.size = sz ∧ va_P D vwCl [(a0, .inr (8, yf_X8))] U.heap ∧ va_K D vwCl (xm_tys cA) U ∧ xm_Bq sa (yi_A a0 sz) U U.heap ∧ y8_N U)
def y8_Post (D : va_G) (cA : Nat → ClassId) (sa : Nat → Nat) (sz a0 : Nat) : Array Value → State → Outcome → State → Prop := fun _ st oc t => (∃ (ad : Nat → Nat) (g : xG), ad 0 = a0 ∧ oc = .returned none ∧ (∀ k, 1000 ≤ k → ad k = sa k) ∧ xTop s0 g ∧ va_P D vwCl (xm_ws ad cA g xs_X) t.heap ∧ va_D (yi_A a0 sz) (xm_ws ad cA g xs_X)) ∧ va_F (yi_A a0 sz) st t
set_option maxRecDepth 100000 in
theorem y8_c : (decide (decode cX8_init 0 = .ok (.aload_n 0, 1)) && decide (decode cX8_init 1 = .ok (.invokespecial 1, 3)) && decide (decode cX8_init 4 = .ok (.aload_n 0, 1)) && decide (decode cX8_init 5 = .ok (.new 7, 3)) && decide (decode cX8_init 8 = .ok (.dup, 1)) && decide (decode cX8_init 9 = .ok (.invokespecial 9, 3)) && decide (decode cX8_init 12 = .ok (.putfield 10, 3)) && decide (decode cX8_init 15 = .ok (.aload_n 0, 1)) && decide (decode cX8_init 16 = .ok (.new 16, 3)) && decide (decode cX8_init 19 = .ok (.dup, 1)) && decide (decode cX8_init 20 = .ok (.aload_n 0, 1)) && decide (decode cX8_init 21 = .ok (.getfield 10, 3)) && decide (decode cX8_init 24 = .ok (.invokespecial 18, 3)) && decide (decode cX8_init 27 = .ok (.putfield 21, 3)) && decide (decode cX8_init 30 = .ok (.aload_n 0, 1)) && decide (decode cX8_init 31 = .ok (.new 25, 3)) && decide (decode cX8_init 34 = .ok (.dup, 1)) && decide (decode cX8_init 35 = .ok (.invokespecial 27, 3)) && decide (decode cX8_init 38 = .ok (.putfield 28, 3)) && decide (decode cX8_init 41 = .ok (.aload_n 0, 1)) && decide (decode cX8_init 42 = .ok (.getfield 28, 3)) && decide (decode cX8_init 45 = .ok (.invokevirtual 32, 3)) && decide (decode cX8_init 48 = .ok (.aload_n 0, 1)) && decide (decode cX8_init 49 = .ok (.new 35, 3)) && decide (decode cX8_init 52 = .ok (.dup, 1)) && decide (decode cX8_init 53 = .ok (.aload_n 0, 1)) && decide (decode cX8_init 54 = .ok (.getfield 28, 3)) && decide (decode cX8_init 57 = .ok (.invokespecial 37, 3)) && decide (decode cX8_init 60 = .ok (.putfield 40, 3)) && decide (decode cX8_init 63 = .ok (.aload_n 0, 1)) && decide (decode cX8_init 64 = .ok (.new 35, 3)) && decide (decode cX8_init 67 = .ok (.dup, 1)) && decide (decode cX8_init 68 = .ok (.aload_n 0, 1)) && decide (decode cX8_init 69 = .ok (.getfield 28, 3)) && decide (decode cX8_init 72 = .ok (.invokespecial 37, 3)) && decide (decode cX8_init 75 = .ok (.putfield 44, 3)) && decide (decode cX8_init 78 = .ok (.aload_n 0, 1)) && decide (decode cX8_init 79 = .ok (.getfield 40, 3)) && decide (decode cX8_init 82 = .ok (.aload_n 0, 1)) && decide (decode cX8_init 83 = .ok (.getfield 28, 3)) && decide (decode cX8_init 86 = .ok (.invokevirtual 47, 3)) && decide (decode cX8_init 89 = .ok (.aload_n 0, 1)) && decide (decode cX8_init 90 = .ok (.new 50, 3)) && decide (decode cX8_init 93 = .ok (.dup, 1)) && decide (decode cX8_init 94 = .ok (.invokespecial 52, 3)) && decide (decode cX8_init 97 = .ok (.putfield 53, 3)) && decide (decode cX8_init 100 = .ok (.aload_n 0, 1)) && decide (decode cX8_init 101 = .ok (.new 57, 3)) && decide (decode cX8_init 104 = .ok (.dup, 1)) && decide (decode cX8_init 105 = .ok (.invokespecial 59, 3)) && decide (decode cX8_init 108 = .ok (.putfield 60, 3)) && decide (decode cX8_init 111 = .ok (.aload_n 0, 1)) && decide (decode cX8_init 112 = .ok (.new 64, 3)) && decide (decode cX8_init 115 = .ok (.dup, 1)) && decide (decode cX8_init 116 = .ok (.invokespecial 66, 3)) && decide (decode cX8_init 119 = .ok (.putfield 67, 3)) && decide (decode cX8_init 122 = .ok (.aload_n 0, 1)) && decide (decode cX8_init 123 = .ok (.iconst (-1), 1)) && decide (decode cX8_init 124 = .ok (.putfield 71, 3)) && decide (decode cX8_init 127 = .ok (.return_, 1)) && xf_X8.elem (10, 8, 0) && xf_X8.elem (21, 8, 1) && xf_X8.elem (28, 8, 7) && xf_X8.elem (40, 8, 2) && xf_X8.elem (44, 8, 3) && xf_X8.elem (53, 8, 4) && xf_X8.elem (60, 8, 5) && xf_X8.elem (67, 8, 6) && xf_X8.elem (71, 8, 8) && yb_fok RX8 8 0 && yb_fok RX8 8 1 && yb_fok RX8 8 7 && yb_fok RX8 8 2 && yb_fok RX8 8 3 && yb_fok RX8 8 4 && yb_fok RX8 8 5 && yb_fok RX8 8 6) = true := by decide +kernel
theorem xm_ws_mi (ad : Nat → Nat) (cA : Nat → ClassId) (g : xG) (S : List xC) : xm_ws ad cA g S = xm_mi (fun k c => (ad k, xm_ce2 ad cA g k c)) 0 S := by
  apply List.ext_getElem?
  intro k
  rw [xm_ws_q, xm_mi_at, Nat.zero_add]
def gN (g : xG) : xG := (g.1, g.2.1, fun _ _ => 9)
theorem xs_T_n (ad : Nat → Nat) (cA : Nat → ClassId) (g : xG) (h : g.2.2 0 10 = 9) : xm_ws ad cA g xs_T = xm_mi (fun k c => (ad k, xm_ce2 ad cA (gN g) k c)) 0 xs_T := by
  rw [xm_ws_mi]
  simp only [xs_T, xm_mi, xm_ce2, xm_fv, h]
  rfl
def y8ad (a0 : Nat) (adT adR adN adM adS adH adW adC sa : Nat → Nat) : Nat → Nat := fun k => if k = 0 then a0 else if k < 3 then adT (k - 1) else if k = 3 then adR 0 else if k < 11 then adR (k + 6) else if k < 20 then adN (k - 11) else if k < 29 then adM (k - 20) else if k < 38 then adS (k - 29) else if k < 47 then adR (k - 37) else if k < 49 then adH (k - 47) else if k < 54 then adW (k - 49) else if k < 58 then adC (k - 54) else sa k
theorem y8ad_s (a0 : Nat) (adT adR adN adM adS adH adW adC sa : Nat → Nat) : ∀ k, 1000 ≤ k → y8ad a0 adT adR adN adM adS adH adW adC sa k = sa k := fun k hk => by
  unfold y8ad
  rw [if_neg (by omega), if_neg (by omega), if_neg (by omega), if_neg (by omega), if_neg (by omega), if_neg (by omega), if_neg (by omega), if_neg (by omega), if_neg (by omega), if_neg (by omega), if_neg (by omega)]
def y8f (k : Nat) : Nat := if k < 4 then k else if k < 11 then k + 9 else if k < 20 then k + 18 else if k < 29 then k else if k < 38 then k + 9 else if k < 47 then k - 34 else k
theorem y8f_i : ∀ i j, y8f i = y8f j → i = j := by
  intro i j h
  unfold y8f at h
  (repeat' split at h) <;> omega
def y8w (cA : Nat → ClassId) (a0 : Nat) (adT adR adN adM adS adH adW adC sa : Nat → Nat) (g2 : xG) : va_W := (((((([(a0, .inr (8, ((((((((yf_X8.set 0 (.ref (adT 0))).set 1 (.ref (adR 0))).set 7 (.ref (adS 0))).set 2 (.ref (adN 0))).set 3 (.ref (adM 0))).set 4 (.ref (adH 0))).set 5 (.ref (adW 0))).set 6 (.ref (adC 0))).set 8 (.int (-1))))] ++ ((adT 0, .inr (6, yb_fs adT 1 yf_X6 yl_X6)) :: yb_ar cA adT 1 yl_X6)) ++ yw_X1 cA (adT 0) adR) ++ wN cA (adS 0) adM) ++ (xm_mi (fun k c => (yadB adN adS sa k, xm_ce2 (yadB adN adS sa) cA (gN g2) k c)) 0 xs_T)) ++ ((adH 0, .inr (4, yb_fs adH 1 yf_X4 yl_X4)) :: yb_ar cA adH 1 yl_X4)) ++ ((adW 0, .inr (2, yb_fs adW 1 yf_X2 yl_X2)) :: yb_ar cA adW 1 yl_X2)) ++ ((adC 0, .inr (0, yb_fs adC 1 yf_X0 yl_X0)) :: yb_ar cA adC 1 yl_X0)
set_option maxRecDepth 100000 in
theorem y8_w0 (cA : Nat → ClassId) (a0 : Nat) (adT adR adN adM adS adH adW adC sa : Nat → Nat) (g2 : xG) : ∀ k, k < 58 → (xs_X[k]?).map (fun c => (y8ad a0 adT adR adN adM adS adH adW adC sa k, xm_ce2 (y8ad a0 adT adR adN adM adS adH adW adC sa) cA (gF g2) k c)) = (y8w cA a0 adT adR adN adM adS adH adW adC sa g2)[y8f k]?
  | 0, _ => rfl
  | 1, _ => rfl
  | 2, _ => rfl
  | 3, _ => rfl
  | 4, _ => rfl
  | 5, _ => rfl
  | 6, _ => rfl
  | 7, _ => rfl
  | 8, _ => rfl
  | 9, _ => rfl
  | 10, _ => rfl
  | 11, _ => rfl
  | 12, _ => rfl
  | 13, _ => rfl
  | 14, _ => rfl
  | 15, _ => rfl
  | 16, _ => rfl
  | 17, _ => rfl
  | 18, _ => rfl
  | 19, _ => rfl
  | 20, _ => rfl
  | 21, _ => rfl
  | 22, _ => rfl
  | 23, _ => rfl
  | 24, _ => rfl
  | 25, _ => rfl
  | 26, _ => rfl
  | 27, _ => rfl
  | 28, _ => rfl
  | 29, _ => rfl
  | 30, _ => rfl
  | 31, _ => rfl
  | 32, _ => rfl
  | 33, _ => rfl
  | 34, _ => rfl
  | 35, _ => rfl
  | 36, _ => rfl
  | 37, _ => rfl
  | 38, _ => rfl
  | 39, _ => rfl
  | 40, _ => rfl
  | 41, _ => rfl
  | 42, _ => rfl
  | 43, _ => rfl
  | 44, _ => rfl
  | 45, _ => rfl
  | 46, _ => rfl
  | 47, _ => rfl
  | 48, _ => rfl
  | 49, _ => rfl
  | 50, _ => rfl
  | 51, _ => rfl
  | 52, _ => rfl
  | 53, _ => rfl
  | 54, _ => rfl
  | 55, _ => rfl
  | 56, _ => rfl
  | 57, _ => rfl
  | k + 58, h => absurd h (by omega)
theorem y8_w (cA : Nat → ClassId) (a0 : Nat) (adT adR adN adM adS adH adW adC sa : Nat → Nat) (g2 : xG) (k : Nat) : (xm_ws (y8ad a0 adT adR adN adM adS adH adW adC sa) cA (gF g2) xs_X)[k]? = (y8w cA a0 adT adR adN adM adS adH adW adC sa g2)[y8f k]? := by
  by_cases h : k < 58
  · rw [xm_ws_q]; exact y8_w0 cA a0 adT adR adN adM adS adH adW adC sa g2 k h
  · have e : y8f k = k := by unfold y8f; rw [if_neg (by omega), if_neg (by omega), if_neg (by omega), if_neg (by omega), if_neg (by omega), if_neg (by omega)]
    rw [e, xm_ws_n (by show 58 ≤ k; omega), List.getElem?_eq_none (by show 58 ≤ k; omega)]
theorem y8_met {l : Launch} {D : va_G} {cA : Nat → ClassId} (sa : Nat → Nat) (a0 sz : Nat) : Met l yX8_init (.code yX8_init cX8_init 1 none :: xm_tbl) (xm_rq 3 57 6254) (y8_Pre D cA sa sz a0) (y8_Post D cA sa sz a0) 57 6254 (yi_A a0 sz) := by
  have hchk := y8_c
  simp only [Bool.and_eq_true, decide_eq_true_eq, List.elem_eq_mem] at hchk
  obtain ⟨⟨⟨⟨⟨⟨⟨⟨⟨⟨⟨⟨⟨⟨⟨⟨⟨⟨⟨⟨⟨⟨⟨⟨⟨⟨⟨⟨⟨⟨⟨⟨⟨⟨⟨⟨⟨⟨⟨⟨⟨⟨⟨⟨⟨⟨⟨⟨⟨⟨⟨⟨⟨⟨⟨⟨⟨⟨⟨⟨⟨⟨⟨⟨⟨⟨⟨⟨⟨⟨⟨⟨⟨⟨⟨⟨d0, d1⟩, d4⟩, d5⟩, d8⟩, d9⟩, d12⟩, d15⟩, d16⟩, d19⟩, d20⟩, d21⟩, d24⟩, d27⟩, d30⟩, d31⟩, d34⟩, d35⟩, d38⟩, d41⟩, d42⟩, d45⟩, d48⟩, d49⟩, d52⟩, d53⟩, d54⟩, d57⟩, d60⟩, d63⟩, d64⟩, d67⟩, d68⟩, d69⟩, d72⟩, d75⟩, d78⟩, d79⟩, d82⟩, d83⟩, d86⟩, d89⟩, d90⟩, d93⟩, d94⟩, d97⟩, d100⟩, d101⟩, d104⟩, d105⟩, d108⟩, d111⟩, d112⟩, d115⟩, d116⟩, d119⟩, d122⟩, d123⟩, d124⟩, d127⟩, f10⟩, f21⟩, f28⟩, f40⟩, f44⟩, f53⟩, f60⟩, f67⟩, f71⟩, o10⟩, o21⟩, o28⟩, o40⟩, o44⟩, o53⟩, o60⟩, o67⟩ := hchk
  refine xm_ofW (cc := cX8_init) (maxL := 1) (ret := none) (by decide +kernel) rfl ?_
  intro p e s m args below meth c s₁ BB hml hv
  obtain ⟨rfl, hsz, hP, hK, hB, hN⟩ := hv
  subst hsz
  have hts0 := atoms_spec (ws := Cond.code yX8_init cX8_init 1 none :: xm_tbl) BB.pre
  have hts : ∀ w ∈ xm_tbl, w.before _ s = true := fun w hw => hts0 w (List.mem_cons_of_mem _ hw)
  have hown : s.vm.findClass RX8 = some m.cls := findClass_of_methodNamed BB.named
  have hname : meth.name = "<init>" := (name_of_methodNamed BB.named BB.method).1
  have hlen : ∀ q : vw_C, vwCl[8]? = some q → q.2.2 ≤ yf_X8.length := fun q hq => by cases hq; exact Nat.le_of_ble_eq_true rfl
  have hA : ∀ z, s.heap.size ≤ z → yi_A a0 s.heap.size z := fun z hz => Or.inr hz
  rw [lg_entry_eq]
  refine lv_aload_n BB.exec BB.bytes d0 rfl (x := a0) rfl ?_
  refine W.objInit BB.exec BB.bytes hown (hts _ (xm_in 25 (by decide +kernel) rfl)) (hts _ yo_i) (hts _ yo_c) rfl hml.symm (a := a0) (rest := []) rfl d1 (by show 1 ≤ 3; decide) (by show 2 * 0 + 0 + 12 ≤ 60 * 3; decide) ?_
  refine lv_aload_n BB.exec BB.bytes d4 rfl (x := a0) rfl ?_
  refine yc_new (A := yi_A a0 s.heap.size) (H0 := s.heap) (ci := 6) (fs := yf_X6) BB.exec BB.bytes hts xm_clsok hown hK hP (yi_D1 (Or.inl rfl)) va_S.rf hA rfl (xm_in 28 (by decide +kernel) rfl) (xm_in 29 (by decide +kernel) rfl) (xm_in 2 (by decide +kernel) rfl) (by decide +kernel) (Nat.le_of_ble_eq_true rfl) (Nat.le_of_ble_eq_true rfl) d5 d8 (fun q1 H1 hP1 hD1 hS1 => ?_)
  refine yc_mkN (nL := 1) (ci := 6) (fs := yf_X6) BB.exec BB.bytes hml rfl hts hown hK hP1 hD1 hS1 hA (yi_X6 q1 H1.size) (xm_in 32 rfl rfl) hN.1 (xm_in 2 (by decide +kernel) rfl) (xm_in 31 (by decide +kernel) rfl) rfl ⟨by decide +kernel, by decide +kernel, by decide +kernel⟩ ⟨(Nat.le_of_ble_eq_true rfl), (Nat.le_of_ble_eq_true rfl)⟩ (Nat.le_of_ble_eq_true rfl) ⟨(Nat.le_of_ble_eq_true rfl), (Nat.le_of_ble_eq_true rfl)⟩ d9 (fun adT H2 locs e9 hP2 hD2 hS2 => ?_)
  subst e9
  refine yb_put (q0 := 0) BB.exec BB.bytes hts xm_clsok xf_X8_ok hown hname hK hP2 hD2 hS2 rfl f10 o10 (fun q hq => by exact hlen q hq) d12 (fun H3 locs hP3 hD3 hS3 => ?_)
  have hP3w : va_P D vwCl ([(a0, .inr (8, yf_X8.set 0 (.ref (adT 0))))] ++ ((adT 0, .inr (6, yb_fs adT 1 yf_X6 yl_X6)) :: yb_ar cA adT 1 yl_X6)) _ := hP3
  have hD3w : va_D (yi_A a0 s.heap.size) ([(a0, .inr (8, yf_X8.set 0 (.ref (adT 0))))] ++ ((adT 0, .inr (6, yb_fs adT 1 yf_X6 yl_X6)) :: yb_ar cA adT 1 yl_X6)) := hD3
  have hS3w := hS3
  refine lv_aload_n BB.exec BB.bytes d15 rfl (x := a0) rfl ?_
  refine yc_new (A := yi_A a0 s.heap.size) (H0 := s.heap) (ci := 1) (fs := yf_X1) BB.exec BB.bytes hts xm_clsok hown hK hP3w hD3w hS3w hA rfl (xm_in 45 (by decide +kernel) rfl) (xm_in 46 (by decide +kernel) rfl) (xm_in 3 (by decide +kernel) rfl) (by decide +kernel) (Nat.le_of_ble_eq_true rfl) (Nat.le_of_ble_eq_true rfl) d16 d19 (fun q2 H4 hP4 hD4 hS4 => ?_)
  refine lv_aload_n BB.exec BB.bytes d20 rfl (x := a0) rfl ?_
  refine yb_get (q0 := 0) (v := .ref (adT 0)) BB.exec BB.bytes hts xm_clsok xf_X8_ok hown hK hP4 rfl f10 _ rfl rfl d21 ?_
  refine yc_mkI (nL := 1) (ci := 1) (fs := yf_X1) (Pc := y1_Pre D cA H4.size q2 (adT 0)) BB.exec BB.bytes hml rfl hts hown hP4 hD4 hS4 hA (yi_X1 q2 (adT 0) H4.size) ⟨y1_blind, fun U hU hW => ⟨rfl, by rw [hU], by rw [hU]; exact yP1 hP4, va_K.moved hW.alike hK, va_Nw.warmM hW hN.2.2.2.2.2⟩⟩ (xm_in 49 rfl rfl) (xm_in 47 (by decide +kernel) rfl) (xm_in 3 (by decide +kernel) rfl) (xm_in 48 (by decide +kernel) rfl) rfl ⟨by decide +kernel, by decide +kernel, by decide +kernel⟩ ⟨(Nat.le_of_ble_eq_true rfl), (Nat.le_of_ble_eq_true rfl)⟩ (Nat.le_of_ble_eq_true rfl) ⟨(Nat.le_of_ble_eq_true rfl), (Nat.le_of_ble_eq_true rfl)⟩ d24 (fun adR H5 locs e9 hP5 hD5 hS5 => ?_)
  subst e9
  refine yb_put (q0 := 0) BB.exec BB.bytes hts xm_clsok xf_X8_ok hown hname hK hP5 hD5 hS5 rfl f21 o21 (fun q hq => by rw [List.length_set]; exact hlen q hq) d27 (fun H6 locs hP6 hD6 hS6 => ?_)
  have hP6w : va_P D vwCl (([(a0, .inr (8, (yf_X8.set 0 (.ref (adT 0))).set 1 (.ref (adR 0))))] ++ ((adT 0, .inr (6, yb_fs adT 1 yf_X6 yl_X6)) :: yb_ar cA adT 1 yl_X6)) ++ yw_X1 cA (adT 0) adR) _ := hP6
  have hD6w : va_D (yi_A a0 s.heap.size) (([(a0, .inr (8, (yf_X8.set 0 (.ref (adT 0))).set 1 (.ref (adR 0))))] ++ ((adT 0, .inr (6, yb_fs adT 1 yf_X6 yl_X6)) :: yb_ar cA adT 1 yl_X6)) ++ yw_X1 cA (adT 0) adR) := hD6
  have hS6w := hS6
  refine lv_aload_n BB.exec BB.bytes d30 rfl (x := a0) rfl ?_
  refine yc_new (A := yi_A a0 s.heap.size) (H0 := s.heap) (ci := 5) (fs := yf_X5) BB.exec BB.bytes hts xm_clsok hown hK hP6w hD6w hS6w hA rfl (xm_in 194 (by decide +kernel) rfl) (xm_in 52 (by decide +kernel) rfl) (xm_in 4 (by decide +kernel) rfl) (by decide +kernel) (Nat.le_of_ble_eq_true rfl) (Nat.le_of_ble_eq_true rfl) d31 d34 (fun q3 H7 hP7 hD7 hS7 => ?_)
  refine yc_mkN (nL := 1) (ci := 5) (fs := yf_X5) BB.exec BB.bytes hml rfl hts hown hK hP7 hD7 hS7 hA (yi_X5 q3 H7.size) (xm_in 55 rfl rfl) hN.2.1 (xm_in 4 (by decide +kernel) rfl) (xm_in 54 (by decide +kernel) rfl) rfl ⟨by decide +kernel, by decide +kernel, by decide +kernel⟩ ⟨(Nat.le_of_ble_eq_true rfl), (Nat.le_of_ble_eq_true rfl)⟩ (Nat.le_of_ble_eq_true rfl) ⟨(Nat.le_of_ble_eq_true rfl), (Nat.le_of_ble_eq_true rfl)⟩ d35 (fun adS H8 locs e9 hP8 hD8 hS8 => ?_)
  subst e9
  refine yb_put (q0 := 0) BB.exec BB.bytes hts xm_clsok xf_X8_ok hown hname hK hP8 hD8 hS8 rfl f28 o28 (fun q hq => by rw [List.length_set, List.length_set]; exact hlen q hq) d38 (fun H9 locs hP9 hD9 hS9 => ?_)
  have hP9w : va_P D vwCl ((([(a0, .inr (8, ((yf_X8.set 0 (.ref (adT 0))).set 1 (.ref (adR 0))).set 7 (.ref (adS 0))))] ++ ((adT 0, .inr (6, yb_fs adT 1 yf_X6 yl_X6)) :: yb_ar cA adT 1 yl_X6)) ++ yw_X1 cA (adT 0) adR) ++ wS cA adS) _ := hP9
  have hD9w : va_D (yi_A a0 s.heap.size) ((([(a0, .inr (8, ((yf_X8.set 0 (.ref (adT 0))).set 1 (.ref (adR 0))).set 7 (.ref (adS 0))))] ++ ((adT 0, .inr (6, yb_fs adT 1 yf_X6 yl_X6)) :: yb_ar cA adT 1 yl_X6)) ++ yw_X1 cA (adT 0) adR) ++ wS cA adS) := hD9
  have hS9w := hS9
  rw [wS_e cA adS sa] at hP9w hD9w
  refine lv_aload_n BB.exec BB.bytes d41 rfl (x := a0) rfl ?_
  refine yb_get (q0 := 0) (v := .ref (adS 0)) BB.exec BB.bytes hts xm_clsok xf_X8_ok hown hK hP9w rfl f28 _ rfl rfl d42 ?_
  refine ys_call (S := xs_S) (ad := yadS adS sa) (g := gz) (b := 0) (As := []) (rest := []) (ci := 5) (nL := 1) (fs := []) (na := 0) (Qx := fun o g => o = none ∧ g = uClr 0 gz) BB.exec BB.bytes hml rfl hts hown hK hP9w hD9w hS9w hA xp_X5_clearS ⟨(), ⟨rfl, trivial⟩, rfl, rfl⟩ (fun U hU hW => hB.call hS9w hW hU hA hD9w (yadS_s adS sa)) (Or.inr ⟨_, rfl⟩) rfl (xm_in 199 rfl rfl) (xm_in 196 (by decide +kernel) rfl) (xm_in 4 (by decide +kernel) rfl) (xm_in 197 (by decide +kernel) rfl) (xm_in 198 (by decide +kernel) rfl) rfl ⟨by decide +kernel, by decide +kernel, by decide +kernel⟩ ⟨(Nat.le_of_ble_eq_true rfl), (Nat.le_of_ble_eq_true rfl)⟩ (Nat.le_of_ble_eq_true rfl) ⟨(Nat.le_of_ble_eq_true rfl), (Nat.le_of_ble_eq_true rfl)⟩ d45 (fun o g1 H10 locs hQ hP10 hD10 hS10 => ?_)
  obtain ⟨rfl, rfl⟩ := hQ
  refine lv_aload_n BB.exec BB.bytes d48 rfl (x := a0) rfl ?_
  refine yc_new (A := yi_A a0 s.heap.size) (H0 := s.heap) (ci := 3) (fs := yf_X3) BB.exec BB.bytes hts xm_clsok hown hK hP10 hD10 hS10 hA rfl (xm_in 212 (by decide +kernel) rfl) (xm_in 213 (by decide +kernel) rfl) (xm_in 6 (by decide +kernel) rfl) (by decide +kernel) (Nat.le_of_ble_eq_true rfl) (Nat.le_of_ble_eq_true rfl) d49 d52 (fun q4 H11 hP11 hD11 hS11 => ?_)
  refine lv_aload_n BB.exec BB.bytes d53 rfl (x := a0) rfl ?_
  refine yb_get (q0 := 0) (v := .ref (adS 0)) BB.exec BB.bytes hts xm_clsok xf_X8_ok hown hK hP11 rfl f28 _ rfl rfl d54 ?_
  refine yc_mkI (nL := 1) (ci := 3) (fs := yf_X3) (Pc := yi_Pre D cA [.ref q4, .ref (adS 0)] H11.size q4 3 yf_X3) BB.exec BB.bytes hml rfl hts hown hP11 hD11 hS11 hA (yi_X3 q4 (adS 0) H11.size) ⟨yi_blind, fun U hU hW => ⟨rfl, by rw [hU], by rw [hU]; exact yP1 hP11, va_K.moved hW.alike hK⟩⟩ (xm_in 216 rfl rfl) (xm_in 214 (by decide +kernel) rfl) (xm_in 6 (by decide +kernel) rfl) (xm_in 215 (by decide +kernel) rfl) rfl ⟨by decide +kernel, by decide +kernel, by decide +kernel⟩ ⟨(Nat.le_of_ble_eq_true rfl), (Nat.le_of_ble_eq_true rfl)⟩ (Nat.le_of_ble_eq_true rfl) ⟨(Nat.le_of_ble_eq_true rfl), (Nat.le_of_ble_eq_true rfl)⟩ d57 (fun adN H12 locs e9 hP12 hD12 hS12 => ?_)
  subst e9
  refine yb_put (q0 := 0) BB.exec BB.bytes hts xm_clsok xf_X8_ok hown hname hK hP12 hD12 hS12 rfl f40 o40 (fun q hq => by rw [List.length_set, List.length_set, List.length_set]; exact hlen q hq) d60 (fun H13 locs hP13 hD13 hS13 => ?_)
  have hP13w : va_P D vwCl (((([(a0, .inr (8, (((yf_X8.set 0 (.ref (adT 0))).set 1 (.ref (adR 0))).set 7 (.ref (adS 0))).set 2 (.ref (adN 0))))] ++ ((adT 0, .inr (6, yb_fs adT 1 yf_X6 yl_X6)) :: yb_ar cA adT 1 yl_X6)) ++ yw_X1 cA (adT 0) adR) ++ xm_ws (yadS adS sa) cA (uClr 0 gz) xs_S) ++ wN cA (adS 0) adN) _ := hP13
  have hD13w : va_D (yi_A a0 s.heap.size) (((([(a0, .inr (8, (((yf_X8.set 0 (.ref (adT 0))).set 1 (.ref (adR 0))).set 7 (.ref (adS 0))).set 2 (.ref (adN 0))))] ++ ((adT 0, .inr (6, yb_fs adT 1 yf_X6 yl_X6)) :: yb_ar cA adT 1 yl_X6)) ++ yw_X1 cA (adT 0) adR) ++ xm_ws (yadS adS sa) cA (uClr 0 gz) xs_S) ++ wN cA (adS 0) adN) := hD13
  have hS13w := hS13
  refine lv_aload_n BB.exec BB.bytes d63 rfl (x := a0) rfl ?_
  refine yc_new (A := yi_A a0 s.heap.size) (H0 := s.heap) (ci := 3) (fs := yf_X3) BB.exec BB.bytes hts xm_clsok hown hK hP13w hD13w hS13w hA rfl (xm_in 212 (by decide +kernel) rfl) (xm_in 213 (by decide +kernel) rfl) (xm_in 6 (by decide +kernel) rfl) (by decide +kernel) (Nat.le_of_ble_eq_true rfl) (Nat.le_of_ble_eq_true rfl) d64 d67 (fun q5 H14 hP14 hD14 hS14 => ?_)
  refine lv_aload_n BB.exec BB.bytes d68 rfl (x := a0) rfl ?_
  refine yb_get (q0 := 0) (v := .ref (adS 0)) BB.exec BB.bytes hts xm_clsok xf_X8_ok hown hK hP14 rfl f28 _ rfl rfl d69 ?_
  refine yc_mkI (nL := 1) (ci := 3) (fs := yf_X3) (Pc := yi_Pre D cA [.ref q5, .ref (adS 0)] H14.size q5 3 yf_X3) BB.exec BB.bytes hml rfl hts hown hP14 hD14 hS14 hA (yi_X3 q5 (adS 0) H14.size) ⟨yi_blind, fun U hU hW => ⟨rfl, by rw [hU], by rw [hU]; exact yP1 hP14, va_K.moved hW.alike hK⟩⟩ (xm_in 216 rfl rfl) (xm_in 214 (by decide +kernel) rfl) (xm_in 6 (by decide +kernel) rfl) (xm_in 215 (by decide +kernel) rfl) rfl ⟨by decide +kernel, by decide +kernel, by decide +kernel⟩ ⟨(Nat.le_of_ble_eq_true rfl), (Nat.le_of_ble_eq_true rfl)⟩ (Nat.le_of_ble_eq_true rfl) ⟨(Nat.le_of_ble_eq_true rfl), (Nat.le_of_ble_eq_true rfl)⟩ d72 (fun adM H15 locs e9 hP15 hD15 hS15 => ?_)
  subst e9
  refine yb_put (q0 := 0) BB.exec BB.bytes hts xm_clsok xf_X8_ok hown hname hK hP15 hD15 hS15 rfl f44 o44 (fun q hq => by rw [List.length_set, List.length_set, List.length_set, List.length_set]; exact hlen q hq) d75 (fun H16 locs hP16 hD16 hS16 => ?_)
  have hP16w : va_P D vwCl ((((([(a0, .inr (8, ((((yf_X8.set 0 (.ref (adT 0))).set 1 (.ref (adR 0))).set 7 (.ref (adS 0))).set 2 (.ref (adN 0))).set 3 (.ref (adM 0))))] ++ ((adT 0, .inr (6, yb_fs adT 1 yf_X6 yl_X6)) :: yb_ar cA adT 1 yl_X6)) ++ yw_X1 cA (adT 0) adR) ++ xm_ws (yadS adS sa) cA (uClr 0 gz) xs_S) ++ wN cA (adS 0) adN) ++ wN cA (adS 0) adM) _ := hP16
  have hD16w : va_D (yi_A a0 s.heap.size) ((((([(a0, .inr (8, ((((yf_X8.set 0 (.ref (adT 0))).set 1 (.ref (adR 0))).set 7 (.ref (adS 0))).set 2 (.ref (adN 0))).set 3 (.ref (adM 0))))] ++ ((adT 0, .inr (6, yb_fs adT 1 yf_X6 yl_X6)) :: yb_ar cA adT 1 yl_X6)) ++ yw_X1 cA (adT 0) adR) ++ xm_ws (yadS adS sa) cA (uClr 0 gz) xs_S) ++ wN cA (adS 0) adN) ++ wN cA (adS 0) adM) := hD16
  have hS16w := hS16
  have hP16w : va_P D vwCl (((([(a0, .inr (8, ((((yf_X8.set 0 (.ref (adT 0))).set 1 (.ref (adR 0))).set 7 (.ref (adS 0))).set 2 (.ref (adN 0))).set 3 (.ref (adM 0))))] ++ ((adT 0, .inr (6, yb_fs adT 1 yf_X6 yl_X6)) :: yb_ar cA adT 1 yl_X6)) ++ yw_X1 cA (adT 0) adR) ++ wN cA (adS 0) adM) ++ (wN cA (adS 0) adN ++ xm_ws (yadS adS sa) cA (uClr 0 gz) xs_S)) _ := ys_rP hP16w
  have hD16w : va_D (yi_A a0 s.heap.size) (((([(a0, .inr (8, ((((yf_X8.set 0 (.ref (adT 0))).set 1 (.ref (adR 0))).set 7 (.ref (adS 0))).set 2 (.ref (adN 0))).set 3 (.ref (adM 0))))] ++ ((adT 0, .inr (6, yb_fs adT 1 yf_X6 yl_X6)) :: yb_ar cA adT 1 yl_X6)) ++ yw_X1 cA (adT 0) adR) ++ wN cA (adS 0) adM) ++ (wN cA (adS 0) adN ++ xm_ws (yadS adS sa) cA (uClr 0 gz) xs_S)) := ys_rD hD16w
  have hS16w := hS16w
  rw [wB_e cA (uClr 0 gz) adN adS sa] at hP16w hD16w
  refine lv_aload_n BB.exec BB.bytes d78 rfl (x := a0) rfl ?_
  refine yb_get (q0 := 0) (v := .ref (adN 0)) BB.exec BB.bytes hts xm_clsok xf_X8_ok hown hK hP16w rfl f40 _ rfl rfl d79 ?_
  refine lv_aload_n BB.exec BB.bytes d82 rfl (x := a0) rfl ?_
  refine yb_get (q0 := 0) (v := .ref (adS 0)) BB.exec BB.bytes hts xm_clsok xf_X8_ok hown hK hP16w rfl f28 _ rfl rfl d83 ?_
  refine ys_call (S := xs_T) (ad := yadB adN adS sa) (g := gB) (b := 0) (As := [.ref 9]) (rest := []) (ci := 3) (nL := 1) (fs := []) (na := 0) (Qx := fun o g' => o = none ∧ g'.2.2 0 10 = 9 ∧ g'.1 0 2 = 0 ∧ g'.1 0 3 = 0 ∧ (∀ i, i < 30 → g'.1 1 i = 0) ∧ (∀ j, j < 6 → g'.1 2 j = nI j) ∧ ∀ k, 3 ≤ k → g'.1 k = gB.1 k) BB.exec BB.bytes hml rfl hts hown hK hP16w hD16w hS16w hA xp_X3_beginT ⟨(), ⟨rfl, gB_9, gB_10⟩, fun o g' h => h⟩ (fun U hU hW => hB.call hS16w hW hU hA hD16w (yadB_s adN adS sa)) (Or.inr ⟨_, rfl⟩) rfl (xm_in 271 rfl rfl) (xm_in 268 (by decide +kernel) rfl) (xm_in 6 (by decide +kernel) rfl) (xm_in 269 (by decide +kernel) rfl) (xm_in 270 (by decide +kernel) rfl) rfl ⟨by decide +kernel, by decide +kernel, by decide +kernel⟩ ⟨(Nat.le_of_ble_eq_true rfl), (Nat.le_of_ble_eq_true rfl)⟩ (Nat.le_of_ble_eq_true rfl) ⟨(Nat.le_of_ble_eq_true rfl), (Nat.le_of_ble_eq_true rfl)⟩ d86 (fun o g2 H17 locs hQ hP17 hD17 hS17 => ?_)
  obtain ⟨rfl, b10, b2, b3, bg, br, bk⟩ := hQ
  refine lv_aload_n BB.exec BB.bytes d89 rfl (x := a0) rfl ?_
  refine yc_new (A := yi_A a0 s.heap.size) (H0 := s.heap) (ci := 4) (fs := yf_X4) BB.exec BB.bytes hts xm_clsok hown hK hP17 hD17 hS17 hA rfl (xm_in 318 (by decide +kernel) rfl) (xm_in 319 (by decide +kernel) rfl) (xm_in 9 (by decide +kernel) rfl) (by decide +kernel) (Nat.le_of_ble_eq_true rfl) (Nat.le_of_ble_eq_true rfl) d90 d93 (fun q6 H18 hP18 hD18 hS18 => ?_)
  refine yc_mkN (nL := 1) (ci := 4) (fs := yf_X4) BB.exec BB.bytes hml rfl hts hown hK hP18 hD18 hS18 hA (yi_X4 q6 H18.size) (xm_in 322 rfl rfl) hN.2.2.1 (xm_in 9 (by decide +kernel) rfl) (xm_in 321 (by decide +kernel) rfl) rfl ⟨by decide +kernel, by decide +kernel, by decide +kernel⟩ ⟨(Nat.le_of_ble_eq_true rfl), (Nat.le_of_ble_eq_true rfl)⟩ (Nat.le_of_ble_eq_true rfl) ⟨(Nat.le_of_ble_eq_true rfl), (Nat.le_of_ble_eq_true rfl)⟩ d94 (fun adH H19 locs e9 hP19 hD19 hS19 => ?_)
  subst e9
  refine yb_put (q0 := 0) BB.exec BB.bytes hts xm_clsok xf_X8_ok hown hname hK hP19 hD19 hS19 rfl f53 o53 (fun q hq => by rw [List.length_set, List.length_set, List.length_set, List.length_set, List.length_set]; exact hlen q hq) d97 (fun H20 locs hP20 hD20 hS20 => ?_)
  have hP20w : va_P D vwCl ((((([(a0, .inr (8, (((((yf_X8.set 0 (.ref (adT 0))).set 1 (.ref (adR 0))).set 7 (.ref (adS 0))).set 2 (.ref (adN 0))).set 3 (.ref (adM 0))).set 4 (.ref (adH 0))))] ++ ((adT 0, .inr (6, yb_fs adT 1 yf_X6 yl_X6)) :: yb_ar cA adT 1 yl_X6)) ++ yw_X1 cA (adT 0) adR) ++ wN cA (adS 0) adM) ++ xm_ws (yadB adN adS sa) cA g2 xs_T) ++ ((adH 0, .inr (4, yb_fs adH 1 yf_X4 yl_X4)) :: yb_ar cA adH 1 yl_X4)) _ := hP20
  have hD20w : va_D (yi_A a0 s.heap.size) ((((([(a0, .inr (8, (((((yf_X8.set 0 (.ref (adT 0))).set 1 (.ref (adR 0))).set 7 (.ref (adS 0))).set 2 (.ref (adN 0))).set 3 (.ref (adM 0))).set 4 (.ref (adH 0))))] ++ ((adT 0, .inr (6, yb_fs adT 1 yf_X6 yl_X6)) :: yb_ar cA adT 1 yl_X6)) ++ yw_X1 cA (adT 0) adR) ++ wN cA (adS 0) adM) ++ xm_ws (yadB adN adS sa) cA g2 xs_T) ++ ((adH 0, .inr (4, yb_fs adH 1 yf_X4 yl_X4)) :: yb_ar cA adH 1 yl_X4)) := hD20
  have hS20w := hS20
  refine lv_aload_n BB.exec BB.bytes d100 rfl (x := a0) rfl ?_
  refine yc_new (A := yi_A a0 s.heap.size) (H0 := s.heap) (ci := 2) (fs := yf_X2) BB.exec BB.bytes hts xm_clsok hown hK hP20w hD20w hS20w hA rfl (xm_in 339 (by decide +kernel) rfl) (xm_in 340 (by decide +kernel) rfl) (xm_in 10 (by decide +kernel) rfl) (by decide +kernel) (Nat.le_of_ble_eq_true rfl) (Nat.le_of_ble_eq_true rfl) d101 d104 (fun q7 H21 hP21 hD21 hS21 => ?_)
  refine yc_mkN (nL := 1) (ci := 2) (fs := yf_X2) BB.exec BB.bytes hml rfl hts hown hK hP21 hD21 hS21 hA (yi_X2 q7 H21.size) (xm_in 343 rfl rfl) hN.2.2.2.1 (xm_in 10 (by decide +kernel) rfl) (xm_in 342 (by decide +kernel) rfl) rfl ⟨by decide +kernel, by decide +kernel, by decide +kernel⟩ ⟨(Nat.le_of_ble_eq_true rfl), (Nat.le_of_ble_eq_true rfl)⟩ (Nat.le_of_ble_eq_true rfl) ⟨(Nat.le_of_ble_eq_true rfl), (Nat.le_of_ble_eq_true rfl)⟩ d105 (fun adW H22 locs e9 hP22 hD22 hS22 => ?_)
  subst e9
  refine yb_put (q0 := 0) BB.exec BB.bytes hts xm_clsok xf_X8_ok hown hname hK hP22 hD22 hS22 rfl f60 o60 (fun q hq => by rw [List.length_set, List.length_set, List.length_set, List.length_set, List.length_set, List.length_set]; exact hlen q hq) d108 (fun H23 locs hP23 hD23 hS23 => ?_)
  have hP23w : va_P D vwCl (((((([(a0, .inr (8, ((((((yf_X8.set 0 (.ref (adT 0))).set 1 (.ref (adR 0))).set 7 (.ref (adS 0))).set 2 (.ref (adN 0))).set 3 (.ref (adM 0))).set 4 (.ref (adH 0))).set 5 (.ref (adW 0))))] ++ ((adT 0, .inr (6, yb_fs adT 1 yf_X6 yl_X6)) :: yb_ar cA adT 1 yl_X6)) ++ yw_X1 cA (adT 0) adR) ++ wN cA (adS 0) adM) ++ xm_ws (yadB adN adS sa) cA g2 xs_T) ++ ((adH 0, .inr (4, yb_fs adH 1 yf_X4 yl_X4)) :: yb_ar cA adH 1 yl_X4)) ++ ((adW 0, .inr (2, yb_fs adW 1 yf_X2 yl_X2)) :: yb_ar cA adW 1 yl_X2)) _ := hP23
  have hD23w : va_D (yi_A a0 s.heap.size) (((((([(a0, .inr (8, ((((((yf_X8.set 0 (.ref (adT 0))).set 1 (.ref (adR 0))).set 7 (.ref (adS 0))).set 2 (.ref (adN 0))).set 3 (.ref (adM 0))).set 4 (.ref (adH 0))).set 5 (.ref (adW 0))))] ++ ((adT 0, .inr (6, yb_fs adT 1 yf_X6 yl_X6)) :: yb_ar cA adT 1 yl_X6)) ++ yw_X1 cA (adT 0) adR) ++ wN cA (adS 0) adM) ++ xm_ws (yadB adN adS sa) cA g2 xs_T) ++ ((adH 0, .inr (4, yb_fs adH 1 yf_X4 yl_X4)) :: yb_ar cA adH 1 yl_X4)) ++ ((adW 0, .inr (2, yb_fs adW 1 yf_X2 yl_X2)) :: yb_ar cA adW 1 yl_X2)) := hD23
  have hS23w := hS23
  refine lv_aload_n BB.exec BB.bytes d111 rfl (x := a0) rfl ?_
  refine yc_new (A := yi_A a0 s.heap.size) (H0 := s.heap) (ci := 0) (fs := yf_X0) BB.exec BB.bytes hts xm_clsok hown hK hP23w hD23w hS23w hA rfl (xm_in 377 (by decide +kernel) rfl) (xm_in 378 (by decide +kernel) rfl) (xm_in 11 (by decide +kernel) rfl) (by decide +kernel) (Nat.le_of_ble_eq_true rfl) (Nat.le_of_ble_eq_true rfl) d112 d115 (fun q8 H24 hP24 hD24 hS24 => ?_)
  refine yc_mkN (nL := 1) (ci := 0) (fs := yf_X0) BB.exec BB.bytes hml rfl hts hown hK hP24 hD24 hS24 hA (yi_X0 q8 H24.size) (xm_in 381 rfl rfl) hN.2.2.2.2.1 (xm_in 11 (by decide +kernel) rfl) (xm_in 380 (by decide +kernel) rfl) rfl ⟨by decide +kernel, by decide +kernel, by decide +kernel⟩ ⟨(Nat.le_of_ble_eq_true rfl), (Nat.le_of_ble_eq_true rfl)⟩ (Nat.le_of_ble_eq_true rfl) ⟨(Nat.le_of_ble_eq_true rfl), (Nat.le_of_ble_eq_true rfl)⟩ d116 (fun adC H25 locs e9 hP25 hD25 hS25 => ?_)
  subst e9
  refine yb_put (q0 := 0) BB.exec BB.bytes hts xm_clsok xf_X8_ok hown hname hK hP25 hD25 hS25 rfl f67 o67 (fun q hq => by rw [List.length_set, List.length_set, List.length_set, List.length_set, List.length_set, List.length_set, List.length_set]; exact hlen q hq) d119 (fun H26 locs hP26 hD26 hS26 => ?_)
  have hP26w : va_P D vwCl ((((((([(a0, .inr (8, (((((((yf_X8.set 0 (.ref (adT 0))).set 1 (.ref (adR 0))).set 7 (.ref (adS 0))).set 2 (.ref (adN 0))).set 3 (.ref (adM 0))).set 4 (.ref (adH 0))).set 5 (.ref (adW 0))).set 6 (.ref (adC 0))))] ++ ((adT 0, .inr (6, yb_fs adT 1 yf_X6 yl_X6)) :: yb_ar cA adT 1 yl_X6)) ++ yw_X1 cA (adT 0) adR) ++ wN cA (adS 0) adM) ++ xm_ws (yadB adN adS sa) cA g2 xs_T) ++ ((adH 0, .inr (4, yb_fs adH 1 yf_X4 yl_X4)) :: yb_ar cA adH 1 yl_X4)) ++ ((adW 0, .inr (2, yb_fs adW 1 yf_X2 yl_X2)) :: yb_ar cA adW 1 yl_X2)) ++ ((adC 0, .inr (0, yb_fs adC 1 yf_X0 yl_X0)) :: yb_ar cA adC 1 yl_X0)) _ := hP26
  have hD26w : va_D (yi_A a0 s.heap.size) ((((((([(a0, .inr (8, (((((((yf_X8.set 0 (.ref (adT 0))).set 1 (.ref (adR 0))).set 7 (.ref (adS 0))).set 2 (.ref (adN 0))).set 3 (.ref (adM 0))).set 4 (.ref (adH 0))).set 5 (.ref (adW 0))).set 6 (.ref (adC 0))))] ++ ((adT 0, .inr (6, yb_fs adT 1 yf_X6 yl_X6)) :: yb_ar cA adT 1 yl_X6)) ++ yw_X1 cA (adT 0) adR) ++ wN cA (adS 0) adM) ++ xm_ws (yadB adN adS sa) cA g2 xs_T) ++ ((adH 0, .inr (4, yb_fs adH 1 yf_X4 yl_X4)) :: yb_ar cA adH 1 yl_X4)) ++ ((adW 0, .inr (2, yb_fs adW 1 yf_X2 yl_X2)) :: yb_ar cA adW 1 yl_X2)) ++ ((adC 0, .inr (0, yb_fs adC 1 yf_X0 yl_X0)) :: yb_ar cA adC 1 yl_X0)) := hD26
  have hS26w := hS26
  refine lv_aload_n BB.exec BB.bytes d122 rfl (x := a0) rfl (lv_iconst BB.exec BB.bytes d123 rfl ?_)
  obtain ⟨cq, k1, k2, k3⟩ := xm_FL_of (xf_X8_ok _ f71) (show vwCl[8]? = some _ from rfl)
  obtain ⟨hin, ⟨ty0, hty⟩, hnm⟩ := xm_clsok _ _ k1
  cases k1
  refine va_put BB.exec BB.bytes hts hin ty0 hty hnm hown hK hP26w hD26w hS26w 0 rfl rfl 8 k2 (hts _ k3) (fun _ h9 => h9) rfl (ty := .int) (by decide +kernel) rfl rfl (Nat.le_of_ble_eq_true rfl) d124 (fun H27 locs hP27 hD27 hS27 => ?_)
  have hP27w : va_P D vwCl ((((((([(a0, .inr (8, ((((((((yf_X8.set 0 (.ref (adT 0))).set 1 (.ref (adR 0))).set 7 (.ref (adS 0))).set 2 (.ref (adN 0))).set 3 (.ref (adM 0))).set 4 (.ref (adH 0))).set 5 (.ref (adW 0))).set 6 (.ref (adC 0))).set 8 (.int (-1))))] ++ ((adT 0, .inr (6, yb_fs adT 1 yf_X6 yl_X6)) :: yb_ar cA adT 1 yl_X6)) ++ yw_X1 cA (adT 0) adR) ++ wN cA (adS 0) adM) ++ xm_ws (yadB adN adS sa) cA g2 xs_T) ++ ((adH 0, .inr (4, yb_fs adH 1 yf_X4 yl_X4)) :: yb_ar cA adH 1 yl_X4)) ++ ((adW 0, .inr (2, yb_fs adW 1 yf_X2 yl_X2)) :: yb_ar cA adW 1 yl_X2)) ++ ((adC 0, .inr (0, yb_fs adC 1 yf_X0 yl_X0)) :: yb_ar cA adC 1 yl_X0)) _ := hP27
  have hD27w : va_D (yi_A a0 s.heap.size) ((((((([(a0, .inr (8, ((((((((yf_X8.set 0 (.ref (adT 0))).set 1 (.ref (adR 0))).set 7 (.ref (adS 0))).set 2 (.ref (adN 0))).set 3 (.ref (adM 0))).set 4 (.ref (adH 0))).set 5 (.ref (adW 0))).set 6 (.ref (adC 0))).set 8 (.int (-1))))] ++ ((adT 0, .inr (6, yb_fs adT 1 yf_X6 yl_X6)) :: yb_ar cA adT 1 yl_X6)) ++ yw_X1 cA (adT 0) adR) ++ wN cA (adS 0) adM) ++ xm_ws (yadB adN adS sa) cA g2 xs_T) ++ ((adH 0, .inr (4, yb_fs adH 1 yf_X4 yl_X4)) :: yb_ar cA adH 1 yl_X4)) ++ ((adW 0, .inr (2, yb_fs adW 1 yf_X2 yl_X2)) :: yb_ar cA adW 1 yl_X2)) ++ ((adC 0, .inr (0, yb_fs adC 1 yf_X0 yl_X0)) :: yb_ar cA adC 1 yl_X0)) := hD27
  have hS27w := hS27
  rw [xs_T_n _ cA g2 b10] at hP27w hD27w
  have hPx := va_P_of y8f (y8_w cA a0 adT adR adN adM adS adH adW adC sa g2) hP27w
  have hDx := va_D_of y8f y8f_i (y8_w cA a0 adT adR adN adM adS adH adW adC sa g2) hD27w
  exact W.vret BB.exec BB.bytes BB.returns (fun t ht hW => ⟨⟨y8ad a0 adT adR adN adM adS adH adW adC sa, gF g2, rfl, rfl, y8ad_s a0 adT adR adN adM adS adH adW adC sa, x8_top g2 b2 b3 bg br bk, by rw [ht]; exact hPx, hDx⟩, hS27w.F ht⟩) hS27w.2.2 d127 BB.notSynchronized
