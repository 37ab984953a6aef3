-- MAKING: the reference's constructor
theorem W_mono {p : Program} {l : Launch} {e : Env} {R : Room} {s : State} {m : MethodId} {args : Array Value} {below : List Frame} {meth : Method} {c : Code} {H : Heap} {locs : List Loc} {cells slots : Nat} {Q Q' : State → Prop} {g : JFrame} (k : W p l e R s m args below meth c H locs cells slots Q g) (h : ∀ t, Q t → Q' t) : W p l e R s m args below meth c H locs cells slots Q' g := fun T hT X => by
  obtain ⟨t, a, b⟩ := k T hT X
  exact ⟨t, a, h t b⟩
theorem MQ_mono {below : List Frame} {Qc Qc' : Array Value → State → Outcome → State → Prop} {a : Array Value} {s : State} {mc ms : Nat} {free free' : Addr → Prop} {t : State} (h : MQ below Qc a s mc ms free t) (hq : ∀ o t, Qc a s o t → Qc' a s o t) (hf : ∀ q, free q → free' q) : MQ below Qc' a s mc ms free' t := by
  obtain ⟨o, h1, h2, h3, L, h4, h5⟩ := h
  exact ⟨o, h1, h2, hq _ _ h3, L, h4, fun q hq => hf _ (h5 q hq)⟩
/-- the constants' texts, outside A -/
def xm_Bq (sa : Nat → Nat) (A : Nat → Prop) (U : State) (H : Heap) : Prop :=
  vk_S 2 xm_ln xm_by (fun i => sa (1000 + i)) (fun i => sa (2000 + i)) A U H ∧ (∀ q ∈ xm_strs, vk_R q.1 q.2.1 q.2.2.2 (sa (1000 + q.2.2.1)) U) ∧
  va_Z (xm_sst 0).1 (xm_sst 0).2.1 (xm_sst 0).2.2 (.int 1) A U H ∧ (va_Z (xm_sst 1).1 (xm_sst 1).2.1 (xm_sst 1).2.2 .null A U H ∨ va_Z (xm_sst 1).1 (xm_sst 1).2.1 (xm_sst 1).2.2 (.ref (sa 3000)) A U H)
theorem xm_Bq.narrow {sa : Nat → Nat} {A A' : Nat → Prop} {U : State} {H : Heap} (h : xm_Bq sa A U H) (hn : ∀ q, A' q → A q) : xm_Bq sa A' U H := ⟨h.1.narrow hn, h.2.1, h.2.2.1.narrow hn, h.2.2.2.imp (fun z => z.narrow hn) (fun z => z.narrow hn)⟩
theorem xm_Bq.B {B : List (Nat × Cell)} {sa ad : Nat → Nat} {A : Nat → Prop} {S : List xC} {U : State} {H : Heap} (h : xm_Bq sa A U H) (he : ∀ k, 1000 ≤ k → ad k = sa k) (hn : ∀ q, xm_A ad S H.size q → A q) : xm_B B ad S U H := by
  obtain ⟨b1, b2, b3, b4⟩ := h.narrow hn
  have e1 : (fun i => ad (1000 + i)) = fun i => sa (1000 + i) := funext fun i => he _ (by omega)
  have e2 : (fun i => ad (2000 + i)) = fun i => sa (2000 + i) := funext fun i => he _ (by omega)
  refine ⟨by rw [e1, e2]; exact b1, fun q hq => by rw [he _ (by omega)]; exact b2 q hq, b3, by rw [he 3000 (by omega)]; exact b4⟩
theorem yb_fs_c {ad ad' : Nat → Nat} : ∀ (bl : List yB) (i : Nat) (fs : List Value), (∀ j, j < i + bl.length → ad j = ad' j) → yb_fs ad i fs bl = yb_fs ad' i fs bl
  | [], _, _, _ => rfl
  | b :: r, i, fs, h => by
    show yb_fs ad (i + 1) (fs.set b.2.2.2.2.1 (.ref (ad i))) r = yb_fs ad' (i + 1) (fs.set b.2.2.2.2.1 (.ref (ad' i))) r
    rw [h i (by simp only [List.length_cons]; omega), yb_fs_c r (i + 1) _ (fun j hj => h j (by simp only [List.length_cons]; omega))]
theorem yb_ar_c {cA : Nat → ClassId} {ad ad' : Nat → Nat} : ∀ (bl : List yB) (i : Nat), (∀ j, j < i + bl.length → ad j = ad' j) → yb_ar cA ad i bl = yb_ar cA ad' i bl
  | [], _, _ => rfl
  | b :: r, i, h => by
    show (ad i, _) :: yb_ar cA ad (i + 1) r = (ad' i, _) :: yb_ar cA ad' (i + 1) r
    rw [h i (by simp only [List.length_cons]; omega), yb_ar_c r (i + 1) (fun j hj => h j (by simp only [List.length_cons]; omega))]
def g9 : xG := (fun k j => if k = 0 then (if j = 17 then -1 else 0) else 0, fun _ _ => 0, fun _ _ => 0)
def yf_X9 : List Value := [.int 0, .null, .int 0, .null, .int 0, .null, .null, .null, .null, .null, .int 0, .int 0, .int 0, .int 0, .int 0, .int 0, .int 0, .int 0, .int 0, .int 0, .int 0, .null, .null, .null, .null, .null, .null, .null, .null, .null, .null, .null, .null, .null, .null, .int 0, .null, .null, .null, .null, .null, .int 0, .null, .null, .null, .int 0, .null, .null, .int 0, .null, .null, .int 0, .int 0, .null, .int 0, .null, .null, .null, .null, .int 0, .null, .null, .null, .null, .null]
def yl_X9a : List yB := [(3, .sipush 2000, 2000, 1, 1, 13), (3, .sipush 2000, 2000, 1, 3, 17), (3, .sipush 403, 403, 0, 5, 20), (3, .sipush 403, 403, 0, 6, 24), (3, .sipush 403, 403, 0, 7, 27), (3, .sipush 403, 403, 3, 8, 30), (2, .bipush 20, 20, 3, 9, 34)]
def yl_X9b : List yB := [(2, .bipush 11, 11, 3, 21, 40), (2, .bipush 11, 11, 0, 22, 43), (1, .iconst 2, 2, 0, 23, 46), (2, .bipush 10, 10, 0, 24, 49), (2, .bipush 10, 10, 0, 25, 52), (2, .bipush 10, 10, 0, 26, 55), (1, .iconst 2, 2, 0, 27, 58), (2, .bipush 12, 12, 0, 28, 61), (1, .iconst 2, 2, 0, 29, 64), (2, .bipush 40, 40, 0, 30, 67), (2, .bipush 40, 40, 0, 31, 70), (1, .iconst 2, 2, 0, 32, 73), (2, .bipush 8, 8, 0, 33, 76), (2, .bipush 8, 8, 0, 34, 79), (3, .sipush 260, 260, 2, 36, 82), (3, .sipush 260, 260, 0, 37, 86), (3, .sipush 260, 260, 0, 38, 89), (3, .sipush 260, 260, 0, 39, 92), (3, .sipush 260, 260, 0, 40, 95), (3, .sipush 840, 840, 0, 42, 98), (3, .sipush 840, 840, 0, 43, 101), (2, .bipush 64, 64, 0, 44, 104), (2, .bipush 9, 9, 0, 46, 107), (3, .sipush 400, 400, 0, 47, 110), (2, .bipush 38, 38, 0, 49, 113), (2, .bipush 38, 38, 0, 50, 116), (2, .bipush 30, 30, 0, 53, 119), (3, .sipush 1520, 1520, 0, 55, 122), (2, .bipush 36, 36, 2, 56, 125), (3, .sipush 384, 384, 0, 57, 128), (2, .bipush 35, 35, 0, 58, 131), (2, .bipush 20, 20, 0, 60, 134), (2, .bipush 20, 20, 0, 61, 137), (2, .bipush 20, 20, 2, 62, 140), (1, .iconst 3, 3, 2, 63, 143), (2, .bipush 114, 114, 0, 64, 146)]
def yw_X9 (cA : Nat → ClassId) (ad : Nat → Nat) : va_W := (ad 0, .inr (9, yb_fs ad 8 ((yb_fs ad 1 yf_X9 yl_X9a).set 17 (.int (-1))) yl_X9b)) :: (yb_ar cA ad 1 yl_X9a ++ yb_ar cA ad 8 yl_X9b)
def yb_find (k : Nat) : Nat → List yB → Option Nat
  | _, [] => none
  | i, b :: r => match yb_find k (i + 1) r with
    | some j => some j
    | none => if b.2.2.2.2.1 = k then some i else none
def yb_pick (ad : Nat → Nat) (o : Option Nat) (x : Option Value) : Option Value := match o with
  | some j => x.map (fun _ => .ref (ad j))
  | none => x
theorem yb_set_at (fs : List Value) (i k : Nat) (v : Value) : (fs.set i v)[k]? = if i = k then (fs[k]?).map (fun _ => v) else fs[k]? := by
  rw [List.getElem?_set]
  by_cases e : i = k
  · subst e
    rw [if_pos rfl, if_pos rfl]
    by_cases h : i < fs.length
    · rw [if_pos h, List.getElem?_eq_getElem h]; rfl
    · rw [if_neg h, List.getElem?_eq_none (by omega)]; rfl
  · rw [if_neg e, if_neg e]
def yb_alt (o : Option Nat) (e : Prop) [Decidable e] (i : Nat) : Option Nat := match o with
  | some j => some j
  | none => if e then some i else none
theorem yb_find_s (k i : Nat) (b : yB) (r : List yB) : yb_find k i (b :: r) = yb_alt (yb_find k (i + 1) r) (b.2.2.2.2.1 = k) i := rfl
theorem yb_fs_at (ad : Nat → Nat) : ∀ (bl : List yB) (i : Nat) (fs : List Value) (k : Nat), (yb_fs ad i fs bl)[k]? = yb_pick ad (yb_find k i bl) (fs[k]?)
  | [], _, _, _ => rfl
  | b :: r, i, fs, k => by
    show (yb_fs ad (i + 1) (fs.set b.2.2.2.2.1 (.ref (ad i))) r)[k]? = _
    rw [yb_fs_at ad r (i + 1), yb_set_at, yb_find_s]
    generalize yb_find k (i + 1) r = o
    by_cases e : b.2.2.2.2.1 = k
    · rw [if_pos e]
      cases o with
      | some j => cases fs[k]? <;> rfl
      | none => unfold yb_alt; dsimp only; rw [if_pos e]; cases fs[k]? <;> rfl
    · rw [if_neg e]
      cases o with
      | some j => rfl
      | none => unfold yb_alt; dsimp only; rw [if_neg e]
def yb_fin (ad : Nat → Nat) (k : Nat) : Option Value := yb_pick ad (yb_find k 8 yl_X9b) (if 17 = k then (yb_pick ad (yb_find k 1 yl_X9a) (yf_X9[k]?)).map (fun _ => .int (-1)) else yb_pick ad (yb_find k 1 yl_X9a) (yf_X9[k]?))
def ys_X9 : List (Nat × Nat) := match xm_nth xs_M 0 with
  | .inr q => q.2
  | .inl _ => []
set_option maxRecDepth 100000 in
theorem yw_X9_f (ad : Nat → Nat) : ∀ k, k < 65 → (ys_X9[k]?).map (xm_fv ad g9 0 (0 + k)) = yb_fin ad k
  | 0, _ => rfl
  | 1, _ => rfl
  | 2, _ => rfl
  | 3, _ => rfl
  | 4, _ => rfl
  | 5, _ => rfl
  | 6, _ => rfl
  | 7, _ => rfl
  | 8, _ => rfl
  | 9, _ => rfl
  | 10, _ => rfl
  | 11, _ => rfl
  | 12, _ => rfl
  | 13, _ => rfl
  | 14, _ => rfl
  | 15, _ => rfl
  | 16, _ => rfl
  | 17, _ => rfl
  | 18, _ => rfl
  | 19, _ => rfl
  | 20, _ => rfl
  | 21, _ => rfl
  | 22, _ => rfl
  | 23, _ => rfl
  | 24, _ => rfl
  | 25, _ => rfl
  | 26, _ => rfl
  | 27, _ => rfl
  | 28, _ => rfl
  | 29, _ => rfl
  | 30, _ => rfl
  | 31, _ => rfl
  | 32, _ => rfl
  | 33, _ => rfl
  | 34, _ => rfl
  | 35, _ => rfl
  | 36, _ => rfl
  | 37, _ => rfl
  | 38, _ => rfl
  | 39, _ => rfl
  | 40, _ => rfl
  | 41, _ => rfl
  | 42, _ => rfl
  | 43, _ => rfl
  | 44, _ => rfl
  | 45, _ => rfl
  | 46, _ => rfl
  | 47, _ => rfl
  | 48, _ => rfl
  | 49, _ => rfl
  | 50, _ => rfl
  | 51, _ => rfl
  | 52, _ => rfl
  | 53, _ => rfl
  | 54, _ => rfl
  | 55, _ => rfl
  | 56, _ => rfl
  | 57, _ => rfl
  | 58, _ => rfl
  | 59, _ => rfl
  | 60, _ => rfl
  | 61, _ => rfl
  | 62, _ => rfl
  | 63, _ => rfl
  | 64, _ => rfl
  | k + 65, h => absurd h (by omega)
theorem yw_X9_l (ad : Nat → Nat) : xm_mi (fun j f => xm_fv ad g9 0 j f) 0 ys_X9 = yb_fs ad 8 ((yb_fs ad 1 yf_X9 yl_X9a).set 17 (.int (-1))) yl_X9b := by
  apply List.ext_getElem?
  intro k
  rw [xm_mi_at, yb_fs_at, yb_set_at, yb_fs_at]
  by_cases h : k < 65
  · exact yw_X9_f ad k h
  · have e1 : ys_X9[k]? = none := List.getElem?_eq_none (by show 65 ≤ k; omega)
    have e2 : yf_X9[k]? = none := List.getElem?_eq_none (by show 65 ≤ k; omega)
    rw [e1, e2]
    generalize yb_find k 8 yl_X9b = o1
    generalize yb_find k 1 yl_X9a = o2
    by_cases e : 17 = k
    · rw [if_pos e]; cases o1 <;> cases o2 <;> rfl
    · rw [if_neg e]; cases o1 <;> cases o2 <;> rfl
theorem yw_X9_z (cA : Nat → ClassId) (ad : Nat → Nat) : (xs_M[0]?).map (fun c => (ad 0, xm_ce2 ad cA g9 0 c)) = (yw_X9 cA ad)[0]? := by
  show some (ad 0, Sum.inr (9, xm_mi (fun j f => xm_fv ad g9 0 j f) 0 ys_X9)) = some (ad 0, Sum.inr (9, _))
  rw [yw_X9_l]
set_option maxRecDepth 100000 in
theorem yw_X9_0 (cA : Nat → ClassId) (ad : Nat → Nat) : ∀ k, k < 44 → (xs_M[k]?).map (fun c => (ad k, xm_ce2 ad cA g9 k c)) = (yw_X9 cA ad)[k]?
  | 0, _ => yw_X9_z cA ad
  | 1, _ => rfl
  | 2, _ => rfl
  | 3, _ => rfl
  | 4, _ => rfl
  | 5, _ => rfl
  | 6, _ => rfl
  | 7, _ => rfl
  | 8, _ => rfl
  | 9, _ => rfl
  | 10, _ => rfl
  | 11, _ => rfl
  | 12, _ => rfl
  | 13, _ => rfl
  | 14, _ => rfl
  | 15, _ => rfl
  | 16, _ => rfl
  | 17, _ => rfl
  | 18, _ => rfl
  | 19, _ => rfl
  | 20, _ => rfl
  | 21, _ => rfl
  | 22, _ => rfl
  | 23, _ => rfl
  | 24, _ => rfl
  | 25, _ => rfl
  | 26, _ => rfl
  | 27, _ => rfl
  | 28, _ => rfl
  | 29, _ => rfl
  | 30, _ => rfl
  | 31, _ => rfl
  | 32, _ => rfl
  | 33, _ => rfl
  | 34, _ => rfl
  | 35, _ => rfl
  | 36, _ => rfl
  | 37, _ => rfl
  | 38, _ => rfl
  | 39, _ => rfl
  | 40, _ => rfl
  | 41, _ => rfl
  | 42, _ => rfl
  | 43, _ => rfl
  | k + 44, h => absurd h (by omega)
theorem yw_X9_w (cA : Nat → ClassId) (ad : Nat → Nat) (k : Nat) : (xm_ws ad cA g9 xs_M)[k]? = (yw_X9 cA ad)[k]? := by
  by_cases h : k < 44
  · rw [xm_ws_q]; exact yw_X9_0 cA ad k h
  · rw [xm_ws_n (by show 44 ≤ k; omega), List.getElem?_eq_none (by show 44 ≤ k; omega)]
def y9_Pre (D : va_G) (cA : Nat → ClassId) (sa : Nat → Nat) (sz a0 : Nat) : Array Value → State → Prop := va_Pc [.ref a0] (fun U => U.heap.size = sz ∧ va_P D vwCl [(a0, .inr (9, yf_X9))] U.heap ∧ va_K D vwCl (xm_tys cA) U ∧ xm_Bq sa (yi_A a0 sz) U U.heap)
def y9_Post (D : va_G) (cA : Nat → ClassId) (sa : Nat → Nat) (sz a0 : Nat) : Array Value → State → Outcome → State → Prop := fun _ st oc t => (∃ (ad : Nat → Nat) (g : xG), ad 0 = a0 ∧ oc = .returned none ∧ (∀ k, 1000 ≤ k → ad k = sa k) ∧ mTp 0 s0 g ∧ va_P D vwCl (xm_ws ad cA g xs_M) t.heap ∧ va_D (yi_A a0 sz) (xm_ws ad cA g xs_M)) ∧ va_F (yi_A a0 sz) st t
theorem y9_lk {l : Launch} {D : va_G} {cA : Nat → ClassId} {B : List (Nat × Cell)} : xm_LKs l D cA B xs_M 9 RX9 xk_X9_init2 [xt_X9_plain, xt_X9_letters, xt_X9_begins, xt_X9_keepsRow] := xm_lk xl_X9_149 xp_X9_plain (by decide) (xm_lk xl_X9_153 xp_X9_letters (by decide) (xm_lk xl_X9_157 xp_X9_begins (by decide) (xm_lk xl_X9_160 xp_X9_keepsRow (by decide) xm_lk0)))
set_option maxRecDepth 100000 in
theorem y9_c1 : (decide (decode cX9_init 0 = .ok (.aload_n 0, 1)) && decide (decode cX9_init 1 = .ok (.invokespecial 7, 3)) && yb_chk cX9_init xf_X9 RX9 9 4 yl_X9a 66 && decide (decode cX9_init 66 = .ok (.aload_n 0, 1)) && decide (decode cX9_init 67 = .ok (.iconst (-1), 1)) && decide (decode cX9_init 68 = .ok (.putfield 37, 3)) && yb_chk cX9_init xf_X9 RX9 9 71 yl_X9b 364 && xf_X9.elem (37, 9, 17)) = true := by decide +kernel
theorem y9_met {l : Launch} {D : va_G} {cA : Nat → ClassId} (sa : Nat → Nat) (a0 sz : Nat) : Met l yX9_init (.code yX9_init cX9_init 1 none :: xm_tbl) (xm_rq 9 43 11511) (y9_Pre D cA sa sz a0) (y9_Post D cA sa sz a0) 43 11511 (yi_A a0 sz) := by
  have hchk := y9_c1
  simp only [Bool.and_eq_true, decide_eq_true_eq, List.elem_eq_mem] at hchk
  obtain ⟨⟨⟨⟨⟨⟨⟨d0, d1⟩, hc1⟩, q0⟩, q1⟩, q2⟩, hc2⟩, hfl⟩ := hchk
  refine xm_ofW (cc := cX9_init) (maxL := 1) (ret := none) (by decide +kernel) rfl ?_
  intro p e s m args below meth c s₁ BB hml hv
  obtain ⟨rfl, hsz, hP, hK, hB⟩ := hv
  subst hsz
  have hts0 := atoms_spec (ws := Cond.code yX9_init cX9_init 1 none :: xm_tbl) BB.pre
  have hts : ∀ w ∈ xm_tbl, w.before _ s = true := fun w hw => hts0 w (List.mem_cons_of_mem _ hw)
  have hown : s.vm.findClass RX9 = some m.cls := findClass_of_methodNamed BB.named
  have hname : meth.name = "<init>" := (name_of_methodNamed BB.named BB.method).1
  have hlen : ∀ q : vw_C, vwCl[9]? = some q → q.2.2 ≤ yf_X9.length := fun q hq => by cases hq; exact Nat.le_of_ble_eq_true rfl
  rw [lg_entry_eq]
  refine lv_aload_n BB.exec BB.bytes d0 rfl (x := a0) rfl ?_
  refine W.objInit BB.exec BB.bytes hown (hts _ (xm_in 1116 (by decide +kernel) rfl)) (hts _ yo_i) (hts _ yo_c) rfl hml.symm (a := a0) (rest := []) rfl d1 (by show 1 ≤ 9; decide) (by show 2 * 0 + 0 + 12 ≤ 60 * 9; decide) ?_
  refine yb_all (A := yi_A a0 s.heap.size) (H0 := s.heap) (a0 := a0) BB.exec BB.bytes hts xm_clsok xf_X9_ok hown hname hK (fun q hq => Or.inr hq) rfl yl_X9a 4 0 0 1 (fun _ => a0) yf_X9 [] s.heap [] hc1 hlen (by decide) (by decide) hP (yi_D1 (Or.inl rfl)) va_S.rf (fun ad1 H1 locs1 ha1 hP1 hD1 hS1 => ?_)
  refine lv_aload_n BB.exec BB.bytes q0 rfl (x := a0) rfl (lv_iconst BB.exec BB.bytes q1 rfl ?_)
  obtain ⟨cq, f1, f2, f3⟩ := xm_FL_of (xf_X9_ok _ hfl) (show vwCl[9]? = some _ from rfl)
  obtain ⟨hin, ⟨ty0, hty⟩, hnm⟩ := xm_clsok _ _ f1
  cases f1
  refine va_put BB.exec BB.bytes hts hin ty0 hty hnm hown hK hP1 hD1 hS1 0 rfl rfl 17 f2 (hts _ f3) (fun _ h9 => h9) rfl (ty := .int) (by decide +kernel) rfl rfl (by rw [yb_fs_len]; exact f2) q2 (fun H2 locs2 hP2 hD2 hS2 => ?_)
  refine yb_all (A := yi_A a0 s.heap.size) (H0 := s.heap) (a0 := a0) BB.exec BB.bytes hts xm_clsok xf_X9_ok hown hname hK (fun q hq => Or.inr hq) rfl yl_X9b 71 _ _ 8 ad1 _ _ H2 locs2 hc2 (fun q hq => by rw [List.length_set, yb_fs_len]; exact hlen q hq) (by decide) (by decide) hP2 hD2 hS2 (fun ad2 H3 locs3 ha2 hP3 hD3 hS3 => ?_)
  obtain ⟨ad, had⟩ : ∃ ad : Nat → Nat, ad = fun k => if k < 44 then ad2 k else sa k := ⟨_, rfl⟩
  have a2 : ∀ j, j < 44 → ad2 j = ad j := fun j hj => by rw [had]; dsimp only; rw [if_pos hj]
  have a1 : ∀ j, j < 8 → ad1 j = ad j := fun j hj => by rw [← ha2 j hj]; exact a2 j (by omega)
  have a0' : ad 0 = a0 := by rw [← a1 0 (by decide)]; exact ha1 0 (by decide)
  have esa : ∀ k, 1000 ≤ k → ad k = sa k := fun k hk => by rw [had]; dsimp only; rw [if_neg (by omega)]
  have ew : ((a0, Sum.inr (9, yb_fs ad2 8 ((yb_fs ad1 1 yf_X9 yl_X9a).set 17 (.int (-1))) yl_X9b)) :: (([] ++ yb_ar cA ad1 1 yl_X9a) ++ yb_ar cA ad2 8 yl_X9b) : va_W) = yw_X9 cA ad := by
    unfold yw_X9
    rw [a0', yb_fs_c (ad := ad2) (ad' := ad) yl_X9b 8 _ (fun j hj => a2 j hj), yb_fs_c (ad := ad1) (ad' := ad) yl_X9a 1 _ (fun j hj => a1 j hj), yb_ar_c (ad := ad2) (ad' := ad) yl_X9b 8 (fun j hj => a2 j hj), yb_ar_c (ad := ad1) (ad' := ad) yl_X9a 1 (fun j hj => a1 j hj)]
    rfl
  have hP3 : va_P D vwCl (yw_X9 cA ad) H3 := by rw [← ew]; exact hP3
  have hD3 : va_D (yi_A a0 s.heap.size) (yw_X9 cA ad) := by rw [← ew]; exact hD3
  have hPw : va_P D vwCl (xm_ws ad cA g9 xs_M) H3 := va_P_of (fun k => k) (yw_X9_w cA ad) hP3
  have hDw : va_D (yi_A a0 s.heap.size) (xm_ws ad cA g9 xs_M) := va_D_of (fun k => k) (fun _ _ e => e) (yw_X9_w cA ad) hD3
  have hAA : ∀ q, xm_A ad xs_M s.heap.size q → yi_A a0 s.heap.size q := fun q hq => by
    rcases hq with ⟨k, hk, rfl⟩ | hq
    · obtain ⟨cc, hcc⟩ : ∃ cc, xs_M[k]? = some cc := ⟨_, List.getElem?_eq_getElem hk⟩
      exact hDw.2 k _ (xm_ws_at hcc)
    · exact Or.inr hq
  have hAB : ∀ q, yi_A a0 s.heap.size q → xm_A ad xs_M s.heap.size q := fun q hq => by
    rcases hq with rfl | hq
    · exact Or.inl ⟨0, by decide, a0'.symm⟩
    · exact Or.inr hq
  have hDx : va_D (xm_A ad xs_M s.heap.size) (xm_ws ad cA g9 xs_M) := ⟨hDw.1, fun k q hk => hAB _ (hDw.2 k q hk)⟩
  have hSx : va_S (xm_A ad xs_M s.heap.size) s.heap H3 locs3 := ⟨hS3.1, fun q h1 h2 => hS3.2.1 q h1 (fun z => h2 (hAB _ z)), fun q hq => hAB _ (hS3.2.2 q hq)⟩
  have hF : xm_Fix p s m #[.ref a0] meth c cX9_init 1 none RX9 D cA [] xs_M ad := ⟨⟨BB.exec, BB.bytes, hml⟩, ⟨BB.returns, BB.notSynchronized⟩, hown, hts, hK, hB.B esa hAA⟩
  have k := y9_walk g9 (fun o g' => o = none ∧ mTp 0 s0 g') (fun j hj => by rcases hj with rfl | rfl | rfl | rfl <;> rfl) rfl (fun s hs => rfl) (fun g' h => ⟨rfl, h⟩)
  have hw := k _ (fun is L st g q => xm_closed (p := p) (l := l) (en := e) (s := s) (m := m) (args := #[.ref a0]) (below := below) (meth := meth) (c := c) (r := 9) (mc := 43) (ms := 11511) (Q := fun o g' => o = none ∧ mTp 0 s0 g') hF xm_clsok xs_M_ok xf_X9_ok xi_X9_ok xj_X9_ok y9_lk xo_X9_init2 is L st g q)
  obtain ⟨e0, r0, he, hw⟩ := hw
  have hc0 : e0.2.1 = 364 := by
    have : xc_X9_init2.head? = some e0 := by rw [he]; rfl
    have h2 : (xc_X9_init2.head?).map (fun z => z.2.1) = some 364 := by rfl
    rw [this] at h2
    exact Option.some.inj h2
  have hl : xm_L ad ((lg_sl [Value.ref a0] ++ List.replicate (1 - (lg_sl [Value.ref a0]).length) Slot.unset).toArray) 1 [.ref 0] := by
    have := xm_entry ad [.ref 0] (n := 1) (Nat.le_refl 1)
    have ea : ([Value.ref 0] : List Value).map (xm_cv ad) = [Value.ref a0] := by show [Value.ref (ad 0)] = _; rw [a0']
    rw [ea] at this
    exact this
  have := hw (List.suffix_refl _) H3 locs3 _ hPw hDx hSx hl
  rw [hc0] at this
  refine W_mono this (fun t ht => MQ_mono ht ?_ hAA)
  rintro o t ⟨⟨o1, g', rfl, ⟨rfl, hm⟩, hP'⟩, hF'⟩
  exact ⟨⟨ad, g', a0', rfl, esa, hm, hP', xm_D_cong hDw⟩, hF'.1, fun q h1 h2 => hF'.2 q h1 (fun z => h2 (hAA _ z))⟩
