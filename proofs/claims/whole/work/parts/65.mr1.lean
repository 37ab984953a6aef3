-- THE REFERENCE READS: small steps
def pMk (k : Nat) : Nat := if k = 0 then 0 else if k = 1 then 3 else if k = 2 then 1 else if k = 3 then 2 else if k = 59 then 4 else if k = 61 then 5 else if k = 40 then 6 else if k = 41 then 7 else if k = 43 then 8 else if k = 45 then 9 else if k = 42 then 10 else if k = 47 then 15 else if k = 60 then 13 else k - 108
def pVk (k : Nat) : Bool := decide (k ≤ 3) || (decide (k = 59) || decide (k = 61) || decide (k = 40) || decide (k = 41) || decide (k = 43) || decide (k = 45) || decide (k = 42) || decide (k = 47) || decide (k = 60)) || (decide (128 ≤ k) && decide (k < 148))
theorem pMk_inj : ∀ k, k < 148 → pVk k = true → ∀ j, j < 148 → pVk j = true → (pMk k = pMk j ↔ k = j) := by decide +kernel
theorem pMk_lt : ∀ k, k < 148 → pVk k = true → pMk k < 40 := by decide +kernel
theorem pMk_var : ∀ k, k < 148 → pVk k = true → ((31 ≤ pMk k ∧ pMk k ≤ 39) ↔ (139 ≤ k ∧ k ≤ 147)) := by decide +kernel
theorem pMk_v : ∀ k, k < 148 → 139 ≤ k → pMk k - 31 = k - 139 ∧ 31 ≤ pMk k := by decide +kernel
def mTk (k : vTk) (N : Nat) (g : xG) : Prop := N ≤ 400 ∧ (k.1 N = 0 ∨ k.1 N = 1 ∨ N = 400) ∧ ∀ i, i ≤ N → g.1 3 i = nI (pMk (k.1 i)) ∧ g.1 4 i = nI (k.2.1 i) ∧ (k.1 i < 148 ∧ pVk (k.1 i) = true) ∧ (k.1 i = 2 → g.2.1 6 i = pNm 27 (k.2.2.2 i)) ∧ (k.1 i = 3 → g.1 5 i = nI (k.2.2.1 i) ∧ k.2.2.1 i < 10000)
theorem mTk.lt {k : vTk} {N a : Nat} {g : xG} (h : mTk k N g) (ha : a ≤ N) (h0 : k.1 a ≠ 0) (h1 : k.1 a ≠ 1) (h4 : a < 400) : a + 1 ≤ N := by
  refine Nat.lt_of_le_of_ne ha fun e => ?_
  subst e
  rcases h.2.1 with q | q | q
  · exact h0 q
  · exact h1 q
  · omega
def mFl (f p : Nat) (g : xG) : Prop := g.1 0 13 = nI f ∧ (f = 1 ∨ f = 2) ∧ g.1 0 14 = nI p ∧ ∃ a, a ≤ 400 ∧ g.1 0 11 = nI a
theorem mFl.n0 {f p : Nat} {g : xG} (h : mFl f p g) : ¬ g.1 0 13 = 0 := by
  rw [h.1]; rcases h.2.1 with q | q <;> rw [q] <;> decide
theorem mFl.k {f p : Nat} {g g' : xG} (h : mFl f p g) (e1 : g'.1 0 11 = g.1 0 11) (e3 : g'.1 0 13 = g.1 0 13) (e4 : g'.1 0 14 = g.1 0 14) : mFl f p g' := by
  obtain ⟨h1, h2, h3, a, h4, h5⟩ := h
  exact ⟨e3.trans h1, h2, e4.trans h3, a, h4, e1.trans h5⟩
/-- no fault, or one of the two -/
def mOk (g : xG) : Prop := g.1 0 13 = 0 ∨ g.1 0 13 = 1 ∨ g.1 0 13 = 2
theorem mFl.ok {f p : Nat} {g : xG} (h : mFl f p g) : mOk g := by
  unfold mOk
  rw [h.1]; rcases h.2.1 with q | q <;> rw [q]
  · exact Or.inr (Or.inl rfl)
  · exact Or.inr (Or.inr rfl)
def xt_X9_is : xT := xm_fn (Z := Int32 × Nat) (fun (j, a) av g => av = [.ref 0, .int j] ∧ a ≤ 400 ∧ g.1 0 11 = nI a) (fun (j, a) g => some (.int (if g.1 0 13 = 0 ∧ g.1 3 a = j then 1 else 0))) (fun _ g => g)
set_option maxRecDepth 100000 in
set_option maxHeartbeats 400000 in
theorem xp_X9_is {l : Launch} {D : va_G} {cA : Nat → ClassId} {B : List (Nat × Cell)} : xm_Met l D cA B xs_M 0 yX9_is cX9_is 2 (some .boolean) xt_X9_is := by
  have hm : xm_monos [] := xm_m0
  refine xm_meth (own := RX9) (ks := xk_X9_is) (C := xc_X9_is) (Ts := []) (by decide +kernel) rfl xm_clsok xs_M_ok xf_X9_ok xi_X9_ok xj_X9_ok xm_lk0 xo_X9_is ?_ ?_
  · rintro av g Q ⟨z, ⟨rfl, -⟩, -⟩
    exact Nat.le_of_ble_eq_true rfl
  · rintro av g Q ⟨⟨j, a⟩, ⟨rfl, ha, h⟩, hQ⟩
    dsimp only at ha h hQ
    refine xm_run_go hm 20 ⟨fun z => ⟨Or.inl rfl, xq_i hQ ?_⟩, fun z => ⟨a, ⟨by omega, h⟩, ⟨fun y => ⟨Or.inl rfl, xq_i hQ ?_⟩, fun y => ⟨Or.inr rfl, xq_i hQ ?_⟩⟩⟩⟩
    · rw [if_neg (fun q => z q.1)]
    · rw [if_neg (fun q => y q.2)]
    · rw [if_pos ⟨z, y⟩]
def nFail (x : Int32) (a : Nat) (g : xG) : xG := if g.1 0 13 = 0 then xm_sI (xm_sI g 0 13 x) 0 14 (g.1 4 a) else g
def xt_X9_fail : xT := xm_fn (Z := Int32 × Nat) (fun (x, a) av g => av = [.ref 0, .int x] ∧ a ≤ 400 ∧ g.1 0 11 = nI a ∧ mOk g) (fun _ _ => none) (fun (x, a) g => nFail x a g)
set_option maxRecDepth 100000 in
set_option maxHeartbeats 400000 in
theorem xp_X9_fail {l : Launch} {D : va_G} {cA : Nat → ClassId} {B : List (Nat × Cell)} : xm_Met l D cA B xs_M 0 yX9_fail cX9_fail 2 none xt_X9_fail := by
  have hm : xm_monos [] := xm_m0
  refine xm_meth (own := RX9) (ks := xk_X9_fail) (C := xc_X9_fail) (Ts := []) (by decide +kernel) rfl xm_clsok xs_M_ok xf_X9_ok xi_X9_ok xj_X9_ok xm_lk0 xo_X9_fail ?_ ?_
  · rintro av g Q ⟨z, ⟨rfl, -⟩, -⟩
    exact Nat.le_of_ble_eq_true rfl
  · rintro av g Q ⟨⟨x, a⟩, ⟨rfl, ha, h, ok⟩, hQ⟩
    dsimp only at ha h ok hQ
    unfold nFail at hQ
    have h' : (xm_sI g 0 13 x).1 0 11 = nI a := by rw [xg_in, if_neg (by decide)]; exact h
    refine xm_run_go hm 30 ⟨fun z => ⟨a, ⟨by omega, h'⟩, ?_⟩, fun z => ?_⟩
    · have z0 : g.1 0 13 = 0 := by
        rcases ok with q | q | q
        · exact q
        · rw [q] at z; exact absurd z (by decide)
        · rw [q] at z; exact absurd z (by decide)
      rw [if_pos z0] at hQ
      rw [xg_off _ _ _ (by decide)]; exact hQ
    · rw [if_neg (fun q => by rw [q] at z; exact absurd z (by decide))] at hQ
      exact hQ
theorem nFail_y {x : Int32} {a : Nat} {g : xG} (h : g.1 0 13 = 0) : nFail x a g = xm_sI (xm_sI g 0 13 x) 0 14 (g.1 4 a) := by unfold nFail; rw [if_pos h]
theorem nFail_n {x : Int32} {a : Nat} {g : xG} (h : ¬ g.1 0 13 = 0) : nFail x a g = g := by unfold nFail; rw [if_neg h]
theorem nFail_o {x : Int32} {a k : Nat} {g : xG} (hk : k ≠ 0) : (nFail x a g).1 k = g.1 k := by
  unfold nFail
  split
  · rw [xg_off _ _ _ hk, xg_off _ _ _ hk]
  · rfl
theorem nFail_j {x : Int32} {a j : Nat} {g : xG} (h1 : j ≠ 13) (h2 : j ≠ 14) : (nFail x a g).1 0 j = g.1 0 j := by
  unfold nFail
  split
  · rw [xg_in, if_neg h2, xg_in, if_neg h1]
  · rfl
theorem nFail_2 {x : Int32} {a : Nat} {g : xG} : (nFail x a g).2 = g.2 := by unfold nFail; split <;> rfl
theorem nFail_fl {f a : Nat} {g : xG} {p : Nat} (h : g.1 0 13 = 0) (hf : f = 1 ∨ f = 2) (ha : a ≤ 400) (h7 : g.1 0 11 = nI a) (hp : g.1 4 a = nI p) : mFl f p (nFail (nI f) a g) := by
  rw [nFail_y h]
  exact ⟨by rw [xg_in, if_neg (by decide), xg_in, if_pos rfl], hf, by rw [xg_in, if_pos rfl]; exact hp, a, ha, by rw [xg_in, if_neg (by decide), xg_in, if_neg (by decide)]; exact h7⟩
def nGo (a : Nat) (g : xG) : xG := if a = 400 then nFail 2 a g else xm_sI g 0 11 (nI (a + 1))
def xt_X9_goesOn : xT := xm_fn (Z := Nat) (fun a av g => av = [.ref 0] ∧ a ≤ 400 ∧ g.1 0 11 = nI a ∧ mOk g) (fun _ _ => none) (fun a g => nGo a g)
set_option maxRecDepth 100000 in
set_option maxHeartbeats 400000 in
theorem xp_X9_goesOn {l : Launch} {D : va_G} {cA : Nat → ClassId} {B : List (Nat × Cell)} : xm_Met l D cA B xs_M 1 yX9_goesOn cX9_goesOn 1 none xt_X9_goesOn := by
  have hm : xm_monos [xt_X9_fail] := ⟨(by first | exact xm_fn_mono _ _ _ | exact xm_rl_mono _ _), trivial⟩
  refine xm_meth (own := RX9) (ks := xk_X9_goesOn) (C := xc_X9_goesOn) (Ts := [xt_X9_fail]) (by decide +kernel) rfl xm_clsok xs_M_ok xf_X9_ok xi_X9_ok xj_X9_ok (xm_lk xl_X9_215 xp_X9_fail (by decide) xm_lk0) xo_X9_goesOn ?_ ?_
  · rintro av g Q ⟨z, ⟨rfl, -⟩, -⟩
    exact Nat.le_of_ble_eq_true rfl
  · rintro av g Q ⟨a, ⟨rfl, ha, h, ok⟩, hQ⟩
    dsimp only at ha h ok hQ
    unfold nGo at hQ
    by_cases a4 : a = 400
    · rw [if_pos a4] at hQ
      refine xm_run_go hm 30 ⟨fun z => ?_, fun _ => ⟨(2, a), ⟨rfl, ha, h, ok⟩, hQ⟩⟩
      rw [h, a4] at z; exact absurd rfl z
    · rw [if_neg a4, ← nI_1, ← h] at hQ
      refine xm_run_go hm 30 ⟨fun _ => hQ, fun z => ?_⟩
      rw [h] at z
      exact absurd ((nI_eq (b := 400) (by omega) (by decide)).mp z) a4
def nMust (j : Int32) (a : Nat) (g : xG) : xG := if g.1 0 13 = 0 ∧ g.1 3 a = j then nGo a g else nFail 1 a g
def xt_X9_must : xT := xm_fn (Z := Int32 × Nat) (fun (j, a) av g => av = [.ref 0, .int j] ∧ a ≤ 400 ∧ g.1 0 11 = nI a ∧ mOk g) (fun _ _ => none) (fun (j, a) g => nMust j a g)
set_option maxRecDepth 100000 in
set_option maxHeartbeats 400000 in
theorem xp_X9_must {l : Launch} {D : va_G} {cA : Nat → ClassId} {B : List (Nat × Cell)} : xm_Met l D cA B xs_M 2 yX9_must cX9_must 2 none xt_X9_must := by
  have hm : xm_monos [xt_X9_is, xt_X9_goesOn, xt_X9_fail] := ⟨(by first | exact xm_fn_mono _ _ _ | exact xm_rl_mono _ _), (by first | exact xm_fn_mono _ _ _ | exact xm_rl_mono _ _), (by first | exact xm_fn_mono _ _ _ | exact xm_rl_mono _ _), trivial⟩
  refine xm_meth (own := RX9) (ks := xk_X9_must) (C := xc_X9_must) (Ts := [xt_X9_is, xt_X9_goesOn, xt_X9_fail]) (by decide +kernel) rfl xm_clsok xs_M_ok xf_X9_ok xi_X9_ok xj_X9_ok (xm_lk xl_X9_218 xp_X9_is (by decide) (xm_lk xl_X9_221 xp_X9_goesOn (by decide) (xm_lk xl_X9_215 xp_X9_fail (by decide) xm_lk0))) xo_X9_must ?_ ?_
  · rintro av g Q ⟨z, ⟨rfl, -⟩, -⟩
    exact Nat.le_of_ble_eq_true rfl
  · rintro av g Q ⟨⟨j, a⟩, ⟨rfl, ha, h, ok⟩, hQ⟩
    dsimp only at ha h ok hQ
    unfold nMust at hQ
    by_cases c : g.1 0 13 = 0 ∧ g.1 3 a = j
    · rw [if_pos c] at hQ
      refine xm_run_go hm 30 ⟨(j, a), ⟨rfl, ha, h⟩, ⟨fun z => ?_, fun _ => ⟨a, ⟨rfl, ha, h, ok⟩, hQ⟩⟩⟩
      rw [if_pos c] at z; exact absurd z (by decide)
    · rw [if_neg c] at hQ
      refine xm_run_go hm 30 ⟨(j, a), ⟨rfl, ha, h⟩, ⟨fun _ => ⟨(1, a), ⟨rfl, ha, h, ok⟩, hQ⟩, fun z => ?_⟩⟩
      rw [if_neg c] at z; exact absurd rfl z
def nEmit (k v : Int32) (y : Nat) (g : xG) : xG := xm_sI (xm_sI (xm_sI g 27 y k) 28 y v) 0 41 (nI (y + 1))
def xt_X9_emit : xT := xm_fn (Z := Int32 × Int32 × Nat) (fun (k, v, y) av g => av = [.ref 0, .int k, .int v] ∧ y < 840 ∧ g.1 0 41 = nI y) (fun _ _ => none) (fun (k, v, y) g => nEmit k v y g)
set_option maxRecDepth 100000 in
set_option maxHeartbeats 400000 in
theorem xp_X9_emit {l : Launch} {D : va_G} {cA : Nat → ClassId} {B : List (Nat × Cell)} : xm_Met l D cA B xs_M 0 yX9_emit cX9_emit 3 none xt_X9_emit := by
  have hm : xm_monos [] := xm_m0
  refine xm_meth (own := RX9) (ks := xk_X9_emit) (C := xc_X9_emit) (Ts := []) (by decide +kernel) rfl xm_clsok xs_M_ok xf_X9_ok xi_X9_ok xj_X9_ok xm_lk0 xo_X9_emit ?_ ?_
  · rintro av g Q ⟨z, ⟨rfl, -⟩, -⟩
    exact Nat.le_of_ble_eq_true rfl
  · rintro av g Q ⟨⟨k, v, y⟩, ⟨rfl, hy, h⟩, hQ⟩
    dsimp only at hy h hQ
    unfold nEmit at hQ
    have e1 : (xm_sI g 27 y k).1 0 41 = nI y := by rw [xg_off _ _ _ (by decide)]; exact h
    have e2 : (xm_sI (xm_sI g 27 y k) 28 y v).1 0 41 = nI y := by rw [xg_off _ _ _ (by decide)]; exact e1
    rw [← nI_1, ← e2] at hQ
    exact xm_run_go hm 30 ⟨y, ⟨hy, h⟩, y, ⟨hy, e1⟩, hQ⟩
/-- what reading an expression may change -/
def mFs (g g' : xG) : Prop := g'.2 = g.2 ∧ (∀ k, k ≠ 0 → k ≠ 27 → k ≠ 28 → k ≠ 29 → g'.1 k = g.1 k) ∧ ∀ j, j ≠ 11 → j ≠ 12 → j ≠ 13 → j ≠ 14 → j ≠ 41 → j ≠ 45 → g'.1 0 j = g.1 0 j
theorem mFs.rf {g : xG} : mFs g g := ⟨rfl, fun _ _ _ _ _ => rfl, fun _ _ _ _ _ _ _ => rfl⟩
theorem mFs.tr {g g1 g2 : xG} (h : mFs g g1) (h2 : mFs g1 g2) : mFs g g2 := ⟨h2.1.trans h.1, fun k a b c d => (h2.2.1 k a b c d).trans (h.2.1 k a b c d), fun j a b c d e f => (h2.2.2 j a b c d e f).trans (h.2.2 j a b c d e f)⟩
theorem mFs.p0 {g g1 : xG} (h : mFs g g1) {j : Nat} (v : Int32) (hj : j = 11 ∨ j = 12 ∨ j = 13 ∨ j = 14 ∨ j = 41 ∨ j = 45) : mFs g (xm_sI g1 0 j v) := ⟨h.1, fun k a b c d => (xg_off g1 j v a).trans (h.2.1 k a b c d), fun i a b c d e f => by rw [xg_in, if_neg (by omega)]; exact h.2.2 i a b c d e f⟩
theorem mFs.pc {g g1 : xG} (h : mFs g g1) {k : Nat} (j : Nat) (v : Int32) (hk : k = 27 ∨ k = 28 ∨ k = 29) : mFs g (xm_sI g1 k j v) := ⟨h.1, fun i a b c d => (xg_off g1 j v (by omega)).trans (h.2.1 i a b c d), fun i a b c d e f => by rw [xg_off _ _ _ (by omega)]; exact h.2.2 i a b c d e f⟩
theorem mFs.fl {g g1 : xG} (h : mFs g g1) (x : Int32) (a : Nat) : mFs g (nFail x a g1) := by
  unfold nFail
  split
  · exact (h.p0 _ (by omega)).p0 _ (by omega)
  · exact h
theorem mFs.go {g g1 : xG} (h : mFs g g1) (a : Nat) : mFs g (nGo a g1) := by
  unfold nGo
  split
  · exact h.fl _ _
  · exact h.p0 _ (by omega)
theorem mFs.em {g g1 : xG} (h : mFs g g1) (k v : Int32) (y : Nat) : mFs g (nEmit k v y g1) := ((h.pc _ _ (by omega)).pc _ _ (by omega)).p0 _ (by omega)
theorem mTk.s {k : vTk} {N : Nat} {g g' : xG} (h : mTk k N g) (f : mFs g g') : mTk k N g' := ⟨h.1, h.2.1, fun i hi => by rw [f.2.1 3 (by decide) (by decide) (by decide) (by decide), f.2.1 4 (by decide) (by decide) (by decide) (by decide), f.2.1 5 (by decide) (by decide) (by decide) (by decide), f.1]; exact h.2.2 i hi⟩
def mWt (W : List Nat) (g : xG) : Prop := g.1 0 45 = nI W.length ∧ W.length ≤ 40 ∧ (∀ x, x ∈ W → x = 40 ∨ x = 43 ∨ x = 45 ∨ x = 42 ∨ x = 47) ∧ ∀ i x, W.reverse[i]? = some x → g.1 29 i = nI (pMk x)
theorem mWt.hd {x : Nat} {W : List Nat} {g : xG} (h : mWt (x :: W) g) : g.1 29 W.length = nI (pMk x) := by
  refine h.2.2.2 W.length x ?_
  rw [List.reverse_cons, List.getElem?_append_right (by rw [List.length_reverse]; exact Nat.le_refl _), List.length_reverse, Nat.sub_self]; rfl
theorem mWt.tl {x : Nat} {W : List Nat} {g g' : xG} (h : mWt (x :: W) g) (e5 : g'.1 0 45 = nI W.length) (e6 : g'.1 29 = g.1 29) : mWt W g' := by
  refine ⟨e5, by have := h.2.1; simp only [List.length_cons] at this; omega, fun y hy => h.2.2.1 y (List.mem_cons_of_mem _ hy), fun i y hy => ?_⟩
  rw [e6]
  refine h.2.2.2 i y ?_
  rw [List.reverse_cons, List.getElem?_append_left (List.getElem?_eq_some_iff.mp hy).1]
  exact hy
theorem mWt.k {W : List Nat} {g g' : xG} (h : mWt W g) (e5 : g'.1 0 45 = g.1 0 45) (e6 : g'.1 29 = g.1 29) : mWt W g' := ⟨e5.trans h.1, h.2.1, h.2.2.1, fun i y hy => by rw [e6]; exact h.2.2.2 i y hy⟩
theorem mWt.push {W : List Nat} {g : xG} (h : mWt W g) {x : Nat} (hx : x = 40 ∨ x = 43 ∨ x = 45 ∨ x = 42 ∨ x = 47) (hw : W.length < 40) : mWt (x :: W) (xm_sI (xm_sI g 29 W.length (nI (pMk x))) 0 45 (nI (W.length + 1))) := by
  refine ⟨by rw [xg_in, if_pos rfl]; rfl, by simp only [List.length_cons]; omega, fun y hy => ?_, fun i y hy => ?_⟩
  · rcases List.mem_cons.mp hy with rfl | hy
    · exact hx
    · exact h.2.2.1 y hy
  · rw [xg_off _ _ _ (by decide), xg_in]
    rw [List.reverse_cons] at hy
    rcases Nat.lt_or_ge i W.length with q | q
    · rw [List.getElem?_append_left (by rw [List.length_reverse]; exact q)] at hy
      rw [if_neg (by omega)]; exact h.2.2.2 i y hy
    · rw [List.getElem?_append_right (by rw [List.length_reverse]; exact q)] at hy
      have := (List.getElem?_eq_some_iff.mp hy).1
      rw [List.length_reverse] at this hy
      simp only [List.length_singleton] at this
      have e : i = W.length := by omega
      subst e
      rw [Nat.sub_self] at hy
      cases hy
      rw [if_pos rfl]
def mCz (g : xG) (z : Nat) (e : vX) : Prop := ∀ i q, e[i]? = some q → g.1 27 (z + i) = nI q.1 ∧ g.1 28 (z + i) = nI q.2
theorem mCz.app {g : xG} {z : Nat} {e e2 : vX} (h : mCz g z e) (h2 : mCz g (z + e.length) e2) : mCz g z (e ++ e2) := by
  intro i q hq
  rcases Nat.lt_or_ge i e.length with r | r
  · rw [List.getElem?_append_left r] at hq
    exact h i q hq
  · rw [List.getElem?_append_right r] at hq
    have := h2 _ q hq
    rw [show z + e.length + (i - e.length) = z + i by omega] at this
    exact this
theorem mCz.lo {g g' : xG} {z : Nat} {e : vX} (h : mCz g z e) (hl : ∀ j, j < z + e.length → g'.1 27 j = g.1 27 j ∧ g'.1 28 j = g.1 28 j) : mCz g' z e := fun i q hq => by
  have := (List.getElem?_eq_some_iff.mp hq).1
  rw [(hl _ (by omega)).1, (hl _ (by omega)).2]; exact h i q hq
theorem mCz.one {g g' : xG} {z : Nat} {e : vX} {q : Nat × Nat} (h : mCz g z e) (e7 : g'.1 27 = fun j => if j = z + e.length then nI q.1 else g.1 27 j) (e8 : g'.1 28 = fun j => if j = z + e.length then nI q.2 else g.1 28 j) : mCz g' z (e ++ [q]) := by
  intro i q' hq
  rw [e7, e8]
  rcases Nat.lt_or_ge i e.length with r | r
  · rw [List.getElem?_append_left r] at hq
    dsimp only
    rw [if_neg (by omega), if_neg (by omega)]; exact h i q' hq
  · rw [List.getElem?_append_right r] at hq
    have := (List.getElem?_eq_some_iff.mp hq).1
    simp only [List.length_singleton] at this
    have ei : i = e.length := by omega
    subst ei
    rw [Nat.sub_self] at hq
    cases hq
    dsimp only
    rw [if_pos rfl, if_pos rfl]; exact ⟨rfl, rfl⟩
theorem nEmit_27 (k v : Int32) (y : Nat) (g : xG) : (nEmit k v y g).1 27 = fun j => if j = y then k else g.1 27 j := by
  funext j
  unfold nEmit
  rw [xg_off _ _ _ (by decide), xg_off _ _ _ (by decide), xg_in]
theorem nEmit_28 (k v : Int32) (y : Nat) (g : xG) : (nEmit k v y g).1 28 = fun j => if j = y then v else g.1 28 j := by
  funext j
  unfold nEmit
  rw [xg_off _ _ _ (by decide), xg_in, xg_off _ _ _ (by decide)]
theorem nEmit_o {k v : Int32} {y j : Nat} {g : xG} (h0 : j ≠ 0) (h7 : j ≠ 27) (h8 : j ≠ 28) : (nEmit k v y g).1 j = g.1 j := by
  unfold nEmit
  rw [xg_off _ _ _ h0, xg_off _ _ _ h8, xg_off _ _ _ h7]
theorem nEmit_j {k v : Int32} {y j : Nat} {g : xG} (h : j ≠ 41) : (nEmit k v y g).1 0 j = g.1 0 j := by
  unfold nEmit
  rw [xg_in, if_neg h, xg_off _ _ _ (by decide), xg_off _ _ _ (by decide)]
theorem nEmit_41 (k v : Int32) (y : Nat) (g : xG) : (nEmit k v y g).1 0 41 = nI (y + 1) := by
  unfold nEmit
  rw [xg_in, if_pos rfl]
def xt_X9_comesOut : xT := xm_rl (Z := Bool × List Nat × Nat) (fun (b, W, z) av g => av = [.ref 0, .int (if b then 1 else 0)] ∧ mWt W g ∧ g.1 0 41 = nI z ∧ z + W.length ≤ 840)
  (fun (b, W, z) g o g' => o = none ∧ mFs g g' ∧ (∀ j, j ≠ 41 → j ≠ 45 → g'.1 0 j = g.1 0 j) ∧ mWt (pRel (if b then 2 else 1) W).2 g' ∧ g'.1 0 41 = nI (z + (pRel (if b then 2 else 1) W).1.length) ∧ mCz g' z (pRel (if b then 2 else 1) W).1 ∧ ∀ j, (j < z ∨ z + W.length ≤ j) → g'.1 27 j = g.1 27 j ∧ g'.1 28 j = g.1 28 j)
set_option maxRecDepth 100000 in
set_option maxHeartbeats 400000 in
theorem xp_X9_comesOut {l : Launch} {D : va_G} {cA : Nat → ClassId} {B : List (Nat × Cell)} : xm_Met l D cA B xs_M 1 yX9_comesOut cX9_comesOut 3 none xt_X9_comesOut := by
  have hm : xm_monos [xt_X9_emit] := ⟨(by first | exact xm_fn_mono _ _ _ | exact xm_rl_mono _ _), trivial⟩
  refine xm_meth (own := RX9) (ks := xk_X9_comesOut) (C := xc_X9_comesOut) (Ts := [xt_X9_emit]) (by decide +kernel) rfl xm_clsok xs_M_ok xf_X9_ok xi_X9_ok xj_X9_ok (xm_lk xl_X9_293 xp_X9_emit (by decide) xm_lk0) xo_X9_comesOut ?_ ?_
  · rintro av g Q ⟨z, ⟨rfl, -⟩, -⟩
    exact Nat.le_of_ble_eq_true rfl
  · rintro av g Q ⟨⟨b, W, z⟩, ⟨rfl, hW, hz, hr⟩, hQ⟩
    dsimp only at hW hz hr hQ
    generalize hs : (if b = true then 2 else 1) = s at hQ
    have loop : ∀ (V : List Nat) (y : Nat) (g1 : xG) (out : vX), mFs g g1 → (∀ j, j ≠ 41 → j ≠ 45 → g1.1 0 j = g.1 0 j) → mWt V g1 → g1.1 0 41 = nI y → y + V.length = z + W.length → out.length = y - z → z ≤ y → mCz g1 z out → (∀ j, (j < z ∨ z + W.length ≤ j) → g1.1 27 j = g.1 27 j ∧ g1.1 28 j = g.1 28 j) → pRel s W = (out ++ (pRel s V).1, (pRel s V).2) → ∀ w2, xm_go xs_M xk_X9_comesOut [xt_X9_emit] xc_X9_comesOut Q (xm_drop 0 xc_X9_comesOut) [.ref 0, .int (if b then 1 else 0), w2] [] g1 := by
      intro V
      induction V with
      | nil =>
        intro y g1 out f1 f3 w1 e1 l1 ol zy cd lo eq w2
        refine xm_run_go hm 30 ⟨fun _ => hQ _ _ ⟨rfl, f1, f3, ?_, ?_, ?_, lo⟩, fun q => ?_⟩
        · rw [eq]; exact w1
        · rw [eq]; show _ = nI (z + (out ++ []).length)
          rw [List.append_nil, ol, e1]; exact congrArg nI (by omega)
        · rw [eq]; show mCz g1 z (out ++ []); rw [List.append_nil]; exact cd
        · rw [w1.1] at q; exact absurd q (by decide)
      | cons x V ih =>
        intro y g1 out f1 f3 w1 e1 l1 ol zy cd lo eq w2
        have wl := w1.2.1
        simp only [List.length_cons] at wl l1
        have hx := w1.2.2.1 x (List.mem_cons_self ..)
        have hd := w1.hd
        have e5 : g1.1 0 45 - 1 = nI V.length := by rw [w1.1]; exact nI_pred V.length
        have gt : ¬ g1.1 0 45 ≤ 0 := by rw [w1.1]; exact nI_nle (by simp) (by simp only [List.length_cons]; omega)
        have stop : ¬ s ≤ pStr x → Q none g1 := fun hs' => by
          have e : pRel s (x :: V) = ([], x :: V) := by
            show (if s ≤ pStr x then _ else _) = _
            exact if_neg hs'
          rw [e, List.append_nil] at eq
          refine hQ _ _ ⟨rfl, f1, f3, ?_, ?_, ?_, lo⟩
          · rw [eq]; exact w1
          · rw [eq]; show _ = nI (z + out.length); rw [ol, e1]; exact congrArg nI (by omega)
          · rw [eq]; exact cd
        have go : s ≤ pStr x → ∀ v, v = nI (pOp x) → ∀ w2, xm_go xs_M xk_X9_comesOut [xt_X9_emit] xc_X9_comesOut Q (xm_drop 0 xc_X9_comesOut) [.ref 0, .int (if b then 1 else 0), w2] [] (nEmit v 0 y (xm_sI g1 0 45 (g1.1 0 45 - 1))) := fun hs' v hv w2 => by
          rw [e5]
          have eR : pRel s (x :: V) = ((pOp x, 0) :: (pRel s V).1, (pRel s V).2) := by
            show (if s ≤ pStr x then _ else _) = _
            exact if_pos hs'
          refine ih (y + 1) _ (out ++ [(pOp x, 0)]) ((f1.p0 _ (by omega)).em _ _ _) (fun j h1 h2 => by rw [nEmit_j h1, xg_in, if_neg h2]; exact f3 j h1 h2) (w1.tl (by rw [nEmit_j (by decide), xg_in, if_pos rfl]) (by rw [nEmit_o (by decide) (by decide) (by decide), xg_off _ _ _ (by decide)])) (nEmit_41 _ _ _ _) (by omega) (by rw [List.length_append, ol]; simp only [List.length_singleton]; omega) (by omega) ?_ (fun j hj => ?_) ?_ w2
          · refine cd.one ?_ ?_
            · rw [nEmit_27, xg_off _ _ _ (by decide), hv, show z + out.length = y by omega]
            · rw [nEmit_28, xg_off _ _ _ (by decide), show z + out.length = y by omega]; rfl
          · rw [nEmit_27, nEmit_28, xg_off _ _ _ (by decide), xg_off _ _ _ (by decide)]
            dsimp only
            rw [if_neg (by omega), if_neg (by omega)]; exact lo j hj
          · rw [eq, eR, List.append_assoc]; rfl
        have e41 : (xm_sI g1 0 45 (g1.1 0 45 - 1)).1 0 41 = nI y := by rw [xg_in, if_neg (by decide)]; exact e1
        have y8 : y < 840 := by omega
        have lit : ∀ j, g1.1 29 V.length = nI j → j < 100 → pMk x = j := fun j h hj => by
          rw [hd] at h
          refine (nI_eq ?_ (by omega)).mp h
          rcases hx with rfl | rfl | rfl | rfl | rfl <;> decide
        have litn : ∀ j : Nat, pMk x = j → g1.1 29 V.length = nI j := fun j h => by rw [hd, h]
        have idx : V.length < 64 := by omega
        rcases hx with rfl | rfl | rfl | rfl | rfl
        · exact xm_run_go hm 60 ⟨fun q => absurd q gt, fun _ => ⟨V.length, ⟨idx, e5⟩, ⟨fun _ => stop (by rw [← hs]; cases b <;> decide), fun q => absurd (litn 6 rfl) q⟩⟩⟩
        all_goals
          have n6 : ¬ g1.1 29 V.length = 6 := fun q => by have := lit 6 q (by decide); revert this; decide
        · cases b with
          | true =>
            exact xm_run_go hm 60 ⟨fun q => absurd q gt, fun _ => ⟨V.length, ⟨idx, e5⟩, ⟨fun q => absurd q n6, fun _ => ⟨fun q => absurd q (by decide), fun _ => ⟨fun _ => stop (by rw [← hs]; decide), fun q => absurd (litn 8 rfl) q⟩⟩⟩⟩⟩
          | false =>
            exact xm_run_go hm 60 ⟨fun q => absurd q gt, fun _ => ⟨V.length, ⟨idx, e5⟩, ⟨fun q => absurd q n6, fun _ => ⟨fun _ => ⟨fun q => absurd (litn 8 rfl) q, fun _ => ⟨(2, 0, y), ⟨rfl, y8, e41⟩, xm_cut hm (go (by rw [← hs]; decide) _ rfl _)⟩⟩, fun q => absurd rfl q⟩⟩⟩⟩
        · have n8 : ¬ g1.1 29 V.length = 8 := fun q => by have := lit 8 q (by decide); revert this; decide
          cases b with
          | true =>
            exact xm_run_go hm 60 ⟨fun q => absurd q gt, fun _ => ⟨V.length, ⟨idx, e5⟩, ⟨fun q => absurd q n6, fun _ => ⟨fun q => absurd q (by decide), fun _ => ⟨fun q => absurd q n8, fun _ => ⟨fun q => absurd (litn 9 rfl) q, fun _ => stop (by rw [← hs]; decide)⟩⟩⟩⟩⟩⟩
          | false =>
            exact xm_run_go hm 60 ⟨fun q => absurd q gt, fun _ => ⟨V.length, ⟨idx, e5⟩, ⟨fun q => absurd q n6, fun _ => ⟨fun _ => ⟨fun _ => ⟨fun q => absurd (litn 9 rfl) q, fun _ => ⟨(3, 0, y), ⟨rfl, y8, e41⟩, xm_cut hm (go (by rw [← hs]; decide) _ rfl _)⟩⟩, fun q => absurd q n8⟩, fun q => absurd rfl q⟩⟩⟩⟩
        all_goals
          have n8 : ¬ g1.1 29 V.length = 8 := fun q => by have := lit 8 q (by decide); revert this; decide
          have n9 : ¬ g1.1 29 V.length = 9 := fun q => by have := lit 9 q (by decide); revert this; decide
        · cases b with
          | true =>
            exact xm_run_go hm 60 ⟨fun q => absurd q gt, fun _ => ⟨V.length, ⟨idx, e5⟩, ⟨fun q => absurd q n6, fun _ => ⟨fun q => absurd q (by decide), fun _ => ⟨fun q => absurd q n8, fun _ => ⟨fun _ => ⟨fun _ => ⟨fun _ => ⟨fun q => absurd (litn 10 rfl) q, fun _ => ⟨(4, 0, y), ⟨rfl, y8, e41⟩, xm_cut hm (go (by rw [← hs]; decide) _ rfl _)⟩⟩, fun q => absurd q n9⟩, fun q => absurd q n8⟩, fun q => absurd q n9⟩⟩⟩⟩⟩⟩
          | false =>
            exact xm_run_go hm 60 ⟨fun q => absurd q gt, fun _ => ⟨V.length, ⟨idx, e5⟩, ⟨fun q => absurd q n6, fun _ => ⟨fun _ => ⟨fun _ => ⟨fun _ => ⟨fun q => absurd (litn 10 rfl) q, fun _ => ⟨(4, 0, y), ⟨rfl, y8, e41⟩, xm_cut hm (go (by rw [← hs]; decide) _ rfl _)⟩⟩, fun q => absurd q n9⟩, fun q => absurd q n8⟩, fun q => absurd rfl q⟩⟩⟩⟩
        · have n10 : ¬ g1.1 29 V.length = 10 := fun q => by have := lit 10 q (by decide); revert this; decide
          cases b with
          | true =>
            exact xm_run_go hm 60 ⟨fun q => absurd q gt, fun _ => ⟨V.length, ⟨idx, e5⟩, ⟨fun q => absurd q n6, fun _ => ⟨fun q => absurd q (by decide), fun _ => ⟨fun q => absurd q n8, fun _ => ⟨fun _ => ⟨fun _ => ⟨fun _ => ⟨fun _ => ⟨(5, 0, y), ⟨rfl, y8, e41⟩, xm_cut hm (go (by rw [← hs]; decide) _ rfl _)⟩, fun q => absurd q n10⟩, fun q => absurd q n9⟩, fun q => absurd q n8⟩, fun q => absurd q n9⟩⟩⟩⟩⟩⟩
          | false =>
            exact xm_run_go hm 60 ⟨fun q => absurd q gt, fun _ => ⟨V.length, ⟨idx, e5⟩, ⟨fun q => absurd q n6, fun _ => ⟨fun _ => ⟨fun _ => ⟨fun _ => ⟨fun _ => ⟨(5, 0, y), ⟨rfl, y8, e41⟩, xm_cut hm (go (by rw [← hs]; decide) _ rfl _)⟩, fun q => absurd q n10⟩, fun q => absurd q n9⟩, fun q => absurd q n8⟩, fun q => absurd rfl q⟩⟩⟩⟩
    exact loop W z g [] mFs.rf (fun _ _ _ => rfl) hW hz rfl (by simp) (Nat.le_refl _) (fun i q hq => by cases hq) (fun _ _ => ⟨rfl, rfl⟩) (by rw [List.nil_append]) _
