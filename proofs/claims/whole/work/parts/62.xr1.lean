-- THE CLASS READS: small steps
def xEn (q : Nat × Nat) : Int32 := if q.1 = 0 then nI q.2 else if q.1 = 1 then -1 - nI q.2 else -9 - nI q.1
def xStr (x : Int32) : Int32 := if x = 42 then 2 else if x = 43 then 1 else if x = 44 then 0 else if x = 45 then 1 else if x = 46 then 0 else if x = 47 then 2 else 0
def xCo (x : Int32) : Int32 := if x = 42 then -13 else if x = 43 then -11 else if x = 44 then -14 else if x = 45 then -12 else -14
theorem xStr_n : ∀ k, k < 200 → xStr (nI k) = nI (pStr k) := by decide +kernel
theorem xCo_n : ∀ k, k < 200 → xCo (nI k) = xEn (pOp k, 0) := by decide +kernel
def xt_X1_strength : xT := xm_fn (Z := Int32) (fun x av _ => av = [.int x] ∧ True) (fun x _ => some (.int (xStr x))) (fun _ g => g)
set_option maxRecDepth 100000 in
set_option maxHeartbeats 400000 in
theorem xp_X1_strength {l : Launch} {D : va_G} {cA : Nat → ClassId} {B : List (Nat × Cell)} : xm_Met l D cA B xs_X 0 yX1_strength cX1_strength 1 (some .int) xt_X1_strength := by
  have hm : xm_monos [] := xm_m0
  refine xm_meth (own := RX1) (ks := xk_X1_strength) (C := xc_X1_strength) (Ts := []) (by decide +kernel) rfl xm_clsok xs_X_ok xf_X1_ok xi_X1_ok xj_X1_ok xm_lk0 xo_X1_strength ?_ ?_
  · rintro av g Q ⟨z, ⟨rfl, -⟩, -⟩
    exact Nat.le_of_ble_eq_true rfl
  · rintro av g Q ⟨x, ⟨rfl, -⟩, hQ⟩
    dsimp only at hQ
    unfold xStr at hQ
    refine xm_run_go hm 20 ⟨fun z => xq_i hQ ?_, fun z0 => ⟨fun z => xq_i hQ ?_, fun z1 => ⟨fun z => xq_i hQ ?_, fun z2 => ⟨fun z => xq_i hQ ?_, fun z3 => ⟨fun z => xq_i hQ ?_, fun z4 => ⟨fun z => xq_i hQ ?_, fun z5 => xq_i hQ ?_⟩⟩⟩⟩⟩⟩
    · rw [if_pos z]
    · rw [if_neg z0, if_pos z]
    · rw [if_neg z0, if_neg z1, if_pos z]
    · rw [if_neg z0, if_neg z1, if_neg z2, if_pos z]
    · rw [if_neg z0, if_neg z1, if_neg z2, if_neg z3, if_pos z]
    · rw [if_neg z0, if_neg z1, if_neg z2, if_neg z3, if_neg z4, if_pos z]
    · rw [if_neg z0, if_neg z1, if_neg z2, if_neg z3, if_neg z4, if_neg z5]
def xt_X1_codeOf : xT := xm_fn (Z := Int32) (fun x av _ => av = [.int x] ∧ True) (fun x _ => some (.int (xCo x))) (fun _ g => g)
set_option maxRecDepth 100000 in
set_option maxHeartbeats 400000 in
theorem xp_X1_codeOf {l : Launch} {D : va_G} {cA : Nat → ClassId} {B : List (Nat × Cell)} : xm_Met l D cA B xs_X 0 yX1_codeOf cX1_codeOf 1 (some .int) xt_X1_codeOf := by
  have hm : xm_monos [] := xm_m0
  refine xm_meth (own := RX1) (ks := xk_X1_codeOf) (C := xc_X1_codeOf) (Ts := []) (by decide +kernel) rfl xm_clsok xs_X_ok xf_X1_ok xi_X1_ok xj_X1_ok xm_lk0 xo_X1_codeOf ?_ ?_
  · rintro av g Q ⟨z, ⟨rfl, -⟩, -⟩
    exact Nat.le_of_ble_eq_true rfl
  · rintro av g Q ⟨x, ⟨rfl, -⟩, hQ⟩
    dsimp only at hQ
    unfold xCo at hQ
    refine xm_run_go hm 20 ⟨fun z => xq_i hQ ?_, fun z0 => ⟨fun z => xq_i hQ ?_, fun z1 => ⟨fun z => xq_i hQ ?_, fun z2 => ⟨fun z => xq_i hQ ?_, fun z3 => xq_i hQ ?_⟩⟩⟩⟩
    · rw [if_pos z]
    · rw [if_neg z0, if_pos z]
    · rw [if_neg z0, if_neg z1, if_pos z]
    · rw [if_neg z0, if_neg z1, if_neg z2, if_pos z]
    · rw [if_neg z0, if_neg z1, if_neg z2, if_neg z3]
def xt_X1_kind : xT := xm_fn (Z := Nat) (fun a av g => av = [.ref 3] ∧ a ≤ 400 ∧ g.1 3 7 = nI a) (fun a g => some (.int (g.1 8 a))) (fun _ g => g)
set_option maxRecDepth 100000 in
set_option maxHeartbeats 400000 in
theorem xp_X1_kind {l : Launch} {D : va_G} {cA : Nat → ClassId} {B : List (Nat × Cell)} : xm_Met l D cA B xs_X 0 yX1_kind cX1_kind 1 (some .int) xt_X1_kind := by
  have hm : xm_monos [] := xm_m0
  refine xm_meth (own := RX1) (ks := xk_X1_kind) (C := xc_X1_kind) (Ts := []) (by decide +kernel) rfl xm_clsok xs_X_ok xf_X1_ok xi_X1_ok xj_X1_ok xm_lk0 xo_X1_kind ?_ ?_
  · rintro av g Q ⟨z, ⟨rfl, -⟩, -⟩
    exact Nat.le_of_ble_eq_true rfl
  · rintro av g Q ⟨a, ⟨rfl, ha, h⟩, hQ⟩
    dsimp only at ha h hQ
    refine xm_run_go hm 20 ⟨fun z => ?_, fun _ => ⟨fun z => ?_, fun _ => ⟨a, ⟨by omega, h⟩, hQ⟩⟩⟩
    · rw [h] at z; exact absurd z (nI_pos (by omega))
    · rw [h] at z; exact absurd z (nI_nlt (a := 400) (b := a) ha (by decide))
def uFail (x : Int32) (a : Nat) (g : xG) : xG := if g.1 3 8 = 0 then xm_sI (xm_sI g 3 8 x) 3 9 (g.1 9 a) else g
def xt_X1_fail : xT := xm_fn (Z := Int32 × Nat) (fun (x, a) av g => av = [.ref 3, .int x] ∧ a ≤ 400 ∧ g.1 3 7 = nI a) (fun _ _ => none) (fun (x, a) g => uFail x a g)
set_option maxRecDepth 100000 in
set_option maxHeartbeats 400000 in
theorem xp_X1_fail {l : Launch} {D : va_G} {cA : Nat → ClassId} {B : List (Nat × Cell)} : xm_Met l D cA B xs_X 0 yX1_fail cX1_fail 2 none xt_X1_fail := by
  have hm : xm_monos [] := xm_m0
  refine xm_meth (own := RX1) (ks := xk_X1_fail) (C := xc_X1_fail) (Ts := []) (by decide +kernel) rfl xm_clsok xs_X_ok xf_X1_ok xi_X1_ok xj_X1_ok xm_lk0 xo_X1_fail ?_ ?_
  · rintro av g Q ⟨z, ⟨rfl, -⟩, -⟩
    exact Nat.le_of_ble_eq_true rfl
  · rintro av g Q ⟨⟨x, a⟩, ⟨rfl, ha, h⟩, hQ⟩
    dsimp only at ha h hQ
    unfold uFail at hQ
    have h' : (xm_sI g 3 8 x).1 3 7 = nI a := by rw [xg_in, if_neg (by decide)]; exact h
    refine xm_run_go hm 30 ⟨fun z => ?_, fun z => ⟨fun y => ?_, fun _ => ⟨fun y => ?_, fun _ => ⟨a, ⟨by omega, h'⟩, ?_⟩⟩⟩⟩
    · rw [if_neg z] at hQ; exact hQ
    · rw [h] at y; exact absurd y (nI_pos (by omega))
    · rw [h] at y; exact absurd y (nI_nlt (a := 400) (b := a) ha (by decide))
    · rw [if_pos z] at hQ
      rw [xg_off _ _ _ (by decide)]; exact hQ
def uTk1 (b : Bool) (a : Nat) (g : xG) : xG := if b then (if a < 400 then g else uFail 2 a g) else uFail 1 a g
def uTake (b : Bool) (a : Nat) (g : xG) : xG := if (uTk1 b a g).1 3 8 = 0 then xm_sI (uTk1 b a g) 3 7 (nI a + 1) else uTk1 b a g
def oTake (b : Bool) (a : Nat) (g : xG) : Int32 := if (uTk1 b a g).1 3 8 = 0 then 1 else 0
theorem uFail_7 (x : Int32) (a : Nat) (g : xG) : (uFail x a g).1 3 7 = g.1 3 7 := by
  unfold uFail
  split
  · rw [xg_in, if_neg (by decide), xg_in, if_neg (by decide)]
  · rfl
def xt_X1_take : xT := xm_fn (Z := Bool × Nat) (fun (b, a) av g => av = [.ref 3, .int (if b then 1 else 0)] ∧ a ≤ 400 ∧ g.1 3 7 = nI a) (fun (b, a) g => some (.int (oTake b a g))) (fun (b, a) g => uTake b a g)
set_option maxRecDepth 100000 in
set_option maxHeartbeats 400000 in
theorem xp_X1_take {l : Launch} {D : va_G} {cA : Nat → ClassId} {B : List (Nat × Cell)} : xm_Met l D cA B xs_X 1 yX1_take cX1_take 2 (some .boolean) xt_X1_take := by
  have hm : xm_monos [xt_X1_fail] := ⟨(by first | exact xm_fn_mono _ _ _ | exact xm_rl_mono _ _), trivial⟩
  refine xm_meth (own := RX1) (ks := xk_X1_take) (C := xc_X1_take) (Ts := [xt_X1_fail]) (by decide +kernel) rfl xm_clsok xs_X_ok xf_X1_ok xi_X1_ok xj_X1_ok (xm_lk xl_X1_88 xp_X1_fail (by decide) xm_lk0) xo_X1_take ?_ ?_
  · rintro av g Q ⟨z, ⟨rfl, -⟩, -⟩
    exact Nat.le_of_ble_eq_true rfl
  · rintro av g Q ⟨⟨b, a⟩, ⟨rfl, ha, h⟩, hQ⟩
    dsimp only at ha h hQ
    unfold oTake uTake at hQ
    have ok : ∀ g1, uTk1 b a g = g1 → g1.1 3 7 = nI a → (¬ g1.1 3 8 = 0 → Q (some (.int 0)) g1) ∧ (g1.1 3 8 = 0 → Q (some (.int 1)) (xm_sI g1 3 7 (g1.1 3 7 + 1))) := fun g1 e e7 => by
      rw [e] at hQ
      refine ⟨fun z => ?_, fun z => ?_⟩
      · rw [if_neg z, if_neg z] at hQ; exact hQ
      · rw [if_pos z, if_pos z] at hQ; rw [e7]; exact hQ
    cases b with
    | false =>
      obtain ⟨q1, q2⟩ := ok (uFail 1 a g) rfl ((uFail_7 _ _ _).trans h)
      exact xm_run_go hm 30 ⟨fun z => absurd rfl z, fun _ => ⟨(1, a), ⟨rfl, ha, h⟩, ⟨fun z => ⟨Or.inr rfl, q2 z⟩, fun z => ⟨Or.inl rfl, q1 z⟩⟩⟩⟩
    | true =>
      by_cases a4 : a < 400
      · obtain ⟨q1, q2⟩ := ok g (by unfold uTk1; rw [if_pos rfl, if_pos a4]) h
        refine xm_run_go hm 30 ⟨fun _ => ⟨fun _ => ⟨fun z => ⟨Or.inr rfl, q2 z⟩, fun z => ⟨Or.inl rfl, q1 z⟩⟩, fun z => ?_⟩, fun z => absurd z (by decide)⟩
        rw [h] at z; exact absurd z (nI_ge (b := 400) a4 (by decide))
      · obtain ⟨q1, q2⟩ := ok (uFail 2 a g) (by unfold uTk1; rw [if_pos rfl, if_neg a4]) ((uFail_7 _ _ _).trans h)
        refine xm_run_go hm 30 ⟨fun _ => ⟨fun z => ?_, fun _ => ⟨(2, a), ⟨rfl, ha, h⟩, ⟨fun z => ⟨Or.inr rfl, q2 z⟩, fun z => ⟨Or.inl rfl, q1 z⟩⟩⟩⟩, fun z => absurd z (by decide)⟩
        rw [h] at z
        exact absurd ((nI_ltI (b := 400) (by omega) (by decide)).mp z) a4
def xt_X1_failLate : xT := xm_fn (Z := Int32 × Nat) (fun (x, a) av g => av = [.ref 3, .int x] ∧ 0 < a ∧ a ≤ 400 ∧ g.1 3 7 = nI a) (fun _ _ => none) (fun (x, a) g => if g.1 3 10 = 0 then xm_sI (xm_sI g 3 10 x) 3 11 (g.1 9 (a - 1)) else g)
set_option maxRecDepth 100000 in
set_option maxHeartbeats 400000 in
theorem xp_X1_failLate {l : Launch} {D : va_G} {cA : Nat → ClassId} {B : List (Nat × Cell)} : xm_Met l D cA B xs_X 0 yX1_failLate cX1_failLate 2 none xt_X1_failLate := by
  have hm : xm_monos [] := xm_m0
  refine xm_meth (own := RX1) (ks := xk_X1_failLate) (C := xc_X1_failLate) (Ts := []) (by decide +kernel) rfl xm_clsok xs_X_ok xf_X1_ok xi_X1_ok xj_X1_ok xm_lk0 xo_X1_failLate ?_ ?_
  · rintro av g Q ⟨z, ⟨rfl, -⟩, -⟩
    exact Nat.le_of_ble_eq_true rfl
  · rintro av g Q ⟨⟨x, a⟩, ⟨rfl, a0, ha, h⟩, hQ⟩
    dsimp only at a0 ha h hQ
    have h' : (xm_sI g 3 10 x).1 3 7 - 1 = nI (a - 1) := by rw [xg_in, if_neg (by decide), h, xn_dec a0]
    refine xm_run_go hm 30 ⟨fun z => ?_, fun z => ⟨fun y => ?_, fun _ => ⟨a - 1, ⟨by omega, h'⟩, ?_⟩⟩⟩
    · rw [if_neg z] at hQ; exact hQ
    · rw [h] at y; exact absurd y (nI_nle a0 (by omega))
    · rw [if_pos z] at hQ
      rw [xg_off _ _ _ (by decide)]; exact hQ
def uEmit (v : Int32) (z : Nat) (g : xG) : xG := if z < 408 then xm_sI (xm_sI g 45 z v) 38 12 (nI (z + 1)) else g
def xt_X5_emit : xT := xm_fn (Z := Int32 × Nat) (fun (v, z) av g => av = [.ref 38, .int v] ∧ z ≤ 408 ∧ g.1 38 12 = nI z) (fun _ _ => none) (fun (v, z) g => uEmit v z g)
set_option maxRecDepth 100000 in
set_option maxHeartbeats 400000 in
theorem xp_X5_emit {l : Launch} {D : va_G} {cA : Nat → ClassId} {B : List (Nat × Cell)} : xm_Met l D cA B xs_X 0 yX5_emit cX5_emit 2 none xt_X5_emit := by
  have hm : xm_monos [] := xm_m0
  refine xm_meth (own := RX5) (ks := xk_X5_emit) (C := xc_X5_emit) (Ts := []) (by decide +kernel) rfl xm_clsok xs_X_ok xf_X5_ok xi_X5_ok xj_X5_ok xm_lk0 xo_X5_emit ?_ ?_
  · rintro av g Q ⟨z, ⟨rfl, -⟩, -⟩
    exact Nat.le_of_ble_eq_true rfl
  · rintro av g Q ⟨⟨v, z⟩, ⟨rfl, hz, h⟩, hQ⟩
    dsimp only at hz h hQ
    unfold uEmit at hQ
    by_cases z4 : z < 408
    · have e : (xm_sI g 45 z v).1 38 12 = nI z := by rw [xg_off _ _ _ (by decide)]; exact h
      rw [if_pos z4, ← nI_1, ← e] at hQ
      refine xm_run_go hm 30 ⟨fun y => ?_, fun _ => ⟨z, ⟨z4, h⟩, hQ⟩⟩
      rw [h] at y; exact absurd y (nI_ge (b := 408) z4 (by decide))
    · rw [if_neg z4] at hQ
      refine xm_run_go hm 30 ⟨fun _ => hQ, fun y => ?_⟩
      rw [h] at y
      exact absurd ((nI_ltI (b := 408) (by omega) (by decide)).mp y) z4
def uAwait (x : Int32) (w : Nat) (g : xG) : xG := if w < 21 then xm_sI (xm_sI g 6 w x) 3 5 (nI (w + 1)) else g
def xt_X1_await : xT := xm_fn (Z := Int32 × Nat) (fun (x, w) av g => av = [.ref 3, .int x] ∧ w ≤ 21 ∧ g.1 3 5 = nI w) (fun _ _ => none) (fun (x, w) g => uAwait x w g)
set_option maxRecDepth 100000 in
set_option maxHeartbeats 400000 in
theorem xp_X1_await {l : Launch} {D : va_G} {cA : Nat → ClassId} {B : List (Nat × Cell)} : xm_Met l D cA B xs_X 0 yX1_await cX1_await 2 none xt_X1_await := by
  have hm : xm_monos [] := xm_m0
  refine xm_meth (own := RX1) (ks := xk_X1_await) (C := xc_X1_await) (Ts := []) (by decide +kernel) rfl xm_clsok xs_X_ok xf_X1_ok xi_X1_ok xj_X1_ok xm_lk0 xo_X1_await ?_ ?_
  · rintro av g Q ⟨z, ⟨rfl, -⟩, -⟩
    exact Nat.le_of_ble_eq_true rfl
  · rintro av g Q ⟨⟨x, w⟩, ⟨rfl, hw, h⟩, hQ⟩
    dsimp only at hw h hQ
    unfold uAwait at hQ
    by_cases w4 : w < 21
    · have e : (xm_sI g 6 w x).1 3 5 = nI w := by rw [xg_off _ _ _ (by decide)]; exact h
      rw [if_pos w4, ← nI_1, ← e] at hQ
      refine xm_run_go hm 30 ⟨fun y => ?_, fun _ => ⟨w, ⟨w4, h⟩, hQ⟩⟩
      rw [h] at y; exact absurd y (nI_ge (b := 21) w4 (by decide))
    · rw [if_neg w4] at hQ
      refine xm_run_go hm 30 ⟨fun _ => hQ, fun y => ?_⟩
      rw [h] at y
      exact absurd ((nI_ltI (b := 21) (by omega) (by decide)).mp y) w4
/-- the signs that wait -/
def xWt (W : List Nat) (g : xG) : Prop := g.1 3 5 = nI W.length ∧ W.length ≤ 21 ∧ (∀ x, x ∈ W → x < 200) ∧ ∀ i x, W.reverse[i]? = some x → g.1 6 i = nI x
def xCd (g : xG) (z : Nat) (e : vX) : Prop := ∀ i q, e[i]? = some q → g.1 45 (z + i) = xEn q
/-- what reading a sum may change -/
def xFs (g g' : xG) : Prop := g'.2 = g.2 ∧ (∀ k, k ≠ 3 → k ≠ 6 → k ≠ 38 → k ≠ 45 → g'.1 k = g.1 k) ∧ (∀ j, j ≠ 12 → g'.1 38 j = g.1 38 j) ∧ (∀ j, (j < 5 ∨ 9 < j) → g'.1 3 j = g.1 3 j)
theorem xFs.rf {g : xG} : xFs g g := ⟨rfl, fun _ _ _ _ _ => rfl, fun _ _ => rfl, fun _ _ => rfl⟩
theorem xFs.tr {g g1 g2 : xG} (h : xFs g g1) (h2 : xFs g1 g2) : xFs g g2 := ⟨h2.1.trans h.1, fun k a b c d => (h2.2.1 k a b c d).trans (h.2.1 k a b c d), fun j a => (h2.2.2.1 j a).trans (h.2.2.1 j a), fun j a => (h2.2.2.2 j a).trans (h.2.2.2 j a)⟩
theorem xFs.p3 {g g1 : xG} (h : xFs g g1) {j : Nat} (v : Int32) (hj : 5 ≤ j ∧ j ≤ 9) : xFs g (xm_sI g1 3 j v) := ⟨h.1, fun k a b c d => (xg_off g1 j v a).trans (h.2.1 k a b c d), fun i hi => by rw [xg_off _ _ _ (by decide)]; exact h.2.2.1 i hi, fun i hi => by rw [xg_in, if_neg (by omega)]; exact h.2.2.2 i hi⟩
theorem xFs.p6 {g g1 : xG} (h : xFs g g1) (j : Nat) (v : Int32) : xFs g (xm_sI g1 6 j v) := ⟨h.1, fun k a b c d => (xg_off g1 j v b).trans (h.2.1 k a b c d), fun i hi => by rw [xg_off _ _ _ (by decide)]; exact h.2.2.1 i hi, fun i hi => by rw [xg_off _ _ _ (by decide)]; exact h.2.2.2 i hi⟩
theorem xFs.pc {g g1 : xG} (h : xFs g g1) (j : Nat) (v : Int32) : xFs g (xm_sI g1 45 j v) := ⟨h.1, fun k a b c d => (xg_off g1 j v d).trans (h.2.1 k a b c d), fun i hi => by rw [xg_off _ _ _ (by decide)]; exact h.2.2.1 i hi, fun i hi => by rw [xg_off _ _ _ (by decide)]; exact h.2.2.2 i hi⟩
theorem xFs.ps {g g1 : xG} (h : xFs g g1) (v : Int32) : xFs g (xm_sI g1 38 12 v) := ⟨h.1, fun k a b c d => (xg_off g1 12 v c).trans (h.2.1 k a b c d), fun i hi => by rw [xg_in, if_neg hi]; exact h.2.2.1 i hi, fun i hi => by rw [xg_off _ _ _ (by decide)]; exact h.2.2.2 i hi⟩
theorem xFs.em {g g1 : xG} (h : xFs g g1) (v : Int32) (z : Nat) : xFs g (uEmit v z g1) := by
  unfold uEmit
  split
  · exact (h.pc _ _).ps _
  · exact h
theorem xFs.fl {g g1 : xG} (h : xFs g g1) (x : Int32) (a : Nat) : xFs g (uFail x a g1) := by
  unfold uFail
  split
  · exact (h.p3 _ (by omega)).p3 _ (by omega)
  · exact h
theorem xWt.tl {x : Nat} {W : List Nat} {g g' : xG} (h : xWt (x :: W) g) (e5 : g'.1 3 5 = nI W.length) (e6 : g'.1 6 = g.1 6) : xWt W g' := by
  refine ⟨e5, by have := h.2.1; simp only [List.length_cons] at this; omega, fun y hy => h.2.2.1 y (List.mem_cons_of_mem _ hy), fun i y hy => ?_⟩
  rw [e6]
  refine h.2.2.2 i y ?_
  rw [List.reverse_cons, List.getElem?_append_left (List.getElem?_eq_some_iff.mp hy).1]
  exact hy
theorem xWt.hd {x : Nat} {W : List Nat} {g : xG} (h : xWt (x :: W) g) : g.1 6 W.length = nI x := by
  refine h.2.2.2 W.length x ?_
  rw [List.reverse_cons, List.getElem?_append_right (by rw [List.length_reverse]; exact Nat.le_refl _), List.length_reverse, Nat.sub_self]; rfl
theorem xWt.push {W : List Nat} {g : xG} (h : xWt W g) {x : Nat} (hx : x < 200) (hw : W.length < 21) : xWt (x :: W) (uAwait (nI x) W.length g) := by
  unfold uAwait
  rw [if_pos hw]
  refine ⟨by rw [xg_in, if_pos rfl]; rfl, by simp only [List.length_cons]; omega, fun y hy => ?_, fun i y hy => ?_⟩
  · rcases List.mem_cons.mp hy with rfl | hy
    · exact hx
    · exact h.2.2.1 y hy
  · rw [xg_off _ _ _ (by decide), xg_in]
    rw [List.reverse_cons] at hy
    rcases Nat.lt_or_ge i W.length with q | q
    · rw [List.getElem?_append_left (by rw [List.length_reverse]; exact q)] at hy
      rw [if_neg (by omega)]; exact h.2.2.2 i y hy
    · rw [List.getElem?_append_right (by rw [List.length_reverse]; exact q)] at hy
      have := (List.getElem?_eq_some_iff.mp hy).1
      rw [List.length_reverse] at this hy
      simp only [List.length_singleton] at this
      have e : i = W.length := by omega
      subst e
      rw [Nat.sub_self] at hy
      cases hy
      rw [if_pos rfl]
def xt_X1_release : xT := xm_rl (Z := Nat × List Nat × Nat) (fun (s, W, z) av g => av = [.ref 3, .int (nI s)] ∧ 0 < s ∧ s ≤ 2 ∧ xWt W g ∧ g.1 38 12 = nI z ∧ z + W.length ≤ 408)
  (fun (s, W, z) g o g' => o = none ∧ xFs g g' ∧ (∀ j, 6 ≤ j → g'.1 3 j = g.1 3 j) ∧ xWt (pRel s W).2 g' ∧ g'.1 38 12 = nI (z + (pRel s W).1.length) ∧ xCd g' z (pRel s W).1 ∧ ∀ j, j < z → g'.1 45 j = g.1 45 j)
set_option maxRecDepth 100000 in
set_option maxHeartbeats 400000 in
theorem xp_X1_release {l : Launch} {D : va_G} {cA : Nat → ClassId} {B : List (Nat × Cell)} : xm_Met l D cA B xs_X 1 yX1_release cX1_release 2 none xt_X1_release := by
  have hm : xm_monos [xt_X1_strength, xt_X1_codeOf, xt_X5_emit] := ⟨(by first | exact xm_fn_mono _ _ _ | exact xm_rl_mono _ _), (by first | exact xm_fn_mono _ _ _ | exact xm_rl_mono _ _), (by first | exact xm_fn_mono _ _ _ | exact xm_rl_mono _ _), trivial⟩
  refine xm_meth (own := RX1) (ks := xk_X1_release) (C := xc_X1_release) (Ts := [xt_X1_strength, xt_X1_codeOf, xt_X5_emit]) (by decide +kernel) rfl xm_clsok xs_X_ok xf_X1_ok xi_X1_ok xj_X1_ok (xm_lk xl_X1_157 xp_X1_strength (by decide) (xm_lk xl_X1_167 xp_X1_codeOf (by decide) (xm_lk xl_X1_135 xp_X5_emit (by decide) xm_lk0))) xo_X1_release ?_ ?_
  · rintro av g Q ⟨z, ⟨rfl, -⟩, -⟩
    exact Nat.le_of_ble_eq_true rfl
  · rintro av g Q ⟨⟨s, W, z⟩, ⟨rfl, s0, s2, hW, hz, hr⟩, hQ⟩
    dsimp only at s0 s2 hW hz hr hQ
    have loop : ∀ (V : List Nat) (y : Nat) (g1 : xG) (out : vX), xFs g g1 → (∀ j, 6 ≤ j → g1.1 3 j = g.1 3 j) → xWt V g1 → g1.1 38 12 = nI y → y + V.length ≤ 408 → out.length = y - z → z ≤ y → xCd g1 z out → (∀ j, j < z → g1.1 45 j = g.1 45 j) → pRel s W = (out ++ (pRel s V).1, (pRel s V).2) → xm_go xs_X xk_X1_release [xt_X1_strength, xt_X1_codeOf, xt_X5_emit] xc_X1_release Q (xm_drop 0 xc_X1_release) [.ref 3, .int (nI s)] [] g1 := by
      intro V
      induction V with
      | nil =>
        intro y g1 out f1 f3 w1 e1 l1 ol zy cd lo eq
        refine xm_run_go hm 30 ⟨fun _ => hQ _ _ ⟨rfl, f1, f3, ?_, ?_, ?_, lo⟩, fun q => ?_⟩
        · rw [eq]; exact w1
        · rw [eq]; show _ = nI (z + (out ++ []).length)
          rw [List.append_nil, ol, e1]; exact congrArg nI (by omega)
        · rw [eq]; show xCd g1 z (out ++ []); rw [List.append_nil]; exact cd
        · rw [w1.1] at q; exact absurd q (by decide)
      | cons x V ih =>
        intro y g1 out f1 f3 w1 e1 l1 ol zy cd lo eq
        have wl := w1.2.1
        simp only [List.length_cons] at wl l1
        have hx := w1.2.2.1 x (List.mem_cons_self ..)
        have hd := w1.hd
        have e5 : g1.1 3 5 - 1 = nI V.length := by rw [w1.1]; exact nI_pred V.length
        have st : xStr (g1.1 6 V.length) = nI (pStr x) := by rw [hd, xStr_n x hx]
        have pl := pStr_le x
        have gt : ¬ g1.1 3 5 ≤ 0 := by rw [w1.1]; exact nI_nle (by simp) (by simp only [List.length_cons]; omega)
        by_cases hs : s ≤ pStr x
        · have em : xCo (g1.1 6 V.length) = xEn (pOp x, 0) := by rw [hd, xCo_n x hx]
          have y4 : y < 408 := by omega
          have eq2 : pRel s W = ((out ++ [(pOp x, 0)]) ++ (pRel s V).1, (pRel s V).2) := by
            have eR : pRel s (x :: V) = ((pOp x, 0) :: (pRel s V).1, (pRel s V).2) := by
              show (if s ≤ pStr x then _ else _) = _
              exact if_pos hs
            rw [eq, eR, List.append_assoc]; rfl
          have nx := ih (y + 1) (uEmit (xEn (pOp x, 0)) y (xm_sI g1 3 5 (nI V.length))) (out ++ [(pOp x, 0)]) ((f1.p3 _ (by omega)).em _ _) (fun j hj => by
              unfold uEmit; rw [if_pos y4, xg_off _ _ _ (by decide), xg_off _ _ _ (by decide), xg_in, if_neg (by omega)]; exact f3 j hj)
            (w1.tl (by unfold uEmit; rw [if_pos y4, xg_off _ _ _ (by decide), xg_off _ _ _ (by decide), xg_in, if_pos rfl]) (by unfold uEmit; rw [if_pos y4, xg_off _ _ _ (by decide), xg_off _ _ _ (by decide), xg_off _ _ _ (by decide)]))
            (by unfold uEmit; rw [if_pos y4, xg_in, if_pos rfl]) (by omega) (by rw [List.length_append, ol]; simp only [List.length_singleton]; omega) (by omega) (fun i q hq => by
              unfold uEmit; rw [if_pos y4, xg_off _ _ _ (by decide), xg_in]
              rcases Nat.lt_or_ge i out.length with r | r
              · rw [List.getElem?_append_left r] at hq
                rw [if_neg (by omega), xg_off _ _ _ (by decide)]; exact cd i q hq
              · rw [List.getElem?_append_right r] at hq
                have := (List.getElem?_eq_some_iff.mp hq).1
                simp only [List.length_singleton] at this
                have e : i = out.length := by omega
                subst e
                rw [Nat.sub_self] at hq
                cases hq
                rw [if_pos (by omega)]) (fun j hj => by
              unfold uEmit; rw [if_pos y4, xg_off _ _ _ (by decide), xg_in, if_neg (by omega), xg_off _ _ _ (by decide)]; exact lo j hj) eq2
          have e12 : (xm_sI g1 3 5 (g1.1 3 5 - 1)).1 38 12 = nI y := by rw [xg_off _ _ _ (by decide)]; exact e1
          have e55 : (xm_sI g1 3 5 (g1.1 3 5 - 1)).1 3 5 = nI V.length := by rw [xg_in, if_pos rfl, e5]
          have e66 : (xm_sI g1 3 5 (g1.1 3 5 - 1)).1 6 V.length = g1.1 6 V.length := by rw [xg_off _ _ _ (by decide)]
          have eg : uEmit (xCo ((xm_sI g1 3 5 (g1.1 3 5 - 1)).1 6 V.length)) y (xm_sI g1 3 5 (g1.1 3 5 - 1)) = uEmit (xEn (pOp x, 0)) y (xm_sI g1 3 5 (nI V.length)) := by rw [e66, em, e5]
          rw [← eg] at nx
          refine xm_run_go hm 60 ⟨fun q => absurd q gt, fun _ => ⟨V.length, ⟨by omega, e5⟩, g1.1 6 V.length, ⟨rfl, trivial⟩, ⟨fun q => ?_, fun _ => ⟨V.length, ⟨by omega, e55⟩, (xm_sI g1 3 5 (g1.1 3 5 - 1)).1 6 V.length, ⟨rfl, trivial⟩, (xCo ((xm_sI g1 3 5 (g1.1 3 5 - 1)).1 6 V.length), y), ⟨rfl, by show y ≤ 408; omega, e12⟩, xm_cut hm nx⟩⟩⟩⟩
          rw [st] at q
          exact absurd q (nI_nlt hs (by omega))
        · have e : pRel s (x :: V) = ([], x :: V) := by unfold pRel; rw [if_neg hs]
          rw [e, List.append_nil] at eq
          refine xm_run_go hm 60 ⟨fun q => absurd q gt, fun _ => ⟨V.length, ⟨by omega, e5⟩, g1.1 6 V.length, ⟨rfl, trivial⟩, ⟨fun _ => hQ _ _ ⟨rfl, f1, f3, ?_, ?_, ?_, lo⟩, fun q => ?_⟩⟩⟩
          · rw [eq]; exact w1
          · rw [eq]; show _ = nI (z + out.length); rw [ol, e1]; exact congrArg nI (by omega)
          · rw [eq]; exact cd
          · rw [st] at q
            exact absurd q (nI_ge (by omega) (by omega))
    exact loop W z g [] xFs.rf (fun _ _ => rfl) hW hz hr (by simp) (Nat.le_refl _) (fun i q hq => by cases hq) (fun _ _ => rfl) (by rw [List.nil_append])
