-- laws
theorem vE_0 {vars : Nat → Int32} {q : Nat × Nat} {r : vX} {st : List Int32} (h : q.1 = 0) : vE vars (q :: r) st = vE vars r (nI q.2 :: st) := by
  show (if q.1 = 0 then _ else _) = _
  exact if_pos h
theorem vE_1 {vars : Nat → Int32} {q : Nat × Nat} {r : vX} {st : List Int32} (h : q.1 = 1) : vE vars (q :: r) st = vE vars r (vars q.2 :: st) := by
  show (if q.1 = 0 then _ else if q.1 = 1 then _ else _) = _
  rw [if_neg (by omega), if_pos h]
theorem vE_n {vars : Nat → Int32} {q : Nat × Nat} {r : vX} {x y : Int32} {s : List Int32} (h : q.1 = 5) (hy : y = 0) : vE vars (q :: r) (y :: x :: s) = none := by
  simp only [vE, if_neg (show ¬ q.1 = 0 by omega), if_neg (show ¬ q.1 = 1 by omega), if_pos (And.intro h hy)]
theorem vE_o {vars : Nat → Int32} {q : Nat × Nat} {r : vX} {x y : Int32} {s : List Int32} (h : 2 ≤ q.1) (hy : ¬ (q.1 = 5 ∧ y = 0)) : vE vars (q :: r) (y :: x :: s) = vE vars r (vOp q.1 x y :: s) := by
  simp only [vE, if_neg (show ¬ q.1 = 0 by omega), if_neg (show ¬ q.1 = 1 by omega), if_neg hy]
/-- the pile holds the stack -/
def mPl (g : xG) (st : List Int32) : Prop := ∀ j x, st.reverse[j]? = some x → g.1 31 j = x
theorem mPl.push {g : xG} {st : List Int32} (h : mPl g st) (v : Int32) : mPl (xm_sI g 31 st.length v) (v :: st) := by
  intro j x hx
  rw [List.reverse_cons] at hx
  rw [xg_in]
  rcases Nat.lt_or_ge j st.length with q | q
  · rw [List.getElem?_append_left (by rw [List.length_reverse]; exact q)] at hx
    rw [if_neg (by omega)]; exact h j x hx
  · rw [List.getElem?_append_right (by rw [List.length_reverse]; exact q)] at hx
    have := (List.getElem?_eq_some_iff.mp hx).1
    rw [List.length_reverse] at this hx
    simp only [List.length_singleton] at this
    have e : j = st.length := by omega
    subst e
    rw [Nat.sub_self] at hx
    cases hx
    rw [if_pos rfl]
theorem mPl.tl {g : xG} {x : Int32} {st : List Int32} (h : mPl g (x :: st)) : mPl g st := by
  intro j y hy
  refine h j y ?_
  rw [List.reverse_cons, List.getElem?_append_left (List.getElem?_eq_some_iff.mp hy).1]
  exact hy
theorem mPl.hd {g : xG} {x : Int32} {st : List Int32} (h : mPl g (x :: st)) : g.1 31 st.length = x := by
  refine h st.length x ?_
  rw [List.reverse_cons, List.getElem?_append_right (by rw [List.length_reverse]; exact Nat.le_refl _), List.length_reverse, Nat.sub_self]; rfl
def mFt (g g' : xG) : Prop := (∀ k, k ≠ 0 → k ≠ 31 → g'.1 k = g.1 k) ∧ (∀ j, j ≠ 48 → g'.1 0 j = g.1 0 j) ∧ g'.2 = g.2
theorem mFt.rf {g : xG} : mFt g g := ⟨fun _ _ _ => rfl, fun _ _ => rfl, rfl⟩
theorem mFt.tr {g g1 g2 : xG} (h : mFt g g1) (h2 : mFt g1 g2) : mFt g g2 := ⟨fun k a c => (h2.1 k a c).trans (h.1 k a c), fun j a => (h2.2.1 j a).trans (h.2.1 j a), h2.2.2.trans h.2.2⟩
theorem mFt.p {g g1 : xG} (h : mFt g g1) (j : Nat) (v : Int32) : mFt g (xm_sI g1 31 j v) := ⟨fun a h1 h3 => (xg_off g1 j v h3).trans (h.1 a h1 h3), fun i hi => by rw [xg_off g1 j v (by decide)]; exact h.2.1 i hi, h.2.2⟩
theorem mFt.b {g g1 : xG} (h : mFt g g1) (v : Int32) : mFt g (xm_sI g1 0 48 v) := ⟨fun a h1 h3 => (xg_off g1 48 v h1).trans (h.1 a h1 h3), fun i hi => by rw [xg_in, if_neg hi]; exact h.2.1 i hi, h.2.2⟩
theorem mFt.a {g g' : xG} (h : mFt g g') : mFa g g' := ⟨fun k a b c => h.1 k a c, h.2.1, h.2.2⟩
def xt_X9_termOf : xT := xm_rl (Z := Nat × vX × (Nat → Int32)) (fun (f, e, vars) av g => av = [.ref 0, .int (nI f), .int (nI (f + e.length))] ∧ mCd g f e ∧ vDp 15 e 0 ∧ ∀ i, i < 9 → g.1 30 i = vars i) (fun (f, e, vars) g o g' => mFt g g' ∧ ((∃ x, vEt vars e = some x ∧ o = some (.int x) ∧ g'.1 0 48 = g.1 0 48) ∨ (vEt vars e = none ∧ o = some (.int 0) ∧ g'.1 0 48 = 1)))
set_option maxRecDepth 100000 in
set_option maxHeartbeats 400000 in
theorem xp_X9_termOf {l : Launch} {D : va_G} {cA : Nat → ClassId} {B : List (Nat × Cell)} : xm_Met l D cA B xs_M 0 yX9_termOf cX9_termOf 8 (some .int) xt_X9_termOf := by
  have hm : xm_monos [] := xm_m0
  refine xm_meth (own := RX9) (ks := xk_X9_termOf) (C := xc_X9_termOf) (Ts := []) (by decide +kernel) rfl xm_clsok xs_M_ok xf_X9_ok xi_X9_ok xj_X9_ok xm_lk0 xo_X9_termOf ?_ ?_
  · rintro av g Q ⟨z, ⟨rfl, -⟩, -⟩
    exact Nat.le_of_ble_eq_true rfl
  · rintro av g Q ⟨⟨f, e, vars⟩, ⟨rfl, hc, hd, hv⟩, hQ⟩
    dsimp only at hc hd hv hQ
    have hf := hc.1
    have loop : ∀ r i st g1, i + r.length = e.length → (∀ j, r[j]? = e[i + j]?) → vDp 15 r st.length → st.length ≤ 15 → vE vars r st = vE vars e [] → mFt g g1 → g1.1 0 48 = g.1 0 48 → mPl g1 st → ∀ v3 v4, v3 = nI st.length → v4 = nI (f + i) → ∀ w5 w6 w7, xm_go xs_M xk_X9_termOf [] xc_X9_termOf Q (xm_drop 4 xc_X9_termOf) [.ref 0, .int (nI f), .int (nI (f + e.length)), .int v3, .int v4, w5, w6, w7] [] g1 := by
      intro r
      induction r with
      | nil =>
        intro i st g1 hi hr dp dl he ft fb pl v3 v4 e3 e4 w5 w6 w7
        have hi : i = e.length := hi
        have d1 : st.length = 1 := dp
        obtain ⟨x, rfl⟩ := List.length_eq_one_iff.mp d1
        refine xm_run_go hm 20 ⟨fun _ => ⟨0, ⟨by decide, rfl⟩, hQ _ _ ⟨ft, Or.inl ⟨x, ?_, ?_, fb⟩⟩⟩, fun z => ?_⟩
        · unfold vEt; rw [← he]; rfl
        · rw [show g1.1 31 0 = x from pl.hd]
        · rw [e4, hi] at z
          exact absurd z (nI_nlt (Nat.le_refl _) (by omega))
      | cons q r ih =>
        intro i st g1 hi hr dp dl he ft fb pl v3 v4 e3 e4 w5 w6 w7
        have hi' : i + r.length + 1 = e.length := by rw [← hi, List.length_cons]; omega
        have hq : e[i]? = some q := by have := hr 0; rw [Nat.add_zero] at this; rw [← this]; rfl
        have hr' : ∀ j, r[j]? = e[i + 1 + j]? := fun j => by
          have := hr (j + 1)
          rw [List.getElem?_cons_succ] at this
          rw [this]; congr 1; omega
        obtain ⟨c1, c2⟩ := hc.2 i q hq
        have k1 : g1.1 27 (f + i) = nI q.1 := by rw [ft.1 27 (by decide) (by decide)]; exact c1
        have k2 : g1.1 28 (f + i) = nI q.2 := by rw [ft.1 28 (by decide) (by decide)]; exact c2
        have fi : f + i < 840 := by omega
        have lt4 : ¬ nI (f + e.length) ≤ v4 := by rw [e4]; exact nI_ge (by omega) (by omega)
        by_cases h2 : q.1 < 2
        · rw [vDp, if_pos h2] at dp
          have st400 : st.length < 400 := by omega
          have nx : ∀ v g2, g2 = xm_sI g1 31 st.length v → vE vars r (v :: st) = vE vars e [] → ∀ w5, xm_go xs_M xk_X9_termOf [] xc_X9_termOf Q (xm_drop 4 xc_X9_termOf) [.ref 0, .int (nI f), .int (nI (f + e.length)), .int (v3 + 1), .int (v4 + 1), w5, w6, w7] [] g2 := fun v g2 hg2 hE w5 => by
            subst hg2
            exact ih (i + 1) (v :: st) _ (by omega) hr' dp.2.2 dp.2.1 hE (ft.p _ _) (by rw [xg_off _ _ _ (by decide)]; exact fb) (pl.push v) _ _ (by rw [e3, nI_1]; rfl) (by rw [e4, nI_1]; rfl) w5 w6 w7
          have g2 : ¬ 2 ≤ g1.1 27 (f + i) := by rw [k1]; exact nI_ge (b := 2) h2 (by decide)
          refine xm_run_go hm 50 ⟨fun z => absurd z lt4, fun _ => ⟨f + i, ⟨fi, e4⟩, ⟨fun z => absurd z g2, fun _ => ⟨fun z => ?_, fun z => ?_⟩⟩⟩⟩
          · have q1 : q.1 = 1 := by
              have : q.1 ≠ 0 := fun y => z (by rw [k1, y]; rfl)
              omega
            have q9 := dp.1 q1
            refine ⟨f + i, ⟨fi, e4⟩, q.2, ⟨q9, k2⟩, st.length, ⟨st400, e3⟩, xm_cut hm (nx _ _ rfl ?_ _)⟩
            rw [ft.1 30 (by decide) (by decide), hv _ q9, ← he, vE_1 q1]
          · have q0 : q.1 = 0 := (nI_eq (b := 0) (by omega) (by omega)).mp (k1.symm.trans z)
            refine ⟨f + i, ⟨fi, e4⟩, st.length, ⟨st400, e3⟩, xm_cut hm (nx _ _ rfl ?_ _)⟩
            rw [k2, ← he, vE_0 q0]
        · rw [vDp, if_neg h2] at dp
          obtain ⟨q6, d2, dp⟩ := dp
          match st, d2, dl, dp, he, pl, e3 with
          | y :: x :: s, d2, dl, dp, he, pl, e3 =>
            have sl : s.length + 1 < 400 := by simp only [List.length_cons] at dl; omega
            have a1 : v3 + -1 = nI (s.length + 1) := by
              rw [e3, ← Int32.sub_eq_add_neg]; exact nI_pred (s.length + 1)
            have a2 : v3 + -1 - 1 = nI s.length := by rw [a1, nI_pred]
            have py : g1.1 31 (s.length + 1) = y := pl.hd
            have px : g1.1 31 s.length = x := pl.tl.hd
            have nx : ∀ v g2, g2 = xm_sI g1 31 s.length v → vE vars r (v :: s) = vE vars e [] → ∀ w5 w6 w7, xm_go xs_M xk_X9_termOf [] xc_X9_termOf Q (xm_drop 4 xc_X9_termOf) [.ref 0, .int (nI f), .int (nI (f + e.length)), .int (v3 + -1), .int (v4 + 1), w5, w6, w7] [] g2 := fun v g2 hg2 hE w5 w6 w7 => by
              subst hg2
              exact ih (i + 1) (v :: s) _ (by omega) hr' dp (by simp only [List.length_cons] at dl ⊢; omega) hE (ft.p _ _) (by rw [xg_off _ _ _ (by decide)]; exact fb) (pl.tl.tl.push v) _ _ (by rw [a1]; rfl) (by rw [e4, nI_1]; rfl) w5 w6 w7
            have g2 : 2 ≤ g1.1 27 (f + i) := by rw [k1]; exact nI_le (a := 2) (by omega) (by omega)
            have lit : ∀ k, k < 100 → (g1.1 27 (f + i) = nI k ↔ q.1 = k) := fun k hk => by rw [k1]; exact nI_eq (by omega) (by omega)
            refine xm_run_go hm 90 ⟨fun z => absurd z lt4, fun _ => ⟨f + i, ⟨fi, e4⟩, ⟨fun _ => ⟨s.length, ⟨by omega, a2⟩, s.length + 1, ⟨sl, a1⟩, ⟨fun z5 => ?_, fun z5 => ⟨fun y0 => ?_, fun y0 => ⟨Or.inr rfl, hQ _ _ ⟨ft.b 1, Or.inr ⟨?_, rfl, ?_⟩⟩⟩⟩⟩⟩, fun z => absurd g2 (Int32.not_le.mpr z)⟩⟩⟩
            rotate_left 2
            · unfold vEt
              rw [← he, vE_n ((lit 5 (by omega)).mp z5) (by rw [← py]; exact y0)]
            · rw [xg_in, if_pos rfl]
            all_goals
              have hn : ¬ (q.1 = 5 ∧ y = 0) := by
                first
                | exact fun z => z5 ((lit 5 (by omega)).mpr z.1)
                | exact fun z => y0 (by rw [py]; exact z.2)
              have he' : ∀ v, v = vOp q.1 x y → vE vars r (v :: s) = vE vars e [] := fun v hv => by rw [← he, vE_o (by omega) hn, hv]
              refine ⟨fun n2 => ⟨fun n3 => ⟨fun n4 => ⟨fun y0 => ?_, s.length, ⟨by omega, a2⟩, xm_cut hm (nx _ _ rfl (he' _ ?_) _ _ _)⟩, fun e4 => ⟨s.length, ⟨by omega, a2⟩, xm_cut hm (nx _ _ rfl (he' _ ?_) _ _ _)⟩⟩, fun e3 => ⟨s.length, ⟨by omega, a2⟩, xm_cut hm (nx _ _ rfl (he' _ ?_) _ _ _)⟩⟩, fun e2 => ⟨s.length, ⟨by omega, a2⟩, xm_cut hm (nx _ _ rfl (he' _ ?_) _ _ _)⟩⟩
              · have m2 : q.1 ≠ 2 := fun z => n2 ((lit 2 (by omega)).mpr z)
                have m3 : q.1 ≠ 3 := fun z => n3 ((lit 3 (by omega)).mpr z)
                have m4 : q.1 ≠ 4 := fun z => n4 ((lit 4 (by omega)).mpr z)
                exact hn ⟨by omega, by rw [← py]; exact y0⟩
              · have m2 : q.1 ≠ 2 := fun z => n2 ((lit 2 (by omega)).mpr z)
                have m3 : q.1 ≠ 3 := fun z => n3 ((lit 3 (by omega)).mpr z)
                have m4 : q.1 ≠ 4 := fun z => n4 ((lit 4 (by omega)).mpr z)
                rw [vOp, if_neg m2, if_neg m3, if_neg m4, px, py]
              · rw [vOp, (lit 4 (by omega)).mp e4, px, py]; rfl
              · rw [vOp, (lit 3 (by omega)).mp e3, px, py]; rfl
              · rw [vOp, (lit 2 (by omega)).mp e2, px, py]; rfl
    exact xm_run_go hm 20 (xm_cut hm (loop e 0 [] g (Nat.zero_add _) (fun j => by rw [Nat.zero_add]) hd (by decide) rfl mFt.rf rfl (fun j x hx => by cases hx) _ _ rfl rfl _ _ _))

theorem mCd.t {g g' : xG} {f : Nat} {e : vX} (h : mCd g f e) (ft : mFt g g') : mCd g' f e := h.fr (ft.1 27 (by decide) (by decide)) (ft.1 28 (by decide) (by decide))
theorem vLw_b {b : vX × vX × vX} {bs : List (vX × vX × vX)} {e : vX} {vars : Nat → Int32} {x y : Int32} (hx : vEt vars b.1 = some x) (hy : vEt vars b.2.1 = some y) : vLw (b :: bs) e vars = if x < y then (vEt vars b.2.2).getD 0 else vLw bs e vars := by
  simp only [vLw, hx, hy]
theorem vLw_x {b : vX × vX × vX} {bs : List (vX × vX × vX)} {e : vX} {vars : Nat → Int32} (h : vEt vars b.1 = none ∨ vEt vars b.2.1 = none) : vLw (b :: bs) e vars = 0 := by
  rcases h with h | h
  · simp only [vLw, h]
  · cases hx : vEt vars b.1 <;> simp only [vLw, h, hx]
def xt_X9_lawTells : xT := xm_rl (Z := Nat × Int32 × Nat × (Nat → Int32) × ((Nat → Int32) → Int32)) (fun (k, dv, lv, vars, f) av g => av = [.ref 0, .int (nI k), .int dv] ∧ k < 4 ∧ lv < 2 ∧ g.1 0 18 = nI lv ∧ mLw g lv k f ∧ (vEt vars (vDf k)).getD 0 = dv ∧ ∀ i, i < 9 → g.1 30 i = vars i) (fun (k, dv, lv, vars, f) g o g' => o = some (.int (f vars)) ∧ mFt g g')
set_option maxRecDepth 100000 in
set_option maxHeartbeats 400000 in
theorem xp_X9_lawTells {l : Launch} {D : va_G} {cA : Nat → ClassId} {B : List (Nat × Cell)} : xm_Met l D cA B xs_M 1 yX9_lawTells cX9_lawTells 7 (some .int) xt_X9_lawTells := by
  have hm : xm_monos [xt_X9_termOf] := ⟨(by first | exact xm_fn_mono _ _ _ | exact xm_rl_mono _ _), trivial⟩
  refine xm_meth (own := RX9) (ks := xk_X9_lawTells) (C := xc_X9_lawTells) (Ts := [xt_X9_termOf]) (by decide +kernel) rfl xm_clsok xs_M_ok xf_X9_ok xi_X9_ok xj_X9_ok (xm_lk xl_X9_355 xp_X9_termOf (by decide) xm_lk0) xo_X9_lawTells ?_ ?_
  · rintro av g Q ⟨z, ⟨rfl, -⟩, -⟩
    exact Nat.le_of_ble_eq_true rfl
  · rintro av g Q ⟨⟨k, dv, lv, vars, f⟩, ⟨rfl, hk, hl, h18, ⟨bs, e, he, hw, hlay⟩, hd, hv⟩, hQ⟩
    dsimp only at hk hl h18 hlay hd hv hQ
    have ix : 4 * g.1 0 18 + nI k = nI (4 * lv + k) := by rw [h18, xn_4]
    have k8 : 4 * lv + k < 8 := by omega
    rcases hlay with ⟨a, rfl, rfl⟩ | ⟨b0, a1, a2, a3, a4, a5⟩
    · have fin := hQ (some (.int dv)) g ⟨by rw [he, vLw, hd], mFt.rf⟩
      refine xm_run_go hm 30 ⟨4 * lv + k, ⟨k8, ix⟩, 4 * lv + k, ⟨k8, ix⟩, ⟨fun z => absurd a z, fun _ => fin⟩⟩
    · have ne : ¬ g.1 20 (4 * lv + k) = g.1 21 (4 * lv + k) := by
        rw [a2, a3]
        intro z
        have := (nI_eq (by omega) (by omega)).mp z
        omega
      have vk : ∀ g1, mFt g g1 → ∀ i, i < 9 → g1.1 30 i = vars i := fun g1 ft i hi => by rw [ft.1 30 (by decide) (by decide)]; exact hv i hi
      have loop : ∀ rs j g1, j + rs.length = bs.length → (∀ i, rs[i]? = bs[j + i]?) → vLw rs e vars = vLw bs e vars → mFt g g1 → g1.1 0 48 = 0 → ∀ v3 v4, v3 = nI (4 * lv + k) → v4 = nI (b0 + j) → ∀ w5 w6, xm_go xs_M xk_X9_lawTells [xt_X9_termOf] xc_X9_lawTells Q (xm_drop 26 xc_X9_lawTells) [.ref 0, .int (nI k), .int dv, .int v3, .int v4, w5, w6] [] g1 := by
        intro rs
        induction rs with
        | nil =>
          intro j g1 hj hr hL ft fb v3 v4 e3 e4 w5 w6
          have hj : j = bs.length := hj
          subst hj
          obtain ⟨f0, -, -, b1, b2, b3, b4⟩ := a5
          have b4l := b4.1
          have e21 : g1.1 21 (4 * lv + k) = nI (b0 + bs.length + 1) := by rw [ft.1 21 (by decide) (by decide)]; exact a3
          have lt : ¬ g1.1 21 (4 * lv + k) ≤ v4 := by rw [e21, e4]; exact nI_ge (by omega) (by omega)
          have c22 : g1.1 22 (b0 + bs.length) = 0 := by rw [ft.1 22 (by decide) (by decide)]; exact b1
          have ea : [Value.ref 0, .int (g1.1 25 (b0 + bs.length)), .int (g1.1 26 (b0 + bs.length))] = [Value.ref 0, .int (nI f0), .int (nI (f0 + e.length))] := by rw [ft.1 25 (by decide) (by decide), ft.1 26 (by decide) (by decide), b2, b3]
          refine xm_run_go hm 60 ⟨4 * lv + k, ⟨k8, e3⟩, ⟨fun z => absurd z lt, fun _ => ⟨b0 + bs.length, ⟨by omega, e4⟩, ⟨fun _ => ⟨b0 + bs.length, ⟨by omega, e4⟩, b0 + bs.length, ⟨by omega, e4⟩, (f0, e, vars), ⟨ea, b4.t ft, hw.1, vk g1 ft⟩, ?_⟩, fun z => absurd c22 z⟩⟩⟩⟩
          rintro o g2 ⟨f2, ⟨x, h1, rfl, h3⟩ | ⟨h1, rfl, h3⟩⟩
          · refine ⟨fun z => hQ _ _ ⟨?_, ft.tr f2⟩, fun z => absurd (h3.trans fb) z⟩
            have hL' : vLw [] e vars = (vEt vars e).getD 0 := rfl
            rw [he, ← hL, hL']
            show _ = some (Value.int ((vEt vars e).getD 0))
            rw [show vEt vars e = some x from h1]; rfl
          · refine ⟨fun z => ?_, fun z => hQ _ _ ⟨?_, ft.tr f2⟩⟩
            · rw [h3] at z; exact absurd z (by decide)
            · have hL' : vLw [] e vars = (vEt vars e).getD 0 := rfl
              rw [he, ← hL, hL', show vEt vars e = none from h1]; rfl
        | cons q rs ih =>
          intro j g1 hj hr hL ft fb v3 v4 e3 e4 w5 w6
          have hj' : j + rs.length + 1 = bs.length := by rw [← hj, List.length_cons]; omega
          have hq : bs[j]? = some q := by have := hr 0; rw [Nat.add_zero] at this; rw [← this]; rfl
          have hr' : ∀ i, rs[i]? = bs[j + 1 + i]? := fun i => by
            have := hr (i + 1)
            rw [List.getElem?_cons_succ] at this
            rw [this]; congr 1; omega
          obtain ⟨f0, -, -, b1, b2, b3, b4, b5, b6, b7, b8⟩ := a4 j q hq
          obtain ⟨w1, w2, w3⟩ := hw.2 q (List.mem_of_getElem? hq)
          have l6 := b6.1
          have l7 := b7.1
          have l8 := b8.1
          have e21 : g1.1 21 (4 * lv + k) = nI (b0 + bs.length + 1) := by rw [ft.1 21 (by decide) (by decide)]; exact a3
          have lt : ¬ g1.1 21 (4 * lv + k) ≤ v4 := by rw [e21, e4]; exact nI_ge (by omega) (by omega)
          have c22 : ¬ g1.1 22 (b0 + j) = 0 := by rw [ft.1 22 (by decide) (by decide), b1]; decide
          have ea : [Value.ref 0, .int (g1.1 23 (b0 + j)), .int (g1.1 24 (b0 + j))] = [Value.ref 0, .int (nI f0), .int (nI (f0 + q.1.length))] := by rw [ft.1 23 (by decide) (by decide), ft.1 24 (by decide) (by decide), b2, b3]
          have bj : b0 + j < 260 := by omega
          have eb : ∀ g2, mFt g g2 → [Value.ref 0, .int (g2.1 24 (b0 + j)), .int (g2.1 25 (b0 + j))] = [Value.ref 0, .int (nI (f0 + q.1.length)), .int (nI (f0 + q.1.length + q.2.1.length))] := fun g2 f2 => by rw [f2.1 24 (by decide) (by decide), f2.1 25 (by decide) (by decide), b3, b4]
          have ec : ∀ g2, mFt g g2 → [Value.ref 0, .int (g2.1 25 (b0 + j)), .int (g2.1 26 (b0 + j))] = [Value.ref 0, .int (nI (f0 + q.1.length + q.2.1.length)), .int (nI (f0 + q.1.length + q.2.1.length + q.2.2.length))] := fun g2 f2 => by rw [f2.1 25 (by decide) (by decide), f2.1 26 (by decide) (by decide), b4, b5]
          have zero : ∀ g2, mFt g g2 → vEt vars q.1 = none ∨ vEt vars q.2.1 = none → Q (some (.int 0)) g2 := fun g2 f2 hn => hQ _ _ ⟨by rw [he, ← hL, vLw_x hn], f2⟩
          refine xm_run_go hm 90 ⟨4 * lv + k, ⟨k8, e3⟩, ⟨fun z => absurd z lt, fun _ => ⟨b0 + j, ⟨bj, e4⟩, ⟨fun z => absurd z c22, fun _ => ⟨b0 + j, ⟨bj, e4⟩, b0 + j, ⟨bj, e4⟩, (f0, q.1, vars), ⟨ea, b6.t ft, w1, vk g1 ft⟩, ?_⟩⟩⟩⟩⟩
          rintro o g2 ⟨f2, ho⟩
          have ft2 := ft.tr f2
          obtain ⟨u, ou, hu⟩ : ∃ u, o = some (Value.int u) ∧ ((vEt vars q.1 = some u ∧ g2.1 0 48 = 0) ∨ (vEt vars q.1 = none ∧ g2.1 0 48 = 1)) := by
            rcases ho with ⟨x, h1, h2, h3⟩ | ⟨h1, h2, h3⟩
            · exact ⟨x, h2, Or.inl ⟨h1, h3.trans fb⟩⟩
            · exact ⟨0, h2, Or.inr ⟨h1, h3⟩⟩
          subst ou
          refine ⟨b0 + j, ⟨bj, e4⟩, b0 + j, ⟨bj, e4⟩, (f0 + q.1.length, q.2.1, vars), ⟨eb g2 ft2, b7.t ft2, w2, vk g2 ft2⟩, ?_⟩
          rintro o g3 ⟨f3, ho⟩
          have ft3 := ft2.tr f3
          rcases hu with ⟨u1, u2⟩ | ⟨u1, u2⟩
          · rcases ho with ⟨y, h1, rfl, h3⟩ | ⟨h1, rfl, h3⟩
            · refine ⟨fun _ => ⟨fun z => ⟨b0 + j, ⟨bj, e4⟩, b0 + j, ⟨bj, e4⟩, (f0 + q.1.length + q.2.1.length, q.2.2, vars), ⟨ec g3 ft3, b8.t ft3, w3, vk g3 ft3⟩, ?_⟩, fun z => xm_cut hm (ih (j + 1) g3 (by omega) hr' ?_ ft3 (h3.trans u2) v3 (v4 + 1) e3 (by rw [e4, nI_1]; rfl) _ _)⟩, fun z => absurd (h3.trans u2) z⟩
              · have hL2 : vLw (q :: rs) e vars = (vEt vars q.2.2).getD 0 := by rw [vLw_b u1 h1, if_pos z]
                rintro o g4 ⟨f4, ⟨x, p1, rfl, p3⟩ | ⟨p1, rfl, p3⟩⟩
                · refine ⟨fun z => hQ _ _ ⟨?_, ft3.tr f4⟩, fun z => absurd (p3.trans (h3.trans u2)) z⟩
                  rw [he, ← hL, hL2, show vEt vars q.2.2 = some x from p1]; rfl
                · refine ⟨fun z => ?_, fun z => hQ _ _ ⟨?_, ft3.tr f4⟩⟩
                  · rw [p3] at z; exact absurd z (by decide)
                  · rw [he, ← hL, hL2, show vEt vars q.2.2 = none from p1]; rfl
              · rw [← hL, vLw_b u1 h1, if_neg (Int32.not_lt.mpr z)]
            · refine ⟨fun z => ?_, fun _ => zero g3 ft3 (Or.inr h1)⟩
              rw [h3] at z; exact absurd z (by decide)
          · have b3' : g3.1 0 48 = 1 := by
              rcases ho with ⟨y, h1, -, h3⟩ | ⟨h1, -, h3⟩
              · exact h3.trans u2
              · exact h3
            rcases ho with ⟨y, h1, rfl, h3⟩ | ⟨h1, rfl, h3⟩
            · refine ⟨fun z => ?_, fun _ => zero g3 ft3 (Or.inl u1)⟩
              rw [b3'] at z; exact absurd z (by decide)
            · refine ⟨fun z => ?_, fun _ => zero g3 ft3 (Or.inl u1)⟩
              rw [b3'] at z; exact absurd z (by decide)
      refine xm_run_go hm 60 ⟨4 * lv + k, ⟨k8, ix⟩, 4 * lv + k, ⟨k8, ix⟩, ⟨fun _ => ⟨Or.inl rfl, 4 * lv + k, ⟨k8, ?_⟩, xm_cut hm (loop bs 0 _ (Nat.zero_add _) (fun i => by rw [Nat.zero_add]) rfl (mFt.rf.b 0) (by rw [xg_in, if_pos rfl]) _ _ ix ?_ _ _)⟩, fun z => absurd z ne⟩⟩
      · exact ix
      · rw [xg_off _ _ _ (by decide), a2]; rfl
