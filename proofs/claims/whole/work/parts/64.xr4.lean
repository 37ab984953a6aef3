theorem xCd.app {g : xG} {z : Nat} {e e2 : vX} (h : xCd g z e) (h2 : xCd g (z + e.length) e2) : xCd g z (e ++ e2) := by
  intro i q hq
  rcases Nat.lt_or_ge i e.length with r | r
  · rw [List.getElem?_append_left r] at hq
    exact h i q hq
  · rw [List.getElem?_append_right r] at hq
    have := h2 _ q hq
    rw [show z + e.length + (i - e.length) = z + i by omega] at this
    exact this
theorem xCd.lo {g g' : xG} {z : Nat} {e : vX} (h : xCd g z e) (hl : ∀ j, j < z + e.length → g'.1 45 j = g.1 45 j) : xCd g' z e := fun i q hq => by
  have := (List.getElem?_eq_some_iff.mp hq).1
  rw [hl _ (by omega)]; exact h i q hq
theorem pRel_len (s : Nat) : ∀ W : List Nat, (pRel s W).1.length + (pRel s W).2.length = W.length
  | [] => rfl
  | x :: r => by
    unfold pRel
    have := pRel_len s r
    split
    · simp only [List.length_cons]; omega
    · simp
def xt_X1_closeBracket : xT := xm_rl (Z := vTk × Nat × Nat × Nat × Nat × List Nat × vX) (fun (k, N, z, a, o, W, e) av g => av = [.ref 3] ∧ xTk k N g ∧ a ≤ N ∧ xSm z a o W e g ∧ 0 < o ∧ pWf o 3 W ∧ z + e.length + W.length ≤ 408)
  (fun (k, N, z, a, o, W, e) g r g' => r = none ∧ xFs g g' ∧ (∀ j, j < z → g'.1 45 j = g.1 45 j) ∧ ((a < 400 ∧ xSm z (a + 1) (o - 1) (pRel 1 W).2.tail (e ++ (pRel 1 W).1) g') ∨ (400 ≤ a ∧ xBd 2 (k.2.1 a) z g')))
set_option maxRecDepth 100000 in
set_option maxHeartbeats 400000 in
theorem xp_X1_closeBracket {l : Launch} {D : va_G} {cA : Nat → ClassId} {B : List (Nat × Cell)} : xm_Met l D cA B xs_X 2 yX1_closeBracket cX1_closeBracket 1 none xt_X1_closeBracket := by
  have hm : xm_monos [xt_X1_take, xt_X1_release] := ⟨(by first | exact xm_fn_mono _ _ _ | exact xm_rl_mono _ _), (by first | exact xm_fn_mono _ _ _ | exact xm_rl_mono _ _), trivial⟩
  refine xm_meth (own := RX1) (ks := xk_X1_closeBracket) (C := xc_X1_closeBracket) (Ts := [xt_X1_take, xt_X1_release]) (by decide +kernel) rfl xm_clsok xs_X_ok xf_X1_ok xi_X1_ok xj_X1_ok (xm_lk xl_X1_77 xp_X1_take (by decide) (xm_lk xl_X1_161 xp_X1_release (by decide) xm_lk0)) xo_X1_closeBracket ?_ ?_
  · rintro av g Q ⟨z, ⟨rfl, -⟩, -⟩
    exact Nat.le_of_ble_eq_true rfl
  · rintro av g Q ⟨⟨k, N, z, a, o, W, e⟩, ⟨rfl, tk, aN, ⟨s8, s7, s6, sW, sz, sc⟩, o0, wf, bd⟩, hQ⟩
    dsimp only at tk aN s8 s7 s6 sW sz sc o0 wf bd hQ
    have N4 := tk.1
    have a4 : a ≤ 400 := by omega
    obtain ⟨t1, t2, t3, t4, t5⟩ := tk.2.2 a aN
    obtain ⟨r, hr, hwf⟩ : ∃ r, (pRel 1 W).2 = 40 :: r ∧ pWf (o - 1) 3 r := by
      rcases pRel_1 wf with ⟨q, -⟩ | ⟨-, q⟩
      · omega
      · exact q
    have pl := pRel_len 1 W
    rw [hr] at pl
    simp only [List.length_cons] at pl
    -- behind the take: the signs come out, the bracket goes
    have main : ∀ g1, xFs g g1 → g1.1 38 12 = nI (z + e.length) → g1.1 45 = g.1 45 → xWt W g1 → g1.1 3 6 = nI o → (∀ g3, xFs g g3 → (∀ j, j < z → g3.1 45 j = g.1 45 j) → g3.1 3 6 = nI (o - 1) → (∀ j, 7 ≤ j → g3.1 3 j = g1.1 3 j) → xWt r g3 → g3.1 38 12 = nI (z + (e ++ (pRel 1 W).1).length) → xCd g3 z (e ++ (pRel 1 W).1) → Q none g3) →
        ∀ (o2 : Option Value) (g2 : xG), (o2 = none ∧ xFs g1 g2 ∧ (∀ j, 6 ≤ j → g2.1 3 j = g1.1 3 j) ∧ xWt (pRel 1 W).2 g2 ∧ g2.1 38 12 = nI (z + e.length + (pRel 1 W).1.length) ∧ xCd g2 (z + e.length) (pRel 1 W).1 ∧ ∀ j, j < z + e.length → g2.1 45 j = g1.1 45 j) → (¬ g2.1 3 5 ≤ 0) ∧ Q none (xm_sI (xm_sI g2 3 5 (g2.1 3 5 - 1)) 3 6 ((xm_sI g2 3 5 (g2.1 3 5 - 1)).1 3 6 - 1)) := by
      rintro g1 f1 z1 c1 w1 o1 fin o2 g2 ⟨-, f2, k2, w2, z2, cd2, lo2⟩
      rw [hr] at w2
      have wl := w2.2.1
      simp only [List.length_cons] at wl
      have e5 : g2.1 3 5 - 1 = nI r.length := by rw [w2.1]; exact nI_pred r.length
      refine ⟨by rw [w2.1]; exact nI_nle (by simp) (by simp only [List.length_cons]; omega), fin _ (((f1.tr f2).p3 _ (by omega)).p3 _ (by omega)) (fun j hj => ?_) ?_ (fun j hj => ?_) ?_ ?_ ?_⟩
      · rw [xg_off _ _ _ (by decide), xg_off _ _ _ (by decide), lo2 j (by omega), c1]
      · rw [xg_in, if_pos rfl, xg_in, if_neg (by decide), k2 6 (by omega), o1, xn_dec o0]
      · rw [xg_in, if_neg (by omega), xg_in, if_neg (by omega), k2 j (by omega)]
      · exact w2.tl (by rw [xg_in, if_neg (by decide), xg_in, if_pos rfl, e5]) (by rw [xg_off _ _ _ (by decide), xg_off _ _ _ (by decide)])
      · rw [xg_off _ _ _ (by decide), xg_off _ _ _ (by decide), z2, List.length_append, Nat.add_assoc]
      · have c3 : xCd g2 z (e ++ (pRel 1 W).1) := (sc.lo (fun j hj => by rw [lo2 j hj, c1])).app cd2
        exact fun i q hq => by rw [xg_off _ _ _ (by decide), xg_off _ _ _ (by decide)]; exact c3 i q hq
    by_cases a4' : a < 400
    · obtain ⟨u1, u2⟩ := uTake_y s8 a4'
      have w1 : xWt W (uTake true a g) := by
        rw [u1]
        exact ⟨by rw [xg_in, if_neg (by decide)]; exact sW.1, sW.2.1, sW.2.2.1, fun i y hy => by rw [xg_off _ _ _ (by decide)]; exact sW.2.2.2 i y hy⟩
      have z1 : (uTake true a g).1 38 12 = nI (z + e.length) := by rw [u1, xg_off _ _ _ (by decide)]; exact sz
      refine xm_run_go hm 40 ⟨(true, a), ⟨rfl, a4, s7⟩, (1, W, z + e.length), ⟨rfl, by decide, by decide, w1, z1, by show z + e.length + W.length ≤ 408; omega⟩, ?_⟩
      intro o2 g2 h2
      obtain ⟨m1, m2⟩ := main _ (by rw [u1]; exact xFs.rf.p3 _ (by omega)) z1 (by rw [u1, xg_off _ _ _ (by decide)]) w1 (by rw [u1, xg_in, if_neg (by decide)]; exact s6) (fun g3 f3 lo3 o3 k3 w3 z3 c3 => hQ _ _ ⟨rfl, f3, lo3, Or.inl ⟨a4', by rw [k3 8 (by omega), u1, xg_in, if_neg (by decide)]; exact s8, by rw [k3 7 (by omega), u1, xg_in, if_pos rfl], o3, by rw [hr]; exact w3, z3, c3⟩⟩) o2 g2 h2
      obtain ⟨rfl, -⟩ := h2
      exact ⟨fun q => absurd q m1, fun _ => m2⟩
    · obtain ⟨f, -, -, u3, u4, u5⟩ := uTake_n (b := true) s8 (Or.inr (by omega : 400 ≤ a))
      have u4 : uTake true a g = uFail 2 a g := by rw [u4, u3 rfl]; rfl
      have ft := uFail_ft (f := 2) s8 (Or.inr rfl) a4 s7 t2
      have w1 : xWt W (uTake true a g) := by rw [u4]; exact uFail_w s8 sW
      have z1 : (uTake true a g).1 38 12 = nI (z + e.length) := by rw [u4, uFail_o (by decide)]; exact sz
      refine xm_run_go hm 40 ⟨(true, a), ⟨rfl, a4, s7⟩, (1, W, z + e.length), ⟨rfl, by decide, by decide, w1, z1, by show z + e.length + W.length ≤ 408; omega⟩, ?_⟩
      intro o2 g2 h2
      obtain ⟨m1, m2⟩ := main _ (by rw [u4]; exact xFs.rf.fl _ _) z1 (by rw [u4, uFail_o (by decide)]) w1 (by rw [u4, uFail_y s8, xg_in, if_neg (by decide), xg_in, if_neg (by decide)]; exact s6) (fun g3 f3 lo3 o3 k3 w3 z3 c3 => hQ _ _ ⟨rfl, f3, lo3, Or.inr ⟨by omega, by
        obtain ⟨q1, q2, q3, b, q4, q5⟩ := ft
        exact ⟨⟨by rw [k3 8 (by omega), u4]; exact q1, Or.inr rfl, by rw [k3 9 (by omega), u4]; exact q3, b, q4, by rw [k3 7 (by omega), u4]; exact q5⟩, r, _, w3, z3, by rw [List.length_append]; omega, by omega⟩⟩⟩) o2 g2 h2
      obtain ⟨rfl, -⟩ := h2
      exact ⟨fun q => absurd q m1, fun _ => m2⟩
def xt_X1_readSum : xT := xm_rl (Z := vTk × Nat × Nat × Nat) (fun (k, N, z, a) av g => av = [.ref 3] ∧ g.1 38 12 = nI z ∧ z ≤ 408 ∧ ((g.1 3 8 = 0 ∧ xTk k N g ∧ a ≤ N ∧ g.1 3 7 = nI a ∧ z ≤ a + 7) ∨ ∃ f p, xFt f p g))
  (fun (k, N, z, a) g r g' => r = none ∧ xFs g g' ∧ (∀ j, j < z → g'.1 45 j = g.1 45 j) ∧ (∃ y, y ≤ 408 ∧ g'.1 38 12 = nI y) ∧ (∀ f p, xFt f p g → xFt f p g') ∧ (g.1 3 8 = 0 → (∀ f p, pE k (401 - a) a 0 [] [] true = .inl (f, p) → xFt f p g') ∧ ∀ a' e, pE k (401 - a) a 0 [] [] true = .inr (a', e) → g'.1 3 8 = 0 ∧ g'.1 3 7 = nI a' ∧ g'.1 38 12 = nI (z + e.length) ∧ xCd g' z e))
theorem xFt.n0 {f p : Nat} {g : xG} (h : xFt f p g) : ¬ g.1 3 8 = 0 := by
  rw [h.1]; rcases h.2.1 with q | q <;> rw [q] <;> decide
theorem xFt.k {f p : Nat} {g g' : xG} (h : xFt f p g) (e : ∀ j, 7 ≤ j → j ≤ 9 → g'.1 3 j = g.1 3 j) : xFt f p g' := by
  obtain ⟨h1, h2, h3, a, h4, h5⟩ := h
  exact ⟨by rw [e 8 (by omega) (by omega)]; exact h1, h2, by rw [e 9 (by omega) (by omega)]; exact h3, a, h4, by rw [e 7 (by omega) (by omega)]; exact h5⟩
set_option maxRecDepth 100000 in
set_option maxHeartbeats 400000 in
theorem xp_X1_readSum {l : Launch} {D : va_G} {cA : Nat → ClassId} {B : List (Nat × Cell)} : xm_Met l D cA B xs_X 3 yX1_readSum cX1_readSum 4 none xt_X1_readSum := by
  have hm : xm_monos [xt_X1_readUnitOrOpen, xt_X1_kind, xt_X1_closeBracket, xt_X1_strength, xt_X1_release, xt_X1_await, xt_X1_take, xt_X1_fail] := ⟨(by first | exact xm_fn_mono _ _ _ | exact xm_rl_mono _ _), (by first | exact xm_fn_mono _ _ _ | exact xm_rl_mono _ _), (by first | exact xm_fn_mono _ _ _ | exact xm_rl_mono _ _), (by first | exact xm_fn_mono _ _ _ | exact xm_rl_mono _ _), (by first | exact xm_fn_mono _ _ _ | exact xm_rl_mono _ _), (by first | exact xm_fn_mono _ _ _ | exact xm_rl_mono _ _), (by first | exact xm_fn_mono _ _ _ | exact xm_rl_mono _ _), (by first | exact xm_fn_mono _ _ _ | exact xm_rl_mono _ _), trivial⟩
  refine xm_meth (own := RX1) (ks := xk_X1_readSum) (C := xc_X1_readSum) (Ts := [xt_X1_readUnitOrOpen, xt_X1_kind, xt_X1_closeBracket, xt_X1_strength, xt_X1_release, xt_X1_await, xt_X1_take, xt_X1_fail]) (by decide +kernel) rfl xm_clsok xs_X_ok xf_X1_ok xi_X1_ok xj_X1_ok (xm_lk xl_X1_150 xp_X1_readUnitOrOpen (by decide) (xm_lk xl_X1_60 xp_X1_kind (by decide) (xm_lk xl_X1_154 xp_X1_closeBracket (by decide) (xm_lk xl_X1_157 xp_X1_strength (by decide) (xm_lk xl_X1_161 xp_X1_release (by decide) (xm_lk xl_X1_164 xp_X1_await (by decide) (xm_lk xl_X1_77 xp_X1_take (by decide) (xm_lk xl_X1_88 xp_X1_fail (by decide) xm_lk0)))))))) xo_X1_readSum ?_ ?_
  · rintro av g Q ⟨z, ⟨rfl, -⟩, -⟩
    exact Nat.le_of_ble_eq_true rfl
  · rintro av g Q ⟨⟨k, N, z, a0⟩, ⟨rfl, hz, z4, hst⟩, hQ⟩
    dsimp only at hz z4 hst hQ
    -- where a fault stands the rest does nothing
    have bad : ∀ g1 f p, xFs g g1 → (∀ j, j < z → g1.1 45 j = g.1 45 j) → xBd f p z g1 → (∀ f' p', xFt f' p' g → xFt f' p' g1) → (g.1 3 8 = 0 → pE k (401 - a0) a0 0 [] [] true = .inl (f, p)) → ∀ x1 x2 x3, xm_go xs_X xk_X1_readSum [xt_X1_readUnitOrOpen, xt_X1_kind, xt_X1_closeBracket, xt_X1_strength, xt_X1_release, xt_X1_await, xt_X1_take, xt_X1_fail] xc_X1_readSum Q (xm_drop 12 xc_X1_readSum) [.ref 3, .int x1, .int x2, .int x3] [] g1 := by
      rintro g1 f p f1 lo ⟨ft, W, y, wt, yz, yb, zy⟩ ho hp x1 x2 x3
      have n0 := ft.n0
      obtain ⟨-, -, -, b, b4, b7⟩ := id ft
      have uf : uFail 1 b g1 = g1 := uFail_n n0
      have pl := pRel_len 1 W
      have rel : ∀ (o2 : Option Value) (g2 : xG), (o2 = none ∧ xFs g1 g2 ∧ (∀ j, 6 ≤ j → g2.1 3 j = g1.1 3 j) ∧ xWt (pRel 1 W).2 g2 ∧ g2.1 38 12 = nI (y + (pRel 1 W).1.length) ∧ xCd g2 y (pRel 1 W).1 ∧ ∀ j, j < y → g2.1 45 j = g1.1 45 j) → Q none g2 := by
        rintro o2 g2 ⟨-, f2, k2, w2, z2, cd2, lo2⟩
        have ft2 : xFt f p g2 := ft.k (fun j h1 h2 => k2 j (by omega))
        refine hQ _ _ ⟨rfl, f1.tr f2, fun j hj => by rw [lo2 j (by omega)]; exact lo j hj, ⟨_, by omega, z2⟩, fun f' p' h' => ?_, fun h0 => ⟨fun f' p' h' => ?_, fun a' e h' => ?_⟩⟩
        · exact (ho f' p' h').k (fun j h1 h2 => k2 j (by omega))
        · rw [hp h0] at h'
          cases h'
          exact ft2
        · rw [hp h0] at h'
          cases h'
      have pre2 : xWt W (uFail 1 b g1) := by rw [uf]; exact wt
      have pre3 : (uFail 1 b g1).1 38 12 = nI y := by rw [uf]; exact yz
      have rel' : ∀ (o2 : Option Value) (g2 : xG), (o2 = none ∧ xFs (uFail 1 b g1) g2 ∧ (∀ j, 6 ≤ j → g2.1 3 j = (uFail 1 b g1).1 3 j) ∧ xWt (pRel 1 W).2 g2 ∧ g2.1 38 12 = nI (y + (pRel 1 W).1.length) ∧ xCd g2 y (pRel 1 W).1 ∧ ∀ j, j < y → g2.1 45 j = (uFail 1 b g1).1 45 j) → Q none g2 := by rw [uf]; exact rel
      refine xm_run_go hm 40 ⟨fun _ => ⟨fun _ => ⟨(1, W, y), ⟨rfl, by decide, by decide, wt, yz, yb⟩, ?_⟩, fun _ => ⟨(1, b), ⟨rfl, b4, b7⟩, (1, W, y), ⟨rfl, by decide, by decide, pre2, pre3, yb⟩, ?_⟩⟩, fun _ => ⟨fun _ => ⟨fun _ => ⟨(1, W, y), ⟨rfl, by decide, by decide, wt, yz, yb⟩, ?_⟩, fun _ => ⟨(1, b), ⟨rfl, b4, b7⟩, (1, W, y), ⟨rfl, by decide, by decide, pre2, pre3, yb⟩, ?_⟩⟩, fun _ => ⟨fun _ => ⟨fun _ => ⟨(1, W, y), ⟨rfl, by decide, by decide, wt, yz, yb⟩, ?_⟩, fun _ => ⟨(1, b), ⟨rfl, b4, b7⟩, (1, W, y), ⟨rfl, by decide, by decide, pre2, pre3, yb⟩, ?_⟩⟩, fun q => absurd q n0⟩⟩⟩
      all_goals
        intro o2 g2 h2
        have r := by first | exact rel o2 g2 h2 | exact rel' o2 g2 h2
        obtain ⟨rfl, -⟩ := h2
        exact r
    rcases hst with ⟨s8, tk, aN, s7, za⟩ | ⟨f, p, ft⟩
    · have nf : ∀ f p, ¬ xFt f p g := fun f p h => h.n0 s8
      have loop : ∀ f a o W e b, a + f = 401 → a0 ≤ a → pE k f a o W e b = pE k (401 - a0) a0 0 [] [] true → a ≤ N → pWf o 3 W → o ≤ 6 → e.length + W.length + a0 ≤ a → ∀ g1, xFs g g1 → (∀ j, j < z → g1.1 45 j = g.1 45 j) → xSm z a o W e g1 → xm_go xs_X xk_X1_readSum [xt_X1_readUnitOrOpen, xt_X1_kind, xt_X1_closeBracket, xt_X1_strength, xt_X1_release, xt_X1_await, xt_X1_take, xt_X1_fail] xc_X1_readSum Q (xm_drop 12 xc_X1_readSum) [.ref 3, .int (if b then 1 else 0), .int 1, .int (nI (a - a0))] [] g1 := by
        intro f
        induction f with
        | zero =>
          intro a o W e b ha
          have := tk.1
          intros
          omega
        | succ f ih =>
          intro a o W e b ha aa hE aN wf o6 el g1 f1 lo sm
          have N4 := tk.1
          have tk1 := tk.s f1
          obtain ⟨q8, q7, q6, qW, qz, qc⟩ := id sm
          obtain ⟨t1, t2, t3, t4, t5⟩ := tk1.2.2 a aN
          have wl := pWf_len wf (by omega)
          have st4 : ¬ (400 : Int32) < nI (a - a0) := nI_nlt (a := 400) (b := a - a0) (by omega) (by decide)
          have inc : nI (a - a0) + 1 = nI (a + 1 - a0) := by rw [nI_1]; exact congrArg nI (by omega)
          have nx := fun o' W' e' b' => ih (a + 1) o' W' e' b' (by omega) (by omega)
          have lit : ∀ j, j < 1000 → (g1.1 8 a = nI j ↔ k.1 a = j) := fun j hj => by rw [t1]; exact nI_eq (by omega) (by omega)
          cases b with
          | true =>
            refine xm_run_go hm 60 ⟨fun q => absurd q st4, fun _ => ⟨fun q => absurd q (by decide), fun _ => ⟨fun q => absurd q8 q, fun _ => ⟨fun q => absurd q (by decide), fun _ => ⟨(k, N, z, a, o, W, e), ⟨rfl, tk1, aN, sm, o6, by show W.length ≤ 20; omega, by show z + e.length + W.length + 1 ≤ 408; omega⟩, ?_⟩⟩⟩⟩⟩
            rintro r g2 ⟨f2, lo2, h2⟩
            have lo' : ∀ j, j < z → g2.1 45 j = g.1 45 j := fun j hj => (lo2 j hj).trans (lo j hj)
            have eqE : pE k (f + 1) a o W e true = if k.1 a = 40 then (if 6 ≤ o then .inl (2, k.2.1 a) else if 400 ≤ a then .inl (2, k.2.1 a) else pE k f (a + 1) (o + 1) (40 :: W) e true) else if pUn k a then (if 400 ≤ a then .inl (2, k.2.1 a) else pE k f (a + 1) o W (e ++ [pU k a]) false) else .inl (1, k.2.1 a) := rfl
            rw [eqE] at hE
            rcases h2 with ⟨c1, c2, c3, rfl, s2⟩ | ⟨c1, c2, rfl, s2⟩ | ⟨c1, c2, c3, rfl, s2⟩ | ⟨c1, c2, c3, rfl, s2⟩ | ⟨c1, c2, rfl, s2⟩
            · rw [if_pos c1, if_neg (by omega), if_neg (by omega)] at hE
              have aN' := tk.lt aN (by omega) (by omega) c3
              have go := nx (o + 1) (40 :: W) e true hE aN' (Or.inl ⟨rfl, by omega, wf⟩) (by omega) (by simp only [List.length_cons]; omega) g2 (f1.tr f2) lo' s2
              rw [← inc] at go
              exact xm_cut hm go
            · have hE2 : pE k (401 - a0) a0 0 [] [] true = .inl (2, k.2.1 a) := by
                rw [← hE, if_pos c1]
                rcases c2 with c2 | c2
                · rw [if_pos c2]
                · rw [if_pos c2]; split <;> rfl
              exact xm_cut hm (bad g2 2 _ (f1.tr f2) lo' s2 (fun f' p' h => absurd h (nf _ _)) (fun _ => hE2) _ _ _)
            · rw [if_neg c1, if_pos c2, if_neg (by omega)] at hE
              have ku := pUn_i.mp c2
              have aN' := tk.lt aN (by omega) (by omega) c3
              have go := nx o W (e ++ [pU k a]) false hE aN' wf o6 (by rw [List.length_append]; simp only [List.length_singleton]; omega) g2 (f1.tr f2) lo' s2
              rw [← inc] at go
              exact xm_cut hm go
            · rw [if_neg c1, if_pos c2, if_pos c3] at hE
              exact xm_cut hm (bad g2 2 _ (f1.tr f2) lo' s2 (fun f' p' h => absurd h (nf _ _)) (fun _ => hE.symm) _ _ _)
            · rw [if_neg c1, if_neg (by rw [c2]; decide)] at hE
              exact xm_cut hm (bad g2 1 _ (f1.tr f2) lo' s2 (fun f' p' h => absurd h (nf _ _)) (fun _ => hE.symm) _ _ _)
          | false =>
            have eqE : pE k (f + 1) a o W e false = if k.1 a = 41 ∧ 0 < o then (if 400 ≤ a then .inl (2, k.2.1 a) else pE k f (a + 1) (o - 1) (pRel 1 W).2.tail (e ++ (pRel 1 W).1) false) else if 0 < pStr (k.1 a) then (if 400 ≤ a then .inl (2, k.2.1 a) else pE k f (a + 1) o (k.1 a :: (pRel (pStr (k.1 a)) W).2) (e ++ (pRel (pStr (k.1 a)) W).1) true) else if 0 < o then .inl (1, k.2.1 a) else .inr (a, e ++ (pRel 1 W).1) := rfl
            rw [eqE] at hE
            have a4 : a ≤ 400 := by omega
            have op : g1.1 3 6 ≤ 0 ↔ o = 0 := by
              rw [q6]
              exact ⟨fun q => by have := (nI_leI (b := 0) (by omega) (by omega)).mp q; omega, fun q => by rw [q]; decide⟩
            have sv : xStr (g1.1 8 a) = nI (pStr (k.1 a)) := by rw [t1, xStr_n _ (by omega)]
            have pl := pStr_le (k.1 a)
            by_cases c1 : k.1 a = 41 ∧ 0 < o
            · rw [if_pos c1] at hE
              refine xm_run_go hm 60 ⟨fun q => absurd q st4, fun _ => ⟨fun q => absurd q (by decide), fun _ => ⟨fun q => absurd q8 q, fun _ => ⟨fun _ => ⟨a, ⟨rfl, a4, q7⟩, ⟨fun q => absurd ((lit 41 (by omega)).mpr c1.1) q, fun _ => ⟨fun q => absurd (op.mp q) (by omega), fun _ => ⟨(k, N, z, a, o, W, e), ⟨rfl, tk1, aN, sm, c1.2, wf, by show z + e.length + W.length ≤ 408; omega⟩, ?_⟩⟩⟩⟩, fun q => absurd rfl q⟩⟩⟩⟩
              rintro r g2 ⟨rfl, f2, lo2, h2⟩
              have lo' : ∀ j, j < z → g2.1 45 j = g.1 45 j := fun j hj => (lo2 j hj).trans (lo j hj)
              rcases h2 with ⟨c3, s2⟩ | ⟨c3, s2⟩
              · rw [if_neg (by omega)] at hE
                have aN' := tk.lt aN (by omega) (by omega) c3
                have rl := pRel_len 1 W
                rcases pRel_1 wf with ⟨q, -⟩ | ⟨-, r, hr, hwf⟩
                · omega
                · rw [hr] at s2 hE rl
                  simp only [List.length_cons] at rl
                  have go := nx (o - 1) r (e ++ (pRel 1 W).1) false hE aN' hwf (by omega) (by rw [List.length_append]; omega) g2 (f1.tr f2) lo' s2
                  rw [← inc] at go
                  exact xm_cut hm go
              · rw [if_pos c3] at hE
                exact xm_cut hm (bad g2 2 _ (f1.tr f2) lo' s2 (fun f' p' h => absurd h (nf _ _)) (fun _ => hE.symm) _ _ _)
            · rw [if_neg c1] at hE
              by_cases c2 : 0 < pStr (k.1 a)
              · rw [if_pos c2] at hE
                have rl := pRel_len (pStr (k.1 a)) W
                have rwf := (pRel_wf c2 wf).1
                have rwl := pWf_len rwf (by omega)
                have eaS : [Value.ref 3, .int (xStr (g1.1 8 a))] = [Value.ref 3, .int (nI (pStr (k.1 a)))] := by rw [sv]
                -- the sign comes after those that bind as strongly
                have sig : ∀ (r : Option Value) (g2 : xG), (r = none ∧ xFs g1 g2 ∧ (∀ j, 6 ≤ j → g2.1 3 j = g1.1 3 j) ∧ xWt (pRel (pStr (k.1 a)) W).2 g2 ∧ g2.1 38 12 = nI (z + e.length + (pRel (pStr (k.1 a)) W).1.length) ∧ xCd g2 (z + e.length) (pRel (pStr (k.1 a)) W).1 ∧ ∀ j, j < z + e.length → g2.1 45 j = g1.1 45 j) → r = none ∧ g2.1 3 7 = nI a ∧ (pRel (pStr (k.1 a)) W).2.length ≤ 21 ∧ g2.1 3 5 = nI (pRel (pStr (k.1 a)) W).2.length ∧ (uAwait (g2.1 8 a) (pRel (pStr (k.1 a)) W).2.length g2).1 3 7 = nI a ∧ xm_go xs_X xk_X1_readSum [xt_X1_readUnitOrOpen, xt_X1_kind, xt_X1_closeBracket, xt_X1_strength, xt_X1_release, xt_X1_await, xt_X1_take, xt_X1_fail] xc_X1_readSum Q (xm_drop 12 xc_X1_readSum) [.ref 3, .int 1, .int 1, .int (nI (a - a0) + 1)] [] (uTake true a (uAwait (g2.1 8 a) (pRel (pStr (k.1 a)) W).2.length g2)) := by
                  rintro r g2 ⟨rfl, f2, k2, w2, z2, cd2, lo2⟩
                  have g8 : g2.1 8 a = nI (k.1 a) := by rw [f2.2.1 8 (by decide) (by decide) (by decide) (by decide)]; exact t1
                  have w21 : (pRel (pStr (k.1 a)) W).2.length < 21 := by omega
                  have w3 := w2.push (x := k.1 a) (by omega) w21
                  rw [g8]
                  have aw : uAwait (nI (k.1 a)) (pRel (pStr (k.1 a)) W).2.length g2 = xm_sI (xm_sI g2 6 (pRel (pStr (k.1 a)) W).2.length (nI (k.1 a))) 3 5 (nI ((pRel (pStr (k.1 a)) W).2.length + 1)) := by unfold uAwait; rw [if_pos w21]
                  generalize uAwait (nI (k.1 a)) (pRel (pStr (k.1 a)) W).2.length g2 = g3 at aw w3
                  have f3 : xFs g g3 := by rw [aw]; exact ((f1.tr f2).p6 _ _).p3 _ (by omega)
                  have p8 : g3.1 3 8 = 0 := by rw [aw, xg_in, if_neg (by decide), xg_off _ _ _ (by decide), k2 8 (by omega)]; exact q8
                  have p7 : g3.1 3 7 = nI a := by rw [aw, xg_in, if_neg (by decide), xg_off _ _ _ (by decide), k2 7 (by omega)]; exact q7
                  have p6 : g3.1 3 6 = nI o := by rw [aw, xg_in, if_neg (by decide), xg_off _ _ _ (by decide), k2 6 (by omega)]; exact q6
                  have pz : g3.1 38 12 = nI (z + e.length + (pRel (pStr (k.1 a)) W).1.length) := by rw [aw, xg_off _ _ _ (by decide), xg_off _ _ _ (by decide)]; exact z2
                  have pc : g3.1 45 = g2.1 45 := by rw [aw, xg_off _ _ _ (by decide), xg_off _ _ _ (by decide)]
                  have p9 : g3.1 9 a = nI (k.2.1 a) := by rw [aw, xg_off _ _ _ (by decide), xg_off _ _ _ (by decide), f2.2.1 9 (by decide) (by decide) (by decide) (by decide)]; exact t2
                  have c3' : xCd g3 z (e ++ (pRel (pStr (k.1 a)) W).1) := by
                    have := (qc.lo (g' := g2) (fun j hj => lo2 j hj)).app cd2
                    exact fun i q hq => by rw [pc]; exact this i q hq
                  have lo3 : ∀ j, j < z → g3.1 45 j = g.1 45 j := fun j hj => by rw [pc, lo2 j (by omega)]; exact lo j hj
                  refine ⟨rfl, by rw [k2 7 (by omega)]; exact q7, by omega, w2.1, p7, ?_⟩
                  by_cases a4' : a < 400
                  · rw [if_neg (by omega)] at hE
                    obtain ⟨u1, u2⟩ := uTake_y p8 a4'
                    have kop := pStr_op c2
                    have aN' := tk.lt aN (by omega) (by omega) a4'
                    rw [u1]
                    have go := nx o (k.1 a :: (pRel (pStr (k.1 a)) W).2) (e ++ (pRel (pStr (k.1 a)) W).1) true hE aN' (Or.inr ⟨kop, by omega, rwf⟩) o6 (by rw [List.length_append]; simp only [List.length_cons]; omega) (xm_sI g3 3 7 (nI (a + 1))) (f3.p3 _ (by omega)) (fun j hj => by rw [xg_off _ _ _ (by decide)]; exact lo3 j hj) ⟨by rw [xg_in, if_neg (by decide)]; exact p8, by rw [xg_in, if_pos rfl], by rw [xg_in, if_neg (by decide)]; exact p6, ⟨by rw [xg_in, if_neg (by decide)]; exact w3.1, w3.2.1, w3.2.2.1, fun i y hy => by rw [xg_off _ _ _ (by decide)]; exact w3.2.2.2 i y hy⟩, by rw [xg_off _ _ _ (by decide), pz, List.length_append, Nat.add_assoc], fun i q hq => by rw [xg_off _ _ _ (by decide)]; exact c3' i q hq⟩
                    rw [← inc] at go
                    exact go
                  · rw [if_pos (by omega)] at hE
                    obtain ⟨f', -, -, u3, u4, u5⟩ := uTake_n (b := true) p8 (Or.inr (by omega : 400 ≤ a))
                    rw [u4, u3 rfl]
                    exact bad _ 2 _ (f3.fl _ _) (fun j hj => by rw [uFail_o (by decide)]; exact lo3 j hj) ⟨uFail_ft p8 (Or.inr rfl) a4 p7 p9, _, _, uFail_w p8 w3, by rw [uFail_o (by decide)]; exact pz, by simp only [List.length_cons]; omega, by omega⟩ (fun f' p' h => absurd h (nf _ _)) (fun _ => hE.symm) _ _ _
                have gt : ¬ xStr (g1.1 8 a) ≤ 0 := by rw [sv]; exact nI_nle c2 (by omega)
                refine xm_run_go hm 80 ⟨fun q => absurd q st4, fun _ => ⟨fun q => absurd q (by decide), fun _ => ⟨fun q => absurd q8 q, fun _ => ⟨fun _ => ⟨a, ⟨rfl, a4, q7⟩, ⟨fun _ => ⟨a, ⟨rfl, a4, q7⟩, g1.1 8 a, ⟨rfl, trivial⟩, ⟨fun q => absurd q gt, fun _ => ⟨a, ⟨rfl, a4, q7⟩, g1.1 8 a, ⟨rfl, trivial⟩, (pStr (k.1 a), W, z + e.length), ⟨eaS, c2, pl, qW, qz, by show z + e.length + W.length ≤ 408; omega⟩, ?_⟩⟩⟩, fun q => ⟨fun _ => ⟨a, ⟨rfl, a4, q7⟩, g1.1 8 a, ⟨rfl, trivial⟩, ⟨fun q => absurd q gt, fun _ => ⟨a, ⟨rfl, a4, q7⟩, g1.1 8 a, ⟨rfl, trivial⟩, (pStr (k.1 a), W, z + e.length), ⟨eaS, c2, pl, qW, qz, by show z + e.length + W.length ≤ 408; omega⟩, ?_⟩⟩⟩, fun q2 => absurd ⟨(lit 41 (by omega)).mp q, by
                    have : ¬ o = 0 := fun e => absurd (op.mpr e) (Int32.not_le.mpr q2)
                    omega⟩ c1⟩⟩⟩, fun q => absurd rfl q⟩⟩⟩⟩
                all_goals
                  intro r g2 h2
                  obtain ⟨rfl, x1, x2, x3, x4, x5⟩ := sig r g2 h2
                  exact ⟨a, ⟨rfl, a4, x1⟩, (g2.1 8 a, (pRel (pStr (k.1 a)) W).2.length), ⟨rfl, x2, x3⟩, (true, a), ⟨rfl, a4, x4⟩, xm_cut hm x5⟩
              · rw [if_neg c2] at hE
                have le0 : xStr (g1.1 8 a) ≤ 0 := by rw [sv, show pStr (k.1 a) = 0 by omega]; decide
                -- nothing goes on: out
                have out : xm_go xs_X xk_X1_readSum [xt_X1_readUnitOrOpen, xt_X1_kind, xt_X1_closeBracket, xt_X1_strength, xt_X1_release, xt_X1_await, xt_X1_take, xt_X1_fail] xc_X1_readSum Q (xm_drop 12 xc_X1_readSum) [.ref 3, .int 0, .int 0, .int (nI (a - a0) + 1)] [] g1 := by
                  by_cases c4 : 0 < o
                  · rw [if_pos c4] at hE
                    have ft1 := uFail_ft (f := 1) q8 (Or.inl rfl) a4 q7 t2
                    have fw := uFail_w (x := 1) (a := a) q8 qW
                    have fz : (uFail 1 a g1).1 38 12 = nI (z + e.length) := by rw [uFail_o (by decide)]; exact qz
                    have rl := pRel_len 1 W
                    have rel : ∀ (o2 : Option Value) (g2 : xG), (o2 = none ∧ xFs (uFail 1 a g1) g2 ∧ (∀ j, 6 ≤ j → g2.1 3 j = (uFail 1 a g1).1 3 j) ∧ xWt (pRel 1 W).2 g2 ∧ g2.1 38 12 = nI (z + e.length + (pRel 1 W).1.length) ∧ xCd g2 (z + e.length) (pRel 1 W).1 ∧ ∀ j, j < z + e.length → g2.1 45 j = (uFail 1 a g1).1 45 j) → Q none g2 := by
                      rintro o2 g2 ⟨-, f2, k2, w2, z2, cd2, lo2⟩
                      have ft2 : xFt 1 (k.2.1 a) g2 := xFt.k ft1 (fun j h1 h2 => k2 j (by omega))
                      refine hQ _ _ ⟨rfl, (f1.fl 1 a).tr f2, fun j hj => by rw [lo2 j (by omega), uFail_o (by decide)]; exact lo j hj, ⟨_, by omega, z2⟩, fun f' p' h' => absurd h' (nf _ _), fun h0 => ⟨fun f' p' h' => ?_, fun a' e' h' => ?_⟩⟩
                      · rw [← hE] at h'; cases h'; exact ft2
                      · rw [← hE] at h'; cases h'
                    have ngt : ¬ g1.1 3 6 ≤ 0 := fun q => by have := op.mp q; omega
                    refine xm_run_go hm 40 ⟨fun _ => ⟨fun q => absurd q ngt, fun _ => ⟨(1, a), ⟨rfl, a4, q7⟩, (1, W, z + e.length), ⟨rfl, by decide, by decide, fw, fz, by show z + e.length + W.length ≤ 408; omega⟩, ?_⟩⟩, fun _ => ⟨fun _ => ⟨fun q => absurd q ngt, fun _ => ⟨(1, a), ⟨rfl, a4, q7⟩, (1, W, z + e.length), ⟨rfl, by decide, by decide, fw, fz, by show z + e.length + W.length ≤ 408; omega⟩, ?_⟩⟩, fun q => absurd rfl q⟩⟩
                    all_goals
                      intro o2 g2 h2
                      have r := rel o2 g2 h2
                      obtain ⟨rfl, -⟩ := h2
                      exact r
                  · rw [if_neg c4] at hE
                    have rl := pRel_len 1 W
                    have rel : ∀ (o2 : Option Value) (g2 : xG), (o2 = none ∧ xFs g1 g2 ∧ (∀ j, 6 ≤ j → g2.1 3 j = g1.1 3 j) ∧ xWt (pRel 1 W).2 g2 ∧ g2.1 38 12 = nI (z + e.length + (pRel 1 W).1.length) ∧ xCd g2 (z + e.length) (pRel 1 W).1 ∧ ∀ j, j < z + e.length → g2.1 45 j = g1.1 45 j) → Q none g2 := by
                      rintro o2 g2 ⟨-, f2, k2, w2, z2, cd2, lo2⟩
                      refine hQ _ _ ⟨rfl, f1.tr f2, fun j hj => by rw [lo2 j (by omega)]; exact lo j hj, ⟨_, by omega, z2⟩, fun f' p' h' => absurd h' (nf _ _), fun h0 => ⟨fun f' p' h' => ?_, fun a' e' h' => ?_⟩⟩
                      · rw [← hE] at h'; cases h'
                      · rw [← hE] at h'; cases h'
                        exact ⟨by rw [k2 8 (by omega)]; exact q8, by rw [k2 7 (by omega)]; exact q7, by rw [z2, List.length_append, Nat.add_assoc], (qc.lo (g' := g2) (fun j hj => lo2 j hj)).app cd2⟩
                    have le : g1.1 3 6 ≤ 0 := op.mpr (by omega)
                    refine xm_run_go hm 40 ⟨fun _ => ⟨fun _ => ⟨(1, W, z + e.length), ⟨rfl, by decide, by decide, qW, qz, by show z + e.length + W.length ≤ 408; omega⟩, ?_⟩, fun q => absurd le (Int32.not_le.mpr q)⟩, fun _ => ⟨fun _ => ⟨fun _ => ⟨(1, W, z + e.length), ⟨rfl, by decide, by decide, qW, qz, by show z + e.length + W.length ≤ 408; omega⟩, ?_⟩, fun q => absurd le (Int32.not_le.mpr q)⟩, fun q => absurd rfl q⟩⟩
                    all_goals
                      intro o2 g2 h2
                      have r := rel o2 g2 h2
                      obtain ⟨rfl, -⟩ := h2
                      exact r
                refine xm_run_go hm 80 ⟨fun q => absurd q st4, fun _ => ⟨fun q => absurd q (by decide), fun _ => ⟨fun q => absurd q8 q, fun _ => ⟨fun _ => ⟨a, ⟨rfl, a4, q7⟩, ⟨fun _ => ⟨a, ⟨rfl, a4, q7⟩, g1.1 8 a, ⟨rfl, trivial⟩, ⟨fun _ => xm_cut hm out, fun q => absurd le0 (Int32.not_le.mpr q)⟩⟩, fun q => ⟨fun _ => ⟨a, ⟨rfl, a4, q7⟩, g1.1 8 a, ⟨rfl, trivial⟩, ⟨fun _ => xm_cut hm out, fun q => absurd le0 (Int32.not_le.mpr q)⟩⟩, fun q2 => absurd ⟨(lit 41 (by omega)).mp q, by
                    have : ¬ o = 0 := fun e => absurd (op.mpr e) (Int32.not_le.mpr q2)
                    omega⟩ c1⟩⟩⟩, fun q => absurd rfl q⟩⟩⟩⟩
      have wt0 : xWt [] (xm_sI (xm_sI g 3 5 0) 3 6 0) := ⟨by rw [xg_in, if_neg (by decide), xg_in, if_pos rfl]; rfl, by decide, (fun x hx => by cases hx), (fun i x hx => by cases hx)⟩
      have go := loop (401 - a0) a0 0 [] [] true (by have := tk.1; omega) (Nat.le_refl _) rfl aN rfl (by omega) (by simp) (xm_sI (xm_sI g 3 5 0) 3 6 0) ((xFs.rf.p3 _ (by omega)).p3 _ (by omega)) (fun j hj => by rw [xg_off _ _ _ (by decide), xg_off _ _ _ (by decide)]) ⟨by rw [xg_in, if_neg (by decide), xg_in, if_neg (by decide)]; exact s8, by rw [xg_in, if_neg (by decide), xg_in, if_neg (by decide)]; exact s7, by rw [xg_in, if_pos rfl]; rfl, wt0, by rw [xg_off _ _ _ (by decide), xg_off _ _ _ (by decide)]; exact hz, fun i q hq => by cases hq⟩
      rw [Nat.sub_self] at go
      exact xm_run_go hm 40 (xm_cut hm go)
    · have n0 := ft.n0
      have wt0 : xWt [] (xm_sI (xm_sI g 3 5 0) 3 6 0) := ⟨by rw [xg_in, if_neg (by decide), xg_in, if_pos rfl]; rfl, by decide, (fun x hx => by cases hx), (fun i x hx => by cases hx)⟩
      have go := bad (xm_sI (xm_sI g 3 5 0) 3 6 0) f p ((xFs.rf.p3 _ (by omega)).p3 _ (by omega)) (fun j hj => by rw [xg_off _ _ _ (by decide), xg_off _ _ _ (by decide)]) ⟨ft.k (fun j h1 h2 => by rw [xg_in, if_neg (by omega), xg_in, if_neg (by omega)]), [], z, wt0, by rw [xg_off _ _ _ (by decide), xg_off _ _ _ (by decide)]; exact hz, by simp; omega, Nat.le_refl _⟩ (fun f' p' h' => h'.k (fun j h1 h2 => by rw [xg_in, if_neg (by omega), xg_in, if_neg (by omega)])) (fun h => absurd h n0)
      exact xm_run_go hm 40 (xm_cut hm (go _ _ _))
