-- what would be
/-- the dream stands beside the state -/
theorem xTop.dr {σ : vS} {g g' : xG} (h : xTop σ g) (q : xFrR 20 g g') : xTop σ g' := h.Q q.Q
theorem xFr.D {g g' : xG} (h : xFr 20 28 g g') : xFrR 20 g g' := h.R (by omega) (by omega)
def xt_X8_dreamOn : xT := xm_rl (Z := vS × Nat × Int32) (fun (σ, n, z) av g => av = [.ref 0, .int (nI n), .int z] ∧ n < 61 ∧ xTop σ g) (fun (σ, n, z) g o g' => o = none ∧ xTop σ g' ∧ xIn 20 (sT σ) (vGo (sT σ) (tS (sT σ)) z (sC σ) n) g')
set_option maxRecDepth 100000 in
set_option maxHeartbeats 400000 in
theorem xp_X8_dreamOn {l : Launch} {D : va_G} {cA : Nat → ClassId} {B : List (Nat × Cell)} : xm_Met l D cA B xs_X 6 yX8_dreamOn cX8_dreamOn 4 none xt_X8_dreamOn := by
  have hm : xm_monos [xt_X3_copyFrom, xt_X3_passWeek] := ⟨(by first | exact xm_fn_mono _ _ _ | exact xm_rl_mono _ _), (by first | exact xm_fn_mono _ _ _ | exact xm_rl_mono _ _), trivial⟩
  refine xm_meth (own := RX8) (ks := xk_X8_dreamOn) (C := xc_X8_dreamOn) (Ts := [xt_X3_copyFrom, xt_X3_passWeek]) (by decide +kernel) rfl xm_clsok xs_X_ok xf_X8_ok xi_X8_ok xj_X8_ok (xm_lk xl_X8_244 xp_X3_copyFrom (by decide) (xm_lk xl_X8_196 xp_X3_passWeek (by decide) xm_lk0)) xo_X8_dreamOn ?_ ?_
  · rintro av g Q ⟨z, ⟨rfl, -⟩, -⟩
    exact Nat.le_of_ble_eq_true rfl
  · rintro av g Q ⟨⟨σ, n, z⟩, ⟨rfl, hn, h⟩, hQ⟩
    dsimp only at hn h hQ
    refine xm_run_go hm 30 ⟨(sT σ, sC σ), ⟨rfl, h.c, h.i⟩, ?_⟩
    rintro o g1 ⟨rfl, i1, f1⟩
    have loop : ∀ d i, i + d = n → ∀ g2, xTop σ g2 → xIn 20 (sT σ) (vGo (sT σ) (tS (sT σ)) z (sC σ) i) g2 → xm_go xs_X xk_X8_dreamOn [xt_X3_copyFrom, xt_X3_passWeek] xc_X8_dreamOn Q (xm_drop 7 xc_X8_dreamOn) [.ref 0, .int (nI n), .int z, .int (nI i)] [] g2 := by
      intro d
      induction d with
      | zero =>
        intro i hi g2 h2 i2
        have hi : i = n := by omega
        subst hi
        exact xm_run_go hm 20 ⟨fun _ => hQ _ _ ⟨rfl, h2, i2⟩, fun z => absurd z (nI_nlt (Nat.le_refl _) (by omega))⟩
      | succ d ih =>
        intro i hi g2 h2 i2
        refine xm_run_go hm 30 ⟨fun z => absurd z (nI_ge (by omega) (by omega)), fun _ => ⟨(20, g2.1 29 11, z, sT σ, vGo (sT σ) (tS (sT σ)) z (sC σ) i), ⟨rfl, vGo_ok h.c _, i2⟩, ?_⟩⟩
        rintro o g3 ⟨rfl, i3, f3⟩
        rw [i2.2.2.1.2.2.2.2.1] at i3
        have nx := ih (i + 1) (by omega) g3 (h2.dr f3.D) i3
        rw [nI_succ] at nx
        exact xm_cut hm nx
    exact xm_cut hm (loop n 0 (by omega) g1 (h.dr f1) i1)
def xt_X8_best : xT := xm_rl (Z := vS × Int32 × Int32) (fun (σ, p, w) av g => av = [.ref 0, .int p, .int w] ∧ xTop σ g) (fun (σ, p, w) g o g' => o = some (.int (aBest σ p w)) ∧ xTop σ g')
set_option maxRecDepth 100000 in
set_option maxHeartbeats 400000 in
theorem xp_X8_best {l : Launch} {D : va_G} {cA : Nat → ClassId} {B : List (Nat × Cell)} : xm_Met l D cA B xs_X 5 yX8_best cX8_best 7 (some .int) xt_X8_best := by
  have hm : xm_monos [xt_X8_isPerson, xt_X8_isIn, xt_X3_copyFrom, xt_X3_throwUpon, xt_X3_rowJoins] := ⟨(by first | exact xm_fn_mono _ _ _ | exact xm_rl_mono _ _), (by first | exact xm_fn_mono _ _ _ | exact xm_rl_mono _ _), (by first | exact xm_fn_mono _ _ _ | exact xm_rl_mono _ _), (by first | exact xm_fn_mono _ _ _ | exact xm_rl_mono _ _), (by first | exact xm_fn_mono _ _ _ | exact xm_rl_mono _ _), trivial⟩
  refine xm_meth (own := RX8) (ks := xk_X8_best) (C := xc_X8_best) (Ts := [xt_X8_isPerson, xt_X8_isIn, xt_X3_copyFrom, xt_X3_throwUpon, xt_X3_rowJoins]) (by decide +kernel) rfl xm_clsok xs_X_ok xf_X8_ok xi_X8_ok xj_X8_ok (xm_lk xl_X8_128 xp_X8_isPerson (by decide) (xm_lk xl_X8_189 xp_X8_isIn (by decide) (xm_lk xl_X8_244 xp_X3_copyFrom (by decide) (xm_lk xl_X8_176 xp_X3_throwUpon (by decide) (xm_lk xl_X8_247 xp_X3_rowJoins (by decide) xm_lk0))))) xo_X8_best ?_ ?_
  · rintro av g Q ⟨z, ⟨rfl, -⟩, -⟩
    exact Nat.le_of_ble_eq_true rfl
  · rintro av g Q ⟨⟨σ, p, w⟩, ⟨rfl, h⟩, hQ⟩
    dsimp only at h hQ
    have m6 := h.m6
    have n5 := h.n5
    rcases vDo_c (m := tM (sT σ)) p (by omega) with hp | ⟨p, hp, rfl⟩
    · have fin := hQ (some (.int (-1))) g ⟨by rw [aBest, vDo_n hp], h⟩
      refine xm_run_go hm 30 ⟨(p, tM (sT σ)), ⟨rfl, h.m⟩, ⟨fun _ => fin, fun z => ?_⟩⟩
      exact absurd (vIs_n hp) z
    · have z1 := vIs_y hp (by omega : tM (sT σ) < 2 ^ 31)
      rcases vDo_or (m := 2) w (by omega) with hv | ⟨w, hv, rfl⟩
      · have fin := hQ (some (.int (-1))) g ⟨by rw [aBest, vDo_y hp (by omega), if_neg (fun e => hv (by rw [e]; decide)), if_neg (fun e => hv (by rw [e]; decide))], h⟩
        refine xm_run_go hm 30 ⟨(nI p, tM (sT σ)), ⟨rfl, h.m⟩, ⟨fun _ => fin, fun _ => ⟨(w, 0, 1), ⟨rfl, trivial⟩, ⟨fun z => ?_, fun _ => fin⟩⟩⟩⟩
        exact absurd (vIn_n (k := 1) rfl (by omega) hv) z
      · have z2 := vIn_y (k := 1) (hi := 1) rfl (by omega) hv
        unfold aBest at hQ
        rw [vDo_y hp (by omega)] at hQ
        generalize hf : (fun s => vRowJoins (sT σ) (vThrow (sT σ) (sC σ) p s)) = f at hQ
        have fp : ∀ s, vRowJoins (sT σ) (vThrow (sT σ) (sC σ) p s) = f s := fun s => by rw [← hf]
        have loop : ∀ d s, s + d = tN (sT σ) → ∀ v3 v4, v3 = (vBe f (-2) s).1 → v4 = (vBe f (-2) s).2 → ∀ g1, xTop σ g1 → ∀ w6, xm_go xs_X xk_X8_best [xt_X8_isPerson, xt_X8_isIn, xt_X3_copyFrom, xt_X3_throwUpon, xt_X3_rowJoins] xc_X8_best Q (xm_drop 17 xc_X8_best) [.ref 0, .int (nI p), .int (nI w), .int v3, .int v4, .int (nI s), w6] [] g1 := by
          intro d
          induction d with
          | zero =>
            intro s hs v3 v4 e3 e4 g1 h1 w6
            have hs : s = tN (sT σ) := by omega
            subst hs
            refine xm_run_go hm 30 ⟨fun _ => ⟨fun z => hQ _ _ ⟨?_, h1⟩, fun z => hQ _ _ ⟨?_, h1⟩⟩, fun z => ?_⟩
            · have : w = 1 := by
                have : w ≠ 0 := fun e => z (by rw [e]; rfl)
                omega
              subst this
              rw [if_neg z, if_pos (show nI 1 = 1 from rfl), e4]
            · rw [if_pos z, e3]
            · rw [h1.n] at z
              exact absurd z (nI_nlt (Nat.le_refl _) (by omega))
          | succ d ih =>
            intro s hs v3 v4 e3 e4 g1 h1 w6
            have hsn : s < tN (sT σ) := by omega
            have nx := ih (s + 1) (by omega)
            rw [nI_succ] at nx
            refine xm_run_go hm 40 ⟨fun z => ?_, fun _ => ⟨(sT σ, sC σ), ⟨rfl, h1.c, h1.i⟩, ?_⟩⟩
            · rw [h1.n] at z
              exact absurd z (nI_ge hsn (by omega))
            · rintro o g2 ⟨rfl, i2, f2⟩
              refine ⟨(20, p, s, sT σ, sC σ), ⟨rfl, hp, hsn, h.c, i2⟩, ?_⟩
              rintro o g3 ⟨rfl, i3, f3⟩
              have h3 := (h1.dr f2).dr f3.D
              refine ⟨(20, sT σ, vThrow (sT σ) (sC σ) p s), ⟨rfl, i3⟩, ⟨fun z => xm_cut hm (nx _ _ ?_ ?_ _ h3 _), fun z => xm_cut hm (nx _ _ ?_ ?_ _ h3 _)⟩⟩
              · rw [fp, e4] at z
                rw [vBe, if_neg (Int32.not_lt.mpr z)]; exact e3
              · rw [fp, e4] at z
                rw [vBe, if_neg (Int32.not_lt.mpr z)]; exact e4
              · rw [fp, e4] at z
                rw [vBe, if_pos z]
              · rw [fp, e4] at z
                rw [vBe, if_pos z]; exact fp s
        refine xm_run_go hm 30 ⟨(nI p, tM (sT σ)), ⟨rfl, h.m⟩, ⟨fun z => ?_, fun _ => ⟨(nI w, 0, 1), ⟨rfl, trivial⟩, ⟨fun _ => xm_cut hm (loop (tN (sT σ)) 0 (by omega) _ _ rfl rfl g h _), fun z => ?_⟩⟩⟩⟩
        · rw [z1] at z; exact absurd z (by decide)
        · rw [z2] at z; exact absurd z (by decide)
def xt_X8_where : xT := xm_rl (Z := vS × Int32 × Int32) (fun (σ, p, w) av g => av = [.ref 0, .int p, .int w] ∧ xTop σ g) (fun (σ, p, w) g o g' => o = some (.int (aWhere σ p w)) ∧ xTop σ g')
set_option maxRecDepth 100000 in
set_option maxHeartbeats 400000 in
theorem xp_X8_where {l : Launch} {D : va_G} {cA : Nat → ClassId} {B : List (Nat × Cell)} : xm_Met l D cA B xs_X 4 yX8_where cX8_where 7 (some .int) xt_X8_where := by
  have hm : xm_monos [xt_X8_isPerson, xt_X8_isIn, xt_X3_copyFrom, xt_X3_move, xt_X3_rowJoins] := ⟨(by first | exact xm_fn_mono _ _ _ | exact xm_rl_mono _ _), (by first | exact xm_fn_mono _ _ _ | exact xm_rl_mono _ _), (by first | exact xm_fn_mono _ _ _ | exact xm_rl_mono _ _), (by first | exact xm_fn_mono _ _ _ | exact xm_rl_mono _ _), (by first | exact xm_fn_mono _ _ _ | exact xm_rl_mono _ _), trivial⟩
  refine xm_meth (own := RX8) (ks := xk_X8_where) (C := xc_X8_where) (Ts := [xt_X8_isPerson, xt_X8_isIn, xt_X3_copyFrom, xt_X3_move, xt_X3_rowJoins]) (by decide +kernel) rfl xm_clsok xs_X_ok xf_X8_ok xi_X8_ok xj_X8_ok (xm_lk xl_X8_128 xp_X8_isPerson (by decide) (xm_lk xl_X8_189 xp_X8_isIn (by decide) (xm_lk xl_X8_244 xp_X3_copyFrom (by decide) (xm_lk xl_X8_186 xp_X3_move (by decide) (xm_lk xl_X8_247 xp_X3_rowJoins (by decide) xm_lk0))))) xo_X8_where ?_ ?_
  · rintro av g Q ⟨z, ⟨rfl, -⟩, -⟩
    exact Nat.le_of_ble_eq_true rfl
  · rintro av g Q ⟨⟨σ, p, w⟩, ⟨rfl, h⟩, hQ⟩
    dsimp only at h hQ
    have m6 := h.m6
    rcases vDo_c (m := tM (sT σ)) p (by omega) with hp | ⟨p, hp, rfl⟩
    · have fin := hQ (some (.int (-1))) g ⟨by rw [aWhere, vDo_n hp], h⟩
      refine xm_run_go hm 30 ⟨(p, tM (sT σ)), ⟨rfl, h.m⟩, ⟨fun _ => fin, fun z => ?_⟩⟩
      exact absurd (vIs_n hp) z
    · have z1 := vIs_y hp (by omega : tM (sT σ) < 2 ^ 31)
      rcases vDo_or (m := 2) w (by omega) with hv | ⟨w, hv, rfl⟩
      · have fin := hQ (some (.int (-1))) g ⟨by rw [aWhere, vDo_y hp (by omega), if_neg (fun e => hv (by rw [e]; decide)), if_neg (fun e => hv (by rw [e]; decide))], h⟩
        refine xm_run_go hm 30 ⟨(nI p, tM (sT σ)), ⟨rfl, h.m⟩, ⟨fun _ => fin, fun _ => ⟨(w, 0, 1), ⟨rfl, trivial⟩, ⟨fun z => ?_, fun _ => fin⟩⟩⟩⟩
        exact absurd (vIn_n (k := 1) rfl (by omega) hv) z
      · have z2 := vIn_y (k := 1) (hi := 1) rfl (by omega) hv
        unfold aWhere at hQ
        rw [vDo_y hp (by omega)] at hQ
        generalize hf : (fun s => vRowJoins (sT σ) (vMove (sC σ) p s)) = f at hQ
        have fp : ∀ s, vRowJoins (sT σ) (vMove (sC σ) p s) = f s := fun s => by rw [← hf]
        have loop : ∀ d s, s + d = tM (sT σ) → ∀ v3 v4, v3 = (vBe f (-1) s).1 → v4 = (vBe f (-1) s).2 → ∀ g1, xTop σ g1 → ∀ w6, xm_go xs_X xk_X8_where [xt_X8_isPerson, xt_X8_isIn, xt_X3_copyFrom, xt_X3_move, xt_X3_rowJoins] xc_X8_where Q (xm_drop 17 xc_X8_where) [.ref 0, .int (nI p), .int (nI w), .int v3, .int v4, .int (nI s), w6] [] g1 := by
          intro d
          induction d with
          | zero =>
            intro s hs v3 v4 e3 e4 g1 h1 w6
            have hs : s = tM (sT σ) := by omega
            subst hs
            refine xm_run_go hm 30 ⟨fun _ => ⟨fun z => hQ _ _ ⟨?_, h1⟩, fun z => hQ _ _ ⟨?_, h1⟩⟩, fun z => ?_⟩
            · have : w = 1 := by
                have : w ≠ 0 := fun e => z (by rw [e]; rfl)
                omega
              subst this
              rw [if_neg z, if_pos (show nI 1 = 1 from rfl), e4]
            · rw [if_pos z, e3]
            · rw [h1.m] at z
              exact absurd z (nI_nlt (Nat.le_refl _) (by omega))
          | succ d ih =>
            intro s hs v3 v4 e3 e4 g1 h1 w6
            have hsn : s < tM (sT σ) := by omega
            have nx := ih (s + 1) (by omega)
            rw [nI_succ] at nx
            refine xm_run_go hm 40 ⟨fun z => ?_, fun _ => ⟨(sT σ, sC σ), ⟨rfl, h1.c, h1.i⟩, ?_⟩⟩
            · rw [h1.m] at z
              exact absurd z (nI_ge hsn (by omega))
            · rintro o g2 ⟨rfl, i2, f2⟩
              refine ⟨(20, p, s, sT σ, sC σ), ⟨rfl, hp, hsn, h.c, i2⟩, ?_⟩
              rintro o g3 ⟨rfl, i3, f3⟩
              have h3 := (h1.dr f2).dr f3.D
              refine ⟨(20, sT σ, vMove (sC σ) p s), ⟨rfl, i3⟩, ⟨fun z => xm_cut hm (nx _ _ ?_ ?_ _ h3 _), fun z => xm_cut hm (nx _ _ ?_ ?_ _ h3 _)⟩⟩
              · rw [fp, e4] at z
                rw [vBe, if_neg (Int32.not_lt.mpr z)]; exact e3
              · rw [fp, e4] at z
                rw [vBe, if_neg (Int32.not_lt.mpr z)]; exact e4
              · rw [fp, e4] at z
                rw [vBe, if_pos z]
              · rw [fp, e4] at z
                rw [vBe, if_pos z]; exact fp s
        refine xm_run_go hm 30 ⟨(nI p, tM (sT σ)), ⟨rfl, h.m⟩, ⟨fun z => ?_, fun _ => ⟨(nI w, 0, 1), ⟨rfl, trivial⟩, ⟨fun _ => xm_cut hm (loop (tM (sT σ)) 0 (by omega) _ _ rfl rfl g h _), fun z => ?_⟩⟩⟩⟩
        · rw [z1] at z; exact absurd z (by decide)
        · rw [z2] at z; exact absurd z (by decide)
def xt_X8_worth : xT := xm_rl (Z := vS × Int32) (fun (σ, n) av g => av = [.ref 0, .int n] ∧ xTop σ g) (fun (σ, n) g o g' => o = some (.int (aWorth σ n)) ∧ xTop σ g')
set_option maxRecDepth 100000 in
set_option maxHeartbeats 400000 in
theorem xp_X8_worth {l : Launch} {D : va_G} {cA : Nat → ClassId} {B : List (Nat × Cell)} : xm_Met l D cA B xs_X 7 yX8_worth cX8_worth 2 (some .int) xt_X8_worth := by
  have hm : xm_monos [xt_X8_isIn, xt_X8_dreamOn] := ⟨(by first | exact xm_fn_mono _ _ _ | exact xm_rl_mono _ _), (by first | exact xm_fn_mono _ _ _ | exact xm_rl_mono _ _), trivial⟩
  refine xm_meth (own := RX8) (ks := xk_X8_worth) (C := xc_X8_worth) (Ts := [xt_X8_isIn, xt_X8_dreamOn]) (by decide +kernel) rfl xm_clsok xs_X_ok xf_X8_ok xi_X8_ok xj_X8_ok (xm_lk xl_X8_189 xp_X8_isIn (by decide) (xm_lk xl_X8_253 xp_X8_dreamOn (by decide) xm_lk0)) xo_X8_worth ?_ ?_
  · rintro av g Q ⟨z, ⟨rfl, -⟩, -⟩
    exact Nat.le_of_ble_eq_true rfl
  · rintro av g Q ⟨⟨σ, n⟩, ⟨rfl, h⟩, hQ⟩
    dsimp only at h hQ
    rcases vDo_or (m := 61) n (by omega) with hn | ⟨n, hn, rfl⟩
    · have fin := hQ (some (.int (-1))) g ⟨by rw [aWorth, vDo_n hn], h⟩
      refine xm_run_go hm 30 ⟨(n, 0, 60), ⟨rfl, trivial⟩, ⟨fun z => ?_, fun _ => fin⟩⟩
      exact absurd (vIn_n (k := 60) rfl (by omega) hn) z
    · have z1 := vIn_y (k := 60) (hi := 60) rfl (by omega) hn
      refine xm_run_go hm 30 ⟨(nI n, 0, 60), ⟨rfl, trivial⟩, ⟨fun _ => ⟨(σ, n, 0), ⟨rfl, hn, h⟩, ?_⟩, fun z => ?_⟩⟩
      · rintro o g1 ⟨rfl, h1, i1⟩
        exact hQ _ _ ⟨by rw [aWorth, vDo_y hn (by omega), i1.2.2.2.1.2.2.2.2, h1.i.2.2.2.1.2.2.2.2], h1⟩
      · rw [z1] at z; exact absurd z (by decide)
def xt_X8_paidIn : xT := xm_rl (Z := vS × Int32) (fun (σ, n) av g => av = [.ref 0, .int n] ∧ xTop σ g) (fun (σ, n) g o g' => o = some (.int (aPaidIn σ n)) ∧ xTop σ g')
set_option maxRecDepth 100000 in
set_option maxHeartbeats 400000 in
theorem xp_X8_paidIn {l : Launch} {D : va_G} {cA : Nat → ClassId} {B : List (Nat × Cell)} : xm_Met l D cA B xs_X 7 yX8_paidIn cX8_paidIn 2 (some .int) xt_X8_paidIn := by
  have hm : xm_monos [xt_X8_isIn, xt_X8_dreamOn] := ⟨(by first | exact xm_fn_mono _ _ _ | exact xm_rl_mono _ _), (by first | exact xm_fn_mono _ _ _ | exact xm_rl_mono _ _), trivial⟩
  refine xm_meth (own := RX8) (ks := xk_X8_paidIn) (C := xc_X8_paidIn) (Ts := [xt_X8_isIn, xt_X8_dreamOn]) (by decide +kernel) rfl xm_clsok xs_X_ok xf_X8_ok xi_X8_ok xj_X8_ok (xm_lk xl_X8_189 xp_X8_isIn (by decide) (xm_lk xl_X8_253 xp_X8_dreamOn (by decide) xm_lk0)) xo_X8_paidIn ?_ ?_
  · rintro av g Q ⟨z, ⟨rfl, -⟩, -⟩
    exact Nat.le_of_ble_eq_true rfl
  · rintro av g Q ⟨⟨σ, n⟩, ⟨rfl, h⟩, hQ⟩
    dsimp only at h hQ
    rcases vDo_or (m := 61) n (by omega) with hn | ⟨n, hn, rfl⟩
    · have fin := hQ (some (.int (-1))) g ⟨by rw [aPaidIn, vDo_n hn], h⟩
      refine xm_run_go hm 30 ⟨(n, 0, 60), ⟨rfl, trivial⟩, ⟨fun z => ?_, fun _ => fin⟩⟩
      exact absurd (vIn_n (k := 60) rfl (by omega) hn) z
    · have z1 := vIn_y (k := 60) (hi := 60) rfl (by omega) hn
      refine xm_run_go hm 30 ⟨(nI n, 0, 60), ⟨rfl, trivial⟩, ⟨fun _ => ⟨(σ, n, 1), ⟨rfl, hn, h⟩, ?_⟩, fun z => ?_⟩⟩
      · rintro o g1 ⟨rfl, h1, i1⟩
        exact hQ _ _ ⟨by rw [aPaidIn, vDo_y hn (by omega), i1.2.2.2.1.2.2.2.2], h1⟩
      · rw [z1] at z; exact absurd z (by decide)
def xt_X8_then : xT := xm_rl (Z := vS × Int32 × Int32) (fun (σ, p, n) av g => av = [.ref 0, .int p, .int n] ∧ xTop σ g) (fun (σ, p, n) g o g' => o = some (.int (aThen σ p n)) ∧ xTop σ g')
set_option maxRecDepth 100000 in
set_option maxHeartbeats 400000 in
theorem xp_X8_then {l : Launch} {D : va_G} {cA : Nat → ClassId} {B : List (Nat × Cell)} : xm_Met l D cA B xs_X 7 yX8_then cX8_then 3 (some .int) xt_X8_then := by
  have hm : xm_monos [xt_X8_isPerson, xt_X8_isIn, xt_X8_dreamOn] := ⟨(by first | exact xm_fn_mono _ _ _ | exact xm_rl_mono _ _), (by first | exact xm_fn_mono _ _ _ | exact xm_rl_mono _ _), (by first | exact xm_fn_mono _ _ _ | exact xm_rl_mono _ _), trivial⟩
  refine xm_meth (own := RX8) (ks := xk_X8_then) (C := xc_X8_then) (Ts := [xt_X8_isPerson, xt_X8_isIn, xt_X8_dreamOn]) (by decide +kernel) rfl xm_clsok xs_X_ok xf_X8_ok xi_X8_ok xj_X8_ok (xm_lk xl_X8_128 xp_X8_isPerson (by decide) (xm_lk xl_X8_189 xp_X8_isIn (by decide) (xm_lk xl_X8_253 xp_X8_dreamOn (by decide) xm_lk0))) xo_X8_then ?_ ?_
  · rintro av g Q ⟨z, ⟨rfl, -⟩, -⟩
    exact Nat.le_of_ble_eq_true rfl
  · rintro av g Q ⟨⟨σ, p, n⟩, ⟨rfl, h⟩, hQ⟩
    dsimp only at h hQ
    have m6 := h.m6
    rcases vDo_c (m := tM (sT σ)) p (by omega) with hp | ⟨p, hp, rfl⟩
    · have fin := hQ (some (.int (-1))) g ⟨by rw [aThen, vDo_n hp], h⟩
      refine xm_run_go hm 30 ⟨(p, tM (sT σ)), ⟨rfl, h.m⟩, ⟨fun _ => fin, fun z => ?_⟩⟩
      exact absurd (vIs_n hp) z
    · have z1 := vIs_y hp (by omega : tM (sT σ) < 2 ^ 31)
      rcases vDo_or (m := 61) n (by omega) with hn | ⟨n, hn, rfl⟩
      · have fin := hQ (some (.int (-1))) g ⟨by rw [aThen, vDo_y hp (by omega), vDo_n hn], h⟩
        refine xm_run_go hm 30 ⟨(nI p, tM (sT σ)), ⟨rfl, h.m⟩, ⟨fun _ => fin, fun _ => ⟨(n, 0, 60), ⟨rfl, trivial⟩, ⟨fun z => ?_, fun _ => fin⟩⟩⟩⟩
        exact absurd (vIn_n (k := 60) rfl (by omega) hn) z
      · have z2 := vIn_y (k := 60) (hi := 60) rfl (by omega) hn
        refine xm_run_go hm 30 ⟨(nI p, tM (sT σ)), ⟨rfl, h.m⟩, ⟨fun z => ?_, fun _ => ⟨(nI n, 0, 60), ⟨rfl, trivial⟩, ⟨fun _ => ⟨(σ, n, 1), ⟨rfl, hn, h⟩, ?_⟩, fun z => ?_⟩⟩⟩⟩
        · rw [z1] at z; exact absurd z (by decide)
        · rintro o g1 ⟨rfl, h1, i1⟩
          exact ⟨p, ⟨by omega, rfl⟩, hQ _ _ ⟨by rw [aThen, vDo_y hp (by omega), vDo_y hn (by omega), (i1.2.2.2.2 p hp).2.1], h1⟩⟩
        · rw [z2] at z; exact absurd z (by decide)
theorem vGo_wk (t : vSt) (e z : Int32) (c : vSc) : ∀ n, cK (vGo t e z c n) = cK c + nI n
  | 0 => (Int32.add_zero _).symm
  | n + 1 => by
    show cK (vGo t e z c n) + 1 = _
    rw [vGo_wk t e z c n, nI_succ, Int32.add_assoc]
theorem xn_back (a b : Int32) : a + b - a = b := by rw [Int32.add_comm, Int32.add_sub_cancel]
def xt_X8_plainIn : xT := xm_rl (Z := vS × Int32) (fun (σ, p) av g => av = [.ref 0, .int p] ∧ xTop σ g) (fun (σ, p) g o g' => o = some (.int (aPlainIn σ p)) ∧ xTop σ g')
set_option maxRecDepth 100000 in
set_option maxHeartbeats 400000 in
theorem xp_X8_plainIn {l : Launch} {D : va_G} {cA : Nat → ClassId} {B : List (Nat × Cell)} : xm_Met l D cA B xs_X 6 yX8_plainIn cX8_plainIn 3 (some .int) xt_X8_plainIn := by
  have hm : xm_monos [xt_X8_isPerson, xt_X3_copyFrom, xt_X3_passWeek] := ⟨(by first | exact xm_fn_mono _ _ _ | exact xm_rl_mono _ _), (by first | exact xm_fn_mono _ _ _ | exact xm_rl_mono _ _), (by first | exact xm_fn_mono _ _ _ | exact xm_rl_mono _ _), trivial⟩
  refine xm_meth (own := RX8) (ks := xk_X8_plainIn) (C := xc_X8_plainIn) (Ts := [xt_X8_isPerson, xt_X3_copyFrom, xt_X3_passWeek]) (by decide +kernel) rfl xm_clsok xs_X_ok xf_X8_ok xi_X8_ok xj_X8_ok (xm_lk xl_X8_128 xp_X8_isPerson (by decide) (xm_lk xl_X8_244 xp_X3_copyFrom (by decide) (xm_lk xl_X8_196 xp_X3_passWeek (by decide) xm_lk0))) xo_X8_plainIn ?_ ?_
  · rintro av g Q ⟨z, ⟨rfl, -⟩, -⟩
    exact Nat.le_of_ble_eq_true rfl
  · rintro av g Q ⟨⟨σ, p⟩, ⟨rfl, h⟩, hQ⟩
    dsimp only at h hQ
    have m6 := h.m6
    rcases vDo_c (m := tM (sT σ)) p (by omega) with hp | ⟨p, hp, rfl⟩
    · have fin := hQ (some (.int (-1))) g ⟨by rw [aPlainIn, vDo_n hp], h⟩
      refine xm_run_go hm 30 ⟨(p, tM (sT σ)), ⟨rfl, h.m⟩, ⟨fun z => ?_, fun _ => fin⟩⟩
      exact absurd (vIs_n hp) z
    · have z1 := vIs_y hp (by omega : tM (sT σ) < 2 ^ 31)
      have p6 : p < 6 := by omega
      unfold aPlainIn at hQ
      rw [vDo_y hp (by omega)] at hQ
      have loop : ∀ d i, i + d = 100 → vUn (fun n => vPic (sT σ) (vGo (sT σ) (tS (sT σ)) 0 (sC σ) n) p < 0) d i = vUn (fun n => vPic (sT σ) (vGo (sT σ) (tS (sT σ)) 0 (sC σ) n) p < 0) 100 0 → ∀ g2, xTop σ g2 → xIn 20 (sT σ) (vGo (sT σ) (tS (sT σ)) 0 (sC σ) i) g2 → xm_go xs_X xk_X8_plainIn [xt_X8_isPerson, xt_X3_copyFrom, xt_X3_passWeek] xc_X8_plainIn Q (xm_drop 13 xc_X8_plainIn) [.ref 0, .int (nI p), .int (nI i)] [] g2 := by
        intro d
        induction d with
        | zero =>
          intro i hi hu g2 h2 i2
          have hi : i = 100 := by omega
          subst hi
          have ep := (i2.2.2.2.2 p hp).2.1
          refine xm_run_go hm 40 ⟨fun _ => ⟨p, ⟨p6, rfl⟩, ⟨fun y => hQ _ _ ⟨?_, h2⟩, fun y => hQ _ _ ⟨?_, h2⟩⟩⟩, fun z => absurd z (by decide)⟩
          · rw [ep] at y
            rw [← hu, vUn_0 (Int32.not_lt.mpr y)]
          · rw [ep] at y
            rw [← hu, vUn_y y, i2.2.2.2.1.2.2.2.1, h2.i.2.2.2.1.2.2.2.1, vGo_wk, xn_back]
        | succ d ih =>
          intro i hi hu g2 h2 i2
          have ep := (i2.2.2.2.2 p hp).2.1
          refine xm_run_go hm 40 ⟨fun z => absurd z (nI_ge (b := 100) (by omega) (by omega)), fun _ => ⟨p, ⟨p6, rfl⟩, ⟨fun y => ⟨p, ⟨p6, rfl⟩, ⟨fun x => ?_, fun _ => hQ _ _ ⟨?_, h2⟩⟩⟩, fun y => ⟨(20, g2.1 29 11, 0, sT σ, vGo (sT σ) (tS (sT σ)) 0 (sC σ) i), ⟨rfl, vGo_ok h.c _, i2⟩, ?_⟩⟩⟩⟩
          · exact absurd y (Int32.not_lt.mpr x)
          · rw [ep] at y
            rw [← hu, vUn_y y, i2.2.2.2.1.2.2.2.1, h2.i.2.2.2.1.2.2.2.1, vGo_wk, xn_back]
          · rintro o g3 ⟨rfl, i3, f3⟩
            rw [i2.2.2.1.2.2.2.2.1] at i3
            rw [ep] at y
            have nx := ih (i + 1) (by omega) (by rw [← hu, vUn_n (Int32.not_lt.mpr y)]) g3 (h2.dr f3.D) i3
            rw [nI_succ] at nx
            exact xm_cut hm nx
      refine xm_run_go hm 40 ⟨(nI p, tM (sT σ)), ⟨rfl, h.m⟩, ⟨fun _ => ⟨(sT σ, sC σ), ⟨rfl, h.c, h.i⟩, ?_⟩, fun z => ?_⟩⟩
      · rintro o g1 ⟨rfl, i1, f1⟩
        exact xm_cut hm (loop 100 0 rfl rfl g1 (h.dr f1) i1)
      · rw [z1] at z; exact absurd z (by decide)
def xt_X8_turns : xT := xm_rl (Z := vS × Int32) (fun (σ, p) av g => av = [.ref 0, .int p] ∧ xTop σ g) (fun (σ, p) g o g' => o = some (.int (aTurns σ p)) ∧ xTop σ g')
set_option maxRecDepth 100000 in
set_option maxHeartbeats 400000 in
theorem xp_X8_turns {l : Launch} {D : va_G} {cA : Nat → ClassId} {B : List (Nat × Cell)} : xm_Met l D cA B xs_X 6 yX8_turns cX8_turns 4 (some .int) xt_X8_turns := by
  have hm : xm_monos [xt_X8_isPerson, xt_X3_copyFrom, xt_X3_passWeek] := ⟨(by first | exact xm_fn_mono _ _ _ | exact xm_rl_mono _ _), (by first | exact xm_fn_mono _ _ _ | exact xm_rl_mono _ _), (by first | exact xm_fn_mono _ _ _ | exact xm_rl_mono _ _), trivial⟩
  refine xm_meth (own := RX8) (ks := xk_X8_turns) (C := xc_X8_turns) (Ts := [xt_X8_isPerson, xt_X3_copyFrom, xt_X3_passWeek]) (by decide +kernel) rfl xm_clsok xs_X_ok xf_X8_ok xi_X8_ok xj_X8_ok (xm_lk xl_X8_128 xp_X8_isPerson (by decide) (xm_lk xl_X8_244 xp_X3_copyFrom (by decide) (xm_lk xl_X8_196 xp_X3_passWeek (by decide) xm_lk0))) xo_X8_turns ?_ ?_
  · rintro av g Q ⟨z, ⟨rfl, -⟩, -⟩
    exact Nat.le_of_ble_eq_true rfl
  · rintro av g Q ⟨⟨σ, p⟩, ⟨rfl, h⟩, hQ⟩
    dsimp only at h hQ
    have m6 := h.m6
    rcases vDo_c (m := tM (sT σ)) p (by omega) with hp | ⟨p, hp, rfl⟩
    · have fin := hQ (some (.int (-1))) g ⟨by rw [aTurns, vDo_n hp], h⟩
      refine xm_run_go hm 30 ⟨(p, tM (sT σ)), ⟨rfl, h.m⟩, ⟨fun z => ?_, fun _ => fin⟩⟩
      exact absurd (vIs_n hp) z
    · have z1 := vIs_y hp (by omega : tM (sT σ) < 2 ^ 31)
      have p6 : p < 6 := by omega
      unfold aTurns at hQ
      rw [vDo_y hp (by omega)] at hQ
      have e0 := (h.i.2.2.2.2 p hp).2.1
      by_cases hn : vPic (sT σ) (sC σ) p < 0
      · rw [if_pos hn] at hQ
        refine xm_run_go hm 40 ⟨(nI p, tM (sT σ)), ⟨rfl, h.m⟩, ⟨fun _ => ⟨p, ⟨p6, rfl⟩, ⟨fun z => ?_, fun _ => hQ _ _ ⟨rfl, h⟩⟩⟩, fun z => ?_⟩⟩
        · rw [e0] at z
          exact absurd z (Int32.not_le.mpr hn)
        · rw [z1] at z; exact absurd z (by decide)
      · rw [if_neg hn] at hQ
        have loop : ∀ d i, i + d = 100 → vUn (fun n => ¬ vPic (sT σ) (vGo (sT σ) (tS (sT σ)) 0 (sC σ) n) p = vPic (sT σ) (sC σ) p) d i = vUn (fun n => ¬ vPic (sT σ) (vGo (sT σ) (tS (sT σ)) 0 (sC σ) n) p = vPic (sT σ) (sC σ) p) 100 0 → ∀ g2, xTop σ g2 → xIn 20 (sT σ) (vGo (sT σ) (tS (sT σ)) 0 (sC σ) i) g2 → ∀ v, v = vPic (sT σ) (sC σ) p → xm_go xs_X xk_X8_turns [xt_X8_isPerson, xt_X3_copyFrom, xt_X3_passWeek] xc_X8_turns Q (xm_drop 23 xc_X8_turns) [.ref 0, .int (nI p), .int v, .int (nI i)] [] g2 := by
          intro d
          induction d with
          | zero =>
            intro i hi hu g2 h2 i2 v hv
            have hi : i = 100 := by omega
            subst hi
            have ep := (i2.2.2.2.2 p hp).2.1
            refine xm_run_go hm 40 ⟨fun _ => ⟨p, ⟨p6, rfl⟩, ⟨fun y => hQ _ _ ⟨?_, h2⟩, fun y => hQ _ _ ⟨?_, h2⟩⟩⟩, fun z => absurd z (by decide)⟩
            · rw [ep, hv] at y
              rw [← hu, vUn_0 (fun z => z y)]
            · rw [ep, hv] at y
              rw [← hu, vUn_y y, i2.2.2.2.1.2.2.2.1, h2.i.2.2.2.1.2.2.2.1, vGo_wk, xn_back]
          | succ d ih =>
            intro i hi hu g2 h2 i2 v hv
            have ep := (i2.2.2.2.2 p hp).2.1
            refine xm_run_go hm 50 ⟨fun z => absurd z (nI_ge (b := 100) (by omega) (by omega)), fun _ => ⟨p, ⟨p6, rfl⟩, ⟨fun y => ⟨p, ⟨p6, rfl⟩, ⟨fun x => ?_, fun _ => hQ _ _ ⟨?_, h2⟩⟩⟩, fun y => ⟨(20, g2.1 29 11, 0, sT σ, vGo (sT σ) (tS (sT σ)) 0 (sC σ) i), ⟨rfl, vGo_ok h.c _, i2⟩, ?_⟩⟩⟩⟩
            · exact absurd x y
            · rw [ep, hv] at y
              rw [← hu, vUn_y y, i2.2.2.2.1.2.2.2.1, h2.i.2.2.2.1.2.2.2.1, vGo_wk, xn_back]
            · rintro o g3 ⟨rfl, i3, f3⟩
              rw [i2.2.2.1.2.2.2.2.1] at i3
              rw [ep, hv] at y
              have nx := ih (i + 1) (by omega) (by rw [← hu, vUn_n (fun z => z y)]) g3 (h2.dr f3.D) i3 v hv
              rw [nI_succ] at nx
              exact xm_cut hm nx
        refine xm_run_go hm 40 ⟨(nI p, tM (sT σ)), ⟨rfl, h.m⟩, ⟨fun _ => ⟨p, ⟨p6, rfl⟩, ⟨fun _ => ⟨(sT σ, sC σ), ⟨rfl, h.c, h.i⟩, ?_⟩, fun z => ?_⟩⟩, fun z => ?_⟩⟩
        · rintro o g1 ⟨rfl, i1, f1⟩
          exact xm_cut hm (loop 100 0 rfl rfl g1 (h.dr f1) i1 _ e0)
        · rw [e0] at z; exact absurd z hn
        · rw [z1] at z; exact absurd z (by decide)
