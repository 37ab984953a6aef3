-- things done
theorem vPush_ok {t : vSt} {k : Nat} {hs : Nat → vSc} {c : vSc} (h1 : k ≤ 40) (h2 : ∀ i, i < k → vCok t (hs i)) (h3 : vCok t c) : vPushN k ≤ 40 ∧ ∀ i, i < vPushN k → vCok t (vPush k hs c i) := by
  unfold vPushN vPush
  by_cases hk : k = 40
  · rw [if_pos hk, if_pos hk]
    refine ⟨Nat.le_refl _, fun i hi => ?_⟩
    split
    · exact h2 _ (by omega)
    · exact h3
  · rw [if_neg hk, if_neg hk]
    refine ⟨by omega, fun i hi => ?_⟩
    split
    · exact h2 _ (by omega)
    · exact h3
theorem vOk_put {σ : vS} {c : vSc} (h : vOk σ) (hc : vCok (sT σ) c) : vOk (uP σ c) :=
  ⟨h.1, hc, h.2.2.1, (vPush_ok h.2.2.2.1 h.2.2.2.2.1 h.2.1).1, (vPush_ok h.2.2.2.1 h.2.2.2.2.1 h.2.1).2, h.2.2.2.2.2⟩
theorem xTop.put {σ : vS} {c : vSc} {g g1 g2 : xG} (h : xTop σ g) (f1 : xFr 47 48 g g1) (s1 : xShelf (vPushN (sK σ)) (vPush (sK σ) (sH σ) (sC σ)) (sL σ) g1) (f2 : xFr 11 19 g1 g2) (i2 : xIn 11 (sT σ) c g2) (hc : vCok (sT σ) c) : xTop (uP σ c) g2 :=
  ⟨vOk_put h.1 hc, i2, h.2.2.1.fr ((f2.2 1 (by omega)).trans (f1.2 1 (by omega))) ((f2.2 2 (by omega)).trans (f1.2 2 (by omega))), by rw [f2.2 0 (by omega), f1.2 0 (by omega)]; exact h.2.2.2.1, s1.fr (f2.2 47 (by omega)) (f2.2 48 (by omega)), h.2.2.2.2.2.fr (fun k hk => (f2.2 k (by omega)).trans (f1.2 k (by omega)))⟩
theorem xIn.sh {t : vSt} {c : vSc} {g g' : xG} (h : xIn 11 t c g) (hf : xFr 47 48 g g') : xIn 11 t c g' := ⟨Or.inl rfl, h.2.1, h.2.2.1.fr (fun k h1 h2 => hf.2 k (by omega)), h.2.2.2.fr hf.1 (fun k h1 h2 => hf.2 k (by omega))⟩
def xt_X8_show : xT := xm_rl (Z := vS × Int32 × Int32) (fun (σ, p, s) av g => av = [.ref 0, .int p, .int s] ∧ xTop σ g) (fun (σ, p, s) g o g' => o = some (.int (aShow σ p s)) ∧ xTop (sShow σ p s) g')
set_option maxRecDepth 100000 in
set_option maxHeartbeats 400000 in
theorem xp_X8_show {l : Launch} {D : va_G} {cA : Nat → ClassId} {B : List (Nat × Cell)} : xm_Met l D cA B xs_X 5 yX8_show cX8_show 3 (some .int) xt_X8_show := by
  have hm : xm_monos [xt_X8_isPerson, xt_X8_isSlide, xt_X4_push, xt_X3_throwUpon] := ⟨(by first | exact xm_fn_mono _ _ _ | exact xm_rl_mono _ _), (by first | exact xm_fn_mono _ _ _ | exact xm_rl_mono _ _), (by first | exact xm_fn_mono _ _ _ | exact xm_rl_mono _ _), (by first | exact xm_fn_mono _ _ _ | exact xm_rl_mono _ _), trivial⟩
  refine xm_meth (own := RX8) (ks := xk_X8_show) (C := xc_X8_show) (Ts := [xt_X8_isPerson, xt_X8_isSlide, xt_X4_push, xt_X3_throwUpon]) (by decide +kernel) rfl xm_clsok xs_X_ok xf_X8_ok xi_X8_ok xj_X8_ok (xm_lk xl_X8_128 xp_X8_isPerson (by decide) (xm_lk xl_X8_110 xp_X8_isSlide (by decide) (xm_lk xl_X8_172 xp_X4_push (by decide) (xm_lk xl_X8_176 xp_X3_throwUpon (by decide) xm_lk0)))) xo_X8_show ?_ ?_
  · rintro av g Q ⟨z, ⟨rfl, -⟩, -⟩
    exact Nat.le_of_ble_eq_true rfl
  · rintro av g Q ⟨⟨σ, p, s⟩, ⟨rfl, h⟩, hQ⟩
    dsimp only at h hQ
    have m6 := h.m6
    have n5 := h.n5
    rcases vDo_c (m := tM (sT σ)) p (by omega) with hp | ⟨p, hp, rfl⟩
    · have fin := hQ (some (.int (-1))) g ⟨by rw [aShow, vDo_n hp], by rw [sShow, vDo_n hp]; exact h⟩
      refine xm_run_go hm 30 ⟨(p, tM (sT σ)), ⟨rfl, h.m⟩, ⟨fun _ => fin, fun z => ?_⟩⟩
      exact absurd (vIs_n hp) z
    · have z1 := vIs_y hp (by omega : tM (sT σ) < 2 ^ 31)
      rcases vDo_c (m := tN (sT σ)) s (by omega) with hs | ⟨s, hs, rfl⟩
      · have fin := hQ (some (.int (-1))) g ⟨by rw [aShow, vDo_y hp (by omega), vDo_n hs], by rw [sShow, vDo_y hp (by omega), vDo_n hs]; exact h⟩
        refine xm_run_go hm 30 ⟨(nI p, tM (sT σ)), ⟨rfl, h.m⟩, ⟨fun _ => fin, fun _ => ⟨(s, tN (sT σ)), ⟨rfl, h.n⟩, ⟨fun z => ?_, fun _ => fin⟩⟩⟩⟩
        exact absurd (vIs_n hs) z
      · have z2 := vIs_y hs (by omega : tN (sT σ) < 2 ^ 31)
        refine xm_run_go hm 40 ⟨(nI p, tM (sT σ)), ⟨rfl, h.m⟩, ⟨fun z => ?_, fun _ => ⟨(nI s, tN (sT σ)), ⟨rfl, h.n⟩, ⟨fun _ => ⟨(sK σ, sH σ, sL σ, sT σ, sC σ), ⟨rfl, h.2.2.2.2.1, h.i⟩, ?_⟩, fun z => ?_⟩⟩⟩⟩
        · rw [z1] at z; exact absurd z (by decide)
        · rintro o g1 ⟨rfl, f1, s1⟩
          refine ⟨(11, p, s, sT σ, sC σ), ⟨rfl, hp, hs, h.c, h.i.sh f1⟩, ?_⟩
          rintro o g2 ⟨rfl, i2, f2⟩
          refine ⟨p, ⟨by omega, rfl⟩, hQ _ _ ⟨?_, ?_⟩⟩
          · rw [aShow, vDo_y hp (by omega), vDo_y hs (by omega), (i2.2.2.2.2 p hp).2.1]
          · rw [sShow, vDo_y hp (by omega), vDo_y hs (by omega)]
            exact h.put f1 s1 f2 i2 (vThrow_ok h.1.1 h.c hp hs)
        · rw [z2] at z; exact absurd z (by decide)
def xt_X8_go : xT := xm_rl (Z := vS × Int32 × Int32) (fun (σ, p, s) av g => av = [.ref 0, .int p, .int s] ∧ xTop σ g) (fun (σ, p, s) g o g' => o = some (.int (aGo σ p s)) ∧ xTop (sGo σ p s) g')
set_option maxRecDepth 100000 in
set_option maxHeartbeats 400000 in
theorem xp_X8_go {l : Launch} {D : va_G} {cA : Nat → ClassId} {B : List (Nat × Cell)} : xm_Met l D cA B xs_X 4 yX8_go cX8_go 3 (some .boolean) xt_X8_go := by
  have hm : xm_monos [xt_X8_isPerson, xt_X4_push, xt_X3_move] := ⟨(by first | exact xm_fn_mono _ _ _ | exact xm_rl_mono _ _), (by first | exact xm_fn_mono _ _ _ | exact xm_rl_mono _ _), (by first | exact xm_fn_mono _ _ _ | exact xm_rl_mono _ _), trivial⟩
  refine xm_meth (own := RX8) (ks := xk_X8_go) (C := xc_X8_go) (Ts := [xt_X8_isPerson, xt_X4_push, xt_X3_move]) (by decide +kernel) rfl xm_clsok xs_X_ok xf_X8_ok xi_X8_ok xj_X8_ok (xm_lk xl_X8_128 xp_X8_isPerson (by decide) (xm_lk xl_X8_172 xp_X4_push (by decide) (xm_lk xl_X8_186 xp_X3_move (by decide) xm_lk0))) xo_X8_go ?_ ?_
  · rintro av g Q ⟨z, ⟨rfl, -⟩, -⟩
    exact Nat.le_of_ble_eq_true rfl
  · rintro av g Q ⟨⟨σ, p, s⟩, ⟨rfl, h⟩, hQ⟩
    dsimp only at h hQ
    have m6 := h.m6
    rcases vDo_c (m := tM (sT σ)) p (by omega) with hp | ⟨p, hp, rfl⟩
    · have fin := hQ (some (.int 0)) g ⟨by rw [aGo, vDo_n hp], by rw [sGo, vDo_n hp]; exact h⟩
      refine xm_run_go hm 30 ⟨(p, tM (sT σ)), ⟨rfl, h.m⟩, ⟨fun _ => ⟨Or.inl rfl, fin⟩, fun z => ?_⟩⟩
      exact absurd (vIs_n hp) z
    · have z1 := vIs_y hp (by omega : tM (sT σ) < 2 ^ 31)
      rcases vDo_c (m := tM (sT σ)) s (by omega) with hs | ⟨s, hs, rfl⟩
      · have fin := hQ (some (.int 0)) g ⟨by rw [aGo, vDo_y hp (by omega), vDo_n hs], by rw [sGo, vDo_y hp (by omega), vDo_n hs]; exact h⟩
        refine xm_run_go hm 30 ⟨(nI p, tM (sT σ)), ⟨rfl, h.m⟩, ⟨fun _ => ⟨Or.inl rfl, fin⟩, fun _ => ⟨(s, tM (sT σ)), ⟨rfl, h.m⟩, ⟨fun _ => ⟨Or.inl rfl, fin⟩, fun z => ?_⟩⟩⟩⟩
        exact absurd (vIs_n hs) z
      · have z2 := vIs_y hs (by omega : tM (sT σ) < 2 ^ 31)
        have sp := (h.i.2.2.2.2 p hp).1
        have sl := (h.c.2.1 p hp).1
        have sq : g.1 14 p = nI s ↔ cS (sC σ) p = s := by
          rw [sp]; exact nI_eq (by omega) (by omega)
        refine xm_run_go hm 40 ⟨(nI p, tM (sT σ)), ⟨rfl, h.m⟩, ⟨fun z => ?_, fun _ => ⟨(nI s, tM (sT σ)), ⟨rfl, h.m⟩, ⟨fun z => ?_, fun _ => ⟨p, ⟨by omega, rfl⟩, ⟨fun z => ⟨(sK σ, sH σ, sL σ, sT σ, sC σ), ⟨rfl, h.2.2.2.2.1, h.i⟩, ?_⟩, fun z => ⟨Or.inl rfl, hQ _ _ ⟨?_, ?_⟩⟩⟩⟩⟩⟩⟩⟩
        · rw [z1] at z; exact absurd z (by decide)
        · rw [z2] at z; exact absurd z (by decide)
        · rintro o g1 ⟨rfl, f1, s1⟩
          refine ⟨(11, p, s, sT σ, sC σ), ⟨rfl, hp, hs, h.c, h.i.sh f1⟩, ?_⟩
          rintro o g2 ⟨rfl, i2, f2⟩
          refine ⟨Or.inr rfl, hQ _ _ ⟨?_, ?_⟩⟩
          · rw [aGo, vDo_y hp (by omega), vDo_y hs (by omega), if_neg (fun e => z (sq.mpr e))]
          · rw [sGo, vDo_y hp (by omega), vDo_y hs (by omega), if_neg (fun e => z (sq.mpr e))]
            exact h.put f1 s1 f2 i2 (vMove_ok h.1.1 h.c hp hs)
        · rw [aGo, vDo_y hp (by omega), vDo_y hs (by omega), if_pos (sq.mp z)]
        · rw [sGo, vDo_y hp (by omega), vDo_y hs (by omega), if_pos (sq.mp z)]; exact h
def xt_X8_weeks : xT := xm_rl (Z := vS × Int32) (fun (σ, n) av g => av = [.ref 0, .int n] ∧ xTop σ g) (fun (σ, n) g o g' => o = some (.int (aWeeks σ n)) ∧ xTop (sWeeks σ n) g')
set_option maxRecDepth 100000 in
set_option maxHeartbeats 400000 in
theorem xp_X8_weeks {l : Launch} {D : va_G} {cA : Nat → ClassId} {B : List (Nat × Cell)} : xm_Met l D cA B xs_X 6 yX8_weeks cX8_weeks 3 (some .int) xt_X8_weeks := by
  have hm : xm_monos [xt_X8_isIn, xt_X4_push, xt_X3_passWeek] := ⟨(by first | exact xm_fn_mono _ _ _ | exact xm_rl_mono _ _), (by first | exact xm_fn_mono _ _ _ | exact xm_rl_mono _ _), (by first | exact xm_fn_mono _ _ _ | exact xm_rl_mono _ _), trivial⟩
  refine xm_meth (own := RX8) (ks := xk_X8_weeks) (C := xc_X8_weeks) (Ts := [xt_X8_isIn, xt_X4_push, xt_X3_passWeek]) (by decide +kernel) rfl xm_clsok xs_X_ok xf_X8_ok xi_X8_ok xj_X8_ok (xm_lk xl_X8_189 xp_X8_isIn (by decide) (xm_lk xl_X8_172 xp_X4_push (by decide) (xm_lk xl_X8_196 xp_X3_passWeek (by decide) xm_lk0))) xo_X8_weeks ?_ ?_
  · rintro av g Q ⟨z, ⟨rfl, -⟩, -⟩
    exact Nat.le_of_ble_eq_true rfl
  · rintro av g Q ⟨⟨σ, n⟩, ⟨rfl, h⟩, hQ⟩
    dsimp only at h hQ
    have m6 := h.m6
    rcases vDo_or (m := 61) n (by omega) with hn | ⟨n, hn, rfl⟩
    · have fin := hQ (some (.int (-1))) g ⟨by rw [aWeeks, vDo_n hn], by rw [sWeeks, vDo_n hn]; exact h⟩
      refine xm_run_go hm 30 ⟨(n, 0, 60), ⟨rfl, trivial⟩, ⟨fun z => ?_, fun _ => fin⟩⟩
      exact absurd (vIn_n (k := 60) rfl (by omega) hn) z
    · have z1 := vIn_y (k := 60) (hi := 60) rfl (by omega) hn
      by_cases h0 : n = 0
      · subst h0
        have fin := hQ (some (.int (g.1 11 2))) g ⟨by rw [aWeeks, vDo_y hn (by omega), h.i.2.2.2.1.2.2.2.1]; rfl, by rw [sWeeks, vDo_y hn (by omega), if_pos rfl]; exact h⟩
        refine xm_run_go hm 40 ⟨(nI 0, 0, 60), ⟨rfl, trivial⟩, ⟨fun _ => ⟨fun _ => xm_cut hm (xm_run_go hm 20 ⟨fun _ => fin, fun z => absurd z (by decide)⟩), fun z => absurd z (by decide)⟩, fun z => ?_⟩⟩
        rw [z1] at z; exact absurd z (by decide)
      · refine xm_run_go hm 40 ⟨(nI n, 0, 60), ⟨rfl, trivial⟩, ⟨fun _ => ⟨fun z => ?_, fun _ => ⟨(sK σ, sH σ, sL σ, sT σ, sC σ), ⟨rfl, h.2.2.2.2.1, h.i⟩, ?_⟩⟩, fun z => ?_⟩⟩
        · exact absurd z (nI_nle (by omega) (by omega))
        · rintro o g1 ⟨rfl, f1, s1⟩
          have loop : ∀ d i, i + d = n → ∀ g2, xFr 11 19 g1 g2 → xIn 11 (sT σ) (vGo (sT σ) (tS (sT σ)) 1 (sC σ) i) g2 → xm_go xs_X xk_X8_weeks [xt_X8_isIn, xt_X4_push, xt_X3_passWeek] xc_X8_weeks Q (xm_drop 16 xc_X8_weeks) [.ref 0, .int (nI n), .int (nI i)] [] g2 := by
            intro d
            induction d with
            | zero =>
              intro i hi g2 f2 i2
              have hi : i = n := by omega
              subst hi
              refine xm_run_go hm 20 ⟨fun _ => hQ _ _ ⟨?_, ?_⟩, fun z => absurd z (nI_nlt (Nat.le_refl _) (by omega))⟩
              · rw [aWeeks, vDo_y hn (by omega), i2.2.2.2.1.2.2.2.1]
              · rw [sWeeks, vDo_y hn (by omega), if_neg h0]
                exact h.put f1 s1 f2 i2 (vGo_ok h.c _)
            | succ d ih =>
              intro i hi g2 f2 i2
              refine xm_run_go hm 30 ⟨fun z => absurd z (nI_ge (by omega) (by omega)), fun _ => ⟨(11, g2.1 29 11, 1, sT σ, vGo (sT σ) (tS (sT σ)) 1 (sC σ) i), ⟨rfl, vGo_ok h.c _, i2⟩, ?_⟩⟩
              rintro o g3 ⟨rfl, i3, f3⟩
              rw [i2.2.2.1.2.2.2.2.1] at i3
              have nx := ih (i + 1) (by omega) g3 (f2.tr f3) i3
              rw [nI_succ] at nx
              exact xm_cut hm nx
          exact xm_cut hm (loop n 0 (by omega) g1 xFr.rf (h.i.sh f1))
        · rw [z1] at z; exact absurd z (by decide)
def xt_X8_undo : xT := xm_rl (Z := vS) (fun σ av g => av = [.ref 0] ∧ xTop σ g) (fun σ g o g' => o = some (.int (aUndo σ)) ∧ xTop (sUndo σ) g')
set_option maxRecDepth 100000 in
set_option maxHeartbeats 400000 in
theorem xp_X8_undo {l : Launch} {D : va_G} {cA : Nat → ClassId} {B : List (Nat × Cell)} : xm_Met l D cA B xs_X 5 yX8_undo cX8_undo 1 (some .boolean) xt_X8_undo := by
  have hm : xm_monos [xt_X4_pop] := ⟨(by first | exact xm_fn_mono _ _ _ | exact xm_rl_mono _ _), trivial⟩
  refine xm_meth (own := RX8) (ks := xk_X8_undo) (C := xc_X8_undo) (Ts := [xt_X4_pop]) (by decide +kernel) rfl xm_clsok xs_X_ok xf_X8_ok xi_X8_ok xj_X8_ok (xm_lk xl_X8_203 xp_X4_pop (by decide) xm_lk0) xo_X8_undo ?_ ?_
  · rintro av g Q ⟨z, ⟨rfl, -⟩, -⟩
    exact Nat.le_of_ble_eq_true rfl
  · rintro av g Q ⟨σ, ⟨rfl, h⟩, hQ⟩
    dsimp only at h hQ
    refine xm_run_go hm 30 ⟨(sK σ, sH σ, sL σ, sT σ, sC σ), ⟨rfl, h.2.2.2.2.1, h.i, h.1.2.2.2.2.1⟩, ?_⟩
    rintro o g1 (⟨k0, rfl, rfl⟩ | ⟨k0, rfl, f1, f2, s1, i1⟩)
    · exact ⟨Or.inl rfl, hQ _ _ ⟨by rw [aUndo, if_pos k0], by rw [sUndo, if_pos k0]; exact h⟩⟩
    · refine ⟨Or.inr rfl, hQ _ _ ⟨by rw [aUndo, if_neg (by omega)], ?_⟩⟩
      rw [sUndo, if_neg (by omega)]
      exact ⟨⟨h.1.1, h.1.2.2.2.2.1 _ (by omega), h.1.2.2.1, Nat.le_trans (Nat.sub_le _ _) h.1.2.2.2.1, fun i hi => h.1.2.2.2.2.1 i (Nat.lt_of_lt_of_le hi (Nat.sub_le _ _)), h.1.2.2.2.2.2⟩, i1, h.2.2.1.fr (f1 1 (by omega) (by omega)) (f1 2 (by omega) (by omega)), by rw [f1 0 (by omega) (by omega)]; exact h.2.2.2.1, s1, h.2.2.2.2.2.fr (fun k hk => f1 k (by omega) (by omega))⟩
def xt_X8_wash : xT := xm_rl (Z := vS × Int32) (fun (σ, p) av g => av = [.ref 0, .int p] ∧ xTop σ g) (fun (σ, p) g o g' => o = some (.int (aWash σ p)) ∧ xTop (sWash σ p) g')
set_option maxRecDepth 100000 in
set_option maxHeartbeats 400000 in
theorem xp_X8_wash {l : Launch} {D : va_G} {cA : Nat → ClassId} {B : List (Nat × Cell)} : xm_Met l D cA B xs_X 4 yX8_wash cX8_wash 2 (some .int) xt_X8_wash := by
  have hm : xm_monos [xt_X8_isPerson, xt_X4_push, xt_X3_rinse, xt_X3_settle] := ⟨(by first | exact xm_fn_mono _ _ _ | exact xm_rl_mono _ _), (by first | exact xm_fn_mono _ _ _ | exact xm_rl_mono _ _), (by first | exact xm_fn_mono _ _ _ | exact xm_rl_mono _ _), (by first | exact xm_fn_mono _ _ _ | exact xm_rl_mono _ _), trivial⟩
  refine xm_meth (own := RX8) (ks := xk_X8_wash) (C := xc_X8_wash) (Ts := [xt_X8_isPerson, xt_X4_push, xt_X3_rinse, xt_X3_settle]) (by decide +kernel) rfl xm_clsok xs_X_ok xf_X8_ok xi_X8_ok xj_X8_ok (xm_lk xl_X8_128 xp_X8_isPerson (by decide) (xm_lk xl_X8_172 xp_X4_push (by decide) (xm_lk xl_X8_180 xp_X3_rinse (by decide) (xm_lk xl_X8_183 xp_X3_settle (by decide) xm_lk0)))) xo_X8_wash ?_ ?_
  · rintro av g Q ⟨z, ⟨rfl, -⟩, -⟩
    exact Nat.le_of_ble_eq_true rfl
  · rintro av g Q ⟨⟨σ, p⟩, ⟨rfl, h⟩, hQ⟩
    dsimp only at h hQ
    have m6 := h.m6
    have n5 := h.n5
    rcases vDo_c (m := tM (sT σ)) p (by omega) with hp | ⟨p, hp, rfl⟩
    · have fin := hQ (some (.int (-1))) g ⟨by rw [aWash, vDo_n hp], by rw [sWash, vDo_n hp]; exact h⟩
      refine xm_run_go hm 30 ⟨(p, tM (sT σ)), ⟨rfl, h.m⟩, ⟨fun _ => fin, fun z => ?_⟩⟩
      exact absurd (vIs_n hp) z
    · have z1 := vIs_y hp (by omega : tM (sT σ) < 2 ^ 31)
      have ep := (h.i.2.2.2.2 p hp).2.1
      have p6 : p < 6 := by omega
      by_cases hn : vPic (sT σ) (sC σ) p < 0
      · have fin := hQ (some (.int (-1))) g ⟨by rw [aWash, vDo_y hp (by omega), if_pos hn], by rw [sWash, vDo_y hp (by omega), if_pos hn]; exact h⟩
        refine xm_run_go hm 30 ⟨(nI p, tM (sT σ)), ⟨rfl, h.m⟩, ⟨fun _ => fin, fun _ => ⟨p, ⟨p6, rfl⟩, ⟨fun z => ?_, fun _ => fin⟩⟩⟩⟩
        rw [ep] at z
        exact absurd z (Int32.not_le.mpr hn)
      · refine xm_run_go hm 60 ⟨(nI p, tM (sT σ)), ⟨rfl, h.m⟩, ⟨fun z => ?_, fun _ => ⟨p, ⟨p6, rfl⟩, ⟨fun _ => ⟨(sK σ, sH σ, sL σ, sT σ, sC σ), ⟨rfl, h.2.2.2.2.1, h.i⟩, ?_⟩, fun z => ?_⟩⟩⟩⟩
        · rw [z1] at z; exact absurd z (by decide)
        · rintro o g1 ⟨rfl, f1, s1⟩
          have i1 := h.i.sh f1
          refine ⟨(11, p, tN (sT σ)), ⟨rfl, Or.inl rfl, p6, n5, i1.st, i1.n⟩, ?_⟩
          rintro o g2 ⟨rfl, f2, e2⟩
          obtain ⟨r0, r1, r2, r3, r4⟩ := i1.2.2.2.1
          have raw2 : xRaw 11 (vRinse (sT σ) (sC σ) p) g2 := ⟨by rw [f2.1]; exact r0, fun i hi => by
            rw [e2 i]
            show _ = if p * 5 ≤ i ∧ i < p * 5 + tN (sT σ) then cG (sC σ) i / 2 else cG (sC σ) i
            rw [r1 i hi], fun k hk => by rw [f2.2 13 (by omega)]; exact r2 k hk, by rw [f2.2 11 (by omega)]; exact r3, by rw [f2.2 11 (by omega)]; exact r4⟩
          have sto2 : xSto 29 (sT σ) g2 := i1.2.2.1.fr (fun k h1 h2 => f2.2 k (by omega))
          refine ⟨(11, sT σ, vRinse (sT σ) (sC σ) p), ⟨rfl, Or.inl rfl, h.1.1, vRinse_ok h.c, sto2, raw2⟩, ?_⟩
          rintro o g3 ⟨rfl, s3, f3⟩
          have i3 : xIn 11 (sT σ) (vRinse (sT σ) (sC σ) p) g3 := ⟨Or.inl rfl, h.1.1, sto2.fr (fun k h1 h2 => f3.2 k (by omega)), s3⟩
          refine ⟨p, ⟨p6, rfl⟩, hQ _ _ ⟨?_, ?_⟩⟩
          · rw [aWash, vDo_y hp (by omega), if_neg hn, (i3.2.2.2.2 p hp).2.2.1]
          · rw [sWash, vDo_y hp (by omega), if_neg hn]
            exact h.put f1 s1 ((f2.up (by omega) (by omega)).tr (f3.up (by omega) (by omega))) i3 (vRinse_ok h.c)
        · rw [ep] at z
          exact absurd z hn

-- which picture one had, and the slots
theorem xTop.told {σ : vS} {d : vTold} {g g' : xG} (h : xTop σ g) (hf : xFr 54 57 g g') (ht : xTold d g') : xTop (uD σ d) g' :=
  ⟨⟨h.1.1, h.1.2.1, h.1.2.2.1, h.1.2.2.2.1, h.1.2.2.2.2.1, h.1.2.2.2.2.2.1, ht.2.1⟩, ⟨Or.inl rfl, h.i.2.1, h.i.2.2.1.fr (fun k h1 h2 => hf.2 k (by omega)), h.i.2.2.2.fr hf.1 (fun k h1 h2 => hf.2 k (by omega))⟩, h.2.2.1.fr (hf.2 1 (by omega)) (hf.2 2 (by omega)), by rw [hf.2 0 (by omega)]; exact h.2.2.2.1, h.2.2.2.2.1.fr (hf.2 47 (by omega)) (hf.2 48 (by omega)), ht⟩
def xt_X8_tell : xT := xm_rl (Z := vS × Int32 × Int32 × Bool) (fun (σ, m, v, b) av g => av = [.ref 0, .int m, .int v, .int (if b then 1 else 0)] ∧ xTop σ g) (fun (σ, m, v, b) g o g' => o = some (.int (aTell σ m v)) ∧ xTop (sTell σ m v b) g')
set_option maxRecDepth 100000 in
set_option maxHeartbeats 400000 in
theorem xp_X8_tell {l : Launch} {D : va_G} {cA : Nat → ClassId} {B : List (Nat × Cell)} : xm_Met l D cA B xs_X 1 yX8_tell cX8_tell 4 (some .int) xt_X8_tell := by
  have hm : xm_monos [xt_X8_isIn, xt_X0_add] := ⟨(by first | exact xm_fn_mono _ _ _ | exact xm_rl_mono _ _), (by first | exact xm_fn_mono _ _ _ | exact xm_rl_mono _ _), trivial⟩
  refine xm_meth (own := RX8) (ks := xk_X8_tell) (C := xc_X8_tell) (Ts := [xt_X8_isIn, xt_X0_add]) (by decide +kernel) rfl xm_clsok xs_X_ok xf_X8_ok xi_X8_ok xj_X8_ok (xm_lk xl_X8_189 xp_X8_isIn (by decide) (xm_lk xl_X8_265 xp_X0_add (by decide) xm_lk0)) xo_X8_tell ?_ ?_
  · rintro av g Q ⟨z, ⟨rfl, -⟩, -⟩
    exact Nat.le_of_ble_eq_true rfl
  · rintro av g Q ⟨⟨σ, m, v, b⟩, ⟨rfl, h⟩, hQ⟩
    dsimp only at h hQ
    rcases vDo_or (m := 4) m (by omega) with hp | ⟨m, hp, rfl⟩
    · have fin := hQ (some (.int (-1))) g ⟨by rw [aTell, vDo_n hp], by rw [sTell, vDo_n hp]; exact h⟩
      refine xm_run_go hm 30 ⟨(m, 0, 3), ⟨rfl, trivial⟩, ⟨fun _ => fin, fun z => ?_⟩⟩
      exact absurd (vIn_n (k := 3) rfl (by omega) hp) z
    · have z1 := vIn_y (k := 3) (hi := 3) rfl (by omega) hp
      rcases vDo_or (m := 21) v (by omega) with hv | ⟨v, hv, rfl⟩
      · have fin := hQ (some (.int (-1))) g ⟨by rw [aTell, vDo_y hp (by omega), vDo_n hv], by rw [sTell, vDo_y hp (by omega), vDo_n hv]; exact h⟩
        refine xm_run_go hm 30 ⟨(nI m, 0, 3), ⟨rfl, trivial⟩, ⟨fun _ => fin, fun _ => ⟨(v, 0, 20), ⟨rfl, trivial⟩, ⟨fun z => ?_, fun _ => fin⟩⟩⟩⟩
        exact absurd (vIn_n (k := 20) rfl (by omega) hv) z
      · have z2 := vIn_y (k := 20) (hi := 20) rfl (by omega) hv
        refine xm_run_go hm 30 ⟨(nI m, 0, 3), ⟨rfl, trivial⟩, ⟨fun z => ?_, fun _ => ⟨(nI v, 0, 20), ⟨rfl, trivial⟩, ⟨fun _ => ⟨(m, nI v, b, sD σ), ⟨rfl, hp, h.2.2.2.2.2⟩, ?_⟩, fun z => ?_⟩⟩⟩⟩
        · rw [z1] at z; exact absurd z (by decide)
        · rintro o g1 ⟨rfl, t1, f1⟩
          refine hQ _ _ ⟨?_, ?_⟩
          · rw [aTell, vDo_y hp (by omega), vDo_y hv (by omega)]
          · rw [sTell, vDo_y hp (by omega), vDo_y hv (by omega)]
            exact h.told f1 t1
        · rw [z2] at z; exact absurd z (by decide)
def xt_X8_forget : xT := xm_rl (Z := vS) (fun σ av g => av = [.ref 0] ∧ xTop σ g) (fun σ g o g' => o = some (.int (aForget σ)) ∧ xTop (sForget σ) g')
set_option maxRecDepth 100000 in
set_option maxHeartbeats 400000 in
theorem xp_X8_forget {l : Launch} {D : va_G} {cA : Nat → ClassId} {B : List (Nat × Cell)} : xm_Met l D cA B xs_X 0 yX8_forget cX8_forget 2 (some .int) xt_X8_forget := by
  have hm : xm_monos [] := xm_m0
  refine xm_meth (own := RX8) (ks := xk_X8_forget) (C := xc_X8_forget) (Ts := []) (by decide +kernel) rfl xm_clsok xs_X_ok xf_X8_ok xi_X8_ok xj_X8_ok xm_lk0 xo_X8_forget ?_ ?_
  · rintro av g Q ⟨z, ⟨rfl, -⟩, -⟩
    exact Nat.le_of_ble_eq_true rfl
  · rintro av g Q ⟨σ, ⟨rfl, h⟩, hQ⟩
    dsimp only at h hQ
    refine xm_run_go hm 30 (hQ _ _ ⟨?_, ?_⟩)
    · rw [aForget, h.2.2.2.2.2.1]
    · exact h.told (xFr.rf.put _ _ (by omega) (by omega)) ⟨by rw [xg_in, if_pos rfl]; rfl, Nat.zero_le _, fun i hi => absurd hi (Nat.not_lt_zero _)⟩
def xt_X8_which : xT := xm_rl (Z := vS × Int32 × Int32) (fun (σ, k, w) av g => av = [.ref 0, .int k, .int w] ∧ xTop σ g) (fun (σ, k, w) g o g' => o = some (.int (aWhich σ k w)) ∧ xTop σ g')
set_option maxRecDepth 100000 in
set_option maxHeartbeats 400000 in
theorem xp_X8_which {l : Launch} {D : va_G} {cA : Nat → ClassId} {B : List (Nat × Cell)} : xm_Met l D cA B xs_X 4 yX8_which cX8_which 4 (some .int) xt_X8_which := by
  have hm : xm_monos [xt_X8_isIn, xt_X0_fitting, xt_J6_bitCount_0f7a4] := ⟨(by first | exact xm_fn_mono _ _ _ | exact xm_rl_mono _ _), (by first | exact xm_fn_mono _ _ _ | exact xm_rl_mono _ _), (by first | exact xm_fn_mono _ _ _ | exact xm_rl_mono _ _), trivial⟩
  refine xm_meth (own := RX8) (ks := xk_X8_which) (C := xc_X8_which) (Ts := [xt_X8_isIn, xt_X0_fitting, xt_J6_bitCount_0f7a4]) (by decide +kernel) rfl xm_clsok xs_X_ok xf_X8_ok xi_X8_ok xj_X8_ok (xm_lk xl_X8_189 xp_X8_isIn (by decide) (xm_lk xl_X8_269 xp_X0_fitting (by decide) (xm_lk xl_X8_272 xp_J6_bitCount_0f7a4 (by decide) xm_lk0))) xo_X8_which ?_ ?_
  · rintro av g Q ⟨z, ⟨rfl, -⟩, -⟩
    exact Nat.le_of_ble_eq_true rfl
  · rintro av g Q ⟨⟨σ, k, w⟩, ⟨rfl, h⟩, hQ⟩
    dsimp only at h hQ
    have td := h.2.2.2.2.2
    have t2 := td.2.1
    rcases vDo_or (m := (sD σ).1 + 1) k (by omega) with hp | ⟨k, hp, rfl⟩
    · have fin := hQ (some (.int (-1))) g ⟨by rw [aWhich, vDo_n hp], h⟩
      refine xm_run_go hm 30 ⟨(k, 0, g.1 54 0), ⟨rfl, trivial⟩, ⟨fun _ => fin, fun z => ?_⟩⟩
      exact absurd (vIn_n (k := (sD σ).1) td.1 (by omega) hp) z
    · have z1 := vIn_y (k := (sD σ).1) (hi := g.1 54 0) td.1 (by omega) hp
      have lw := vWhich_lt h.1.1 (sC σ) (sD σ) k
      rcases vDo_or (m := 2) w (by omega) with hv | ⟨w, hv, rfl⟩
      · have fin := hQ (some (.int (-1))) g ⟨by rw [aWhich, vDo_y hp (by omega), if_neg (fun e => hv (by rw [e]; decide)), if_neg (fun e => hv (by rw [e]; decide))], h⟩
        refine xm_run_go hm 30 ⟨(nI k, 0, g.1 54 0), ⟨rfl, trivial⟩, ⟨fun _ => fin, fun _ => ⟨(w, 0, 1), ⟨rfl, trivial⟩, ⟨fun z => ?_, fun _ => fin⟩⟩⟩⟩
        exact absurd (vIn_n (k := 1) rfl (by omega) hv) z
      · have z2 := vIn_y (k := 1) (hi := 1) rfl (by omega) hv
        refine xm_run_go hm 40 ⟨(nI k, 0, g.1 54 0), ⟨rfl, trivial⟩, ⟨fun z => ?_, fun _ => ⟨(nI w, 0, 1), ⟨rfl, trivial⟩, ⟨fun _ => ⟨(k, sD σ, sT σ, sC σ), ⟨rfl, by omega, td, h.i⟩, ⟨fun z => hQ _ _ ⟨?_, h⟩, fun z => ⟨_, ⟨rfl, trivial⟩, hQ _ _ ⟨?_, h⟩⟩⟩⟩, fun z => ?_⟩⟩⟩⟩
        · rw [z1] at z; exact absurd z (by decide)
        · have : w = 1 := by
            have : w ≠ 0 := fun e => z (by rw [e]; rfl)
            omega
          subst this
          rw [aWhich, vDo_y hp (by omega), if_neg z, if_pos (show nI 1 = 1 from rfl)]
        · have : w = 0 := (nI_eq (b := 0) (by omega) (by omega)).mp z
          subst this
          rw [aWhich, vDo_y hp (by omega), if_pos z, xBc_ct _ lw]
        · rw [z2] at z; exact absurd z (by decide)
def xt_X8_look : xT := xm_rl (Z := vS × Int32 × Int32) (fun (σ, k, w) av g => av = [.ref 0, .int k, .int w] ∧ xTop σ g) (fun (σ, k, w) g o g' => o = some (.int (aLook σ k w)) ∧ xTop σ g')
set_option maxRecDepth 100000 in
set_option maxHeartbeats 400000 in
theorem xp_X8_look {l : Launch} {D : va_G} {cA : Nat → ClassId} {B : List (Nat × Cell)} : xm_Met l D cA B xs_X 5 yX8_look cX8_look 3 (some .int) xt_X8_look := by
  have hm : xm_monos [xt_X8_isIn, xt_X0_bestMark] := ⟨(by first | exact xm_fn_mono _ _ _ | exact xm_rl_mono _ _), (by first | exact xm_fn_mono _ _ _ | exact xm_rl_mono _ _), trivial⟩
  refine xm_meth (own := RX8) (ks := xk_X8_look) (C := xc_X8_look) (Ts := [xt_X8_isIn, xt_X0_bestMark]) (by decide +kernel) rfl xm_clsok xs_X_ok xf_X8_ok xi_X8_ok xj_X8_ok (xm_lk xl_X8_189 xp_X8_isIn (by decide) (xm_lk xl_X8_277 xp_X0_bestMark (by decide) xm_lk0)) xo_X8_look ?_ ?_
  · rintro av g Q ⟨z, ⟨rfl, -⟩, -⟩
    exact Nat.le_of_ble_eq_true rfl
  · rintro av g Q ⟨⟨σ, k, w⟩, ⟨rfl, h⟩, hQ⟩
    dsimp only at h hQ
    have td := h.2.2.2.2.2
    have t2 := td.2.1
    rcases vDo_or (m := (sD σ).1 + 1) k (by omega) with hp | ⟨k, hp, rfl⟩
    · have fin := hQ (some (.int (-1))) g ⟨by rw [aLook, vDo_n hp], h⟩
      refine xm_run_go hm 30 ⟨(k, 0, g.1 54 0), ⟨rfl, trivial⟩, ⟨fun _ => fin, fun z => ?_⟩⟩
      exact absurd (vIn_n (k := (sD σ).1) td.1 (by omega) hp) z
    · have z1 := vIn_y (k := (sD σ).1) (hi := g.1 54 0) td.1 (by omega) hp
      rcases vDo_or (m := 21) w (by omega) with hv | ⟨w, hv, rfl⟩
      · have fin := hQ (some (.int (-1))) g ⟨by rw [aLook, vDo_y hp (by omega), vDo_n hv], h⟩
        refine xm_run_go hm 30 ⟨(nI k, 0, g.1 54 0), ⟨rfl, trivial⟩, ⟨fun _ => fin, fun _ => ⟨(w, 0, 20), ⟨rfl, trivial⟩, ⟨fun z => ?_, fun _ => fin⟩⟩⟩⟩
        exact absurd (vIn_n (k := 20) rfl (by omega) hv) z
      · have z2 := vIn_y (k := 20) (hi := 20) rfl (by omega) hv
        refine xm_run_go hm 40 ⟨(nI k, 0, g.1 54 0), ⟨rfl, trivial⟩, ⟨fun z => ?_, fun _ => ⟨(nI w, 0, 20), ⟨rfl, trivial⟩, ⟨fun _ => ⟨(k, nI w, sD σ, sT σ, sC σ), ⟨rfl, by omega, td, h.i⟩, hQ _ _ ⟨?_, h⟩⟩, fun z => ?_⟩⟩⟩⟩
        · rw [z1] at z; exact absurd z (by decide)
        · rw [aLook, vDo_y hp (by omega), vDo_y hv (by omega)]
        · rw [z2] at z; exact absurd z (by decide)
def xt_X8_hold : xT := xm_rl (Z := vS × Int32) (fun (σ, s) av g => av = [.ref 0, .int s] ∧ xTop σ g) (fun (σ, s) g o g' => o = some (.int (aHold s)) ∧ xTop (sHold σ s) g')
set_option maxRecDepth 100000 in
set_option maxHeartbeats 400000 in
theorem xp_X8_hold {l : Launch} {D : va_G} {cA : Nat → ClassId} {B : List (Nat × Cell)} : xm_Met l D cA B xs_X 4 yX8_hold cX8_hold 2 (some .boolean) xt_X8_hold := by
  have hm : xm_monos [xt_X8_isIn, xt_X4_holdIn] := ⟨(by first | exact xm_fn_mono _ _ _ | exact xm_rl_mono _ _), (by first | exact xm_fn_mono _ _ _ | exact xm_rl_mono _ _), trivial⟩
  refine xm_meth (own := RX8) (ks := xk_X8_hold) (C := xc_X8_hold) (Ts := [xt_X8_isIn, xt_X4_holdIn]) (by decide +kernel) rfl xm_clsok xs_X_ok xf_X8_ok xi_X8_ok xj_X8_ok (xm_lk xl_X8_189 xp_X8_isIn (by decide) (xm_lk xl_X8_281 xp_X4_holdIn (by decide) xm_lk0)) xo_X8_hold ?_ ?_
  · rintro av g Q ⟨z, ⟨rfl, -⟩, -⟩
    exact Nat.le_of_ble_eq_true rfl
  · rintro av g Q ⟨⟨σ, s⟩, ⟨rfl, h⟩, hQ⟩
    dsimp only at h hQ
    rcases vDo_or (m := 3) s (by omega) with hp | ⟨s, hp, rfl⟩
    · have fin := hQ (some (.int 0)) g ⟨by rw [aHold, vDo_n hp], by rw [sHold, vDo_n hp]; exact h⟩
      refine xm_run_go hm 30 ⟨(s, 0, 2), ⟨rfl, trivial⟩, ⟨fun z => ?_, fun _ => ⟨Or.inl rfl, fin⟩⟩⟩
      exact absurd (vIn_n (k := 2) rfl (by omega) hp) z
    · have z1 := vIn_y (k := 2) (hi := 2) rfl (by omega) hp
      refine xm_run_go hm 30 ⟨(nI s, 0, 2), ⟨rfl, trivial⟩, ⟨fun _ => ⟨(s, sK σ, sH σ, sL σ, sT σ, sC σ), ⟨rfl, hp, h.2.2.2.2.1, h.i⟩, ?_⟩, fun z => ?_⟩⟩
      · rintro o g1 ⟨rfl, f1, s1⟩
        refine ⟨Or.inr rfl, hQ _ _ ⟨by rw [aHold, vDo_y hp (by omega)], ?_⟩⟩
        rw [sHold, vDo_y hp (by omega)]
        refine ⟨⟨h.1.1, h.1.2.1, h.1.2.2.1, h.1.2.2.2.1, h.1.2.2.2.2.1, fun i hi c hc => ?_, h.1.2.2.2.2.2.2⟩, h.i.sh f1, h.2.2.1.fr (f1.2 1 (by omega)) (f1.2 2 (by omega)), by rw [f1.2 0 (by omega)]; exact h.2.2.2.1, s1, h.2.2.2.2.2.fr (fun k hk => f1.2 k (by omega))⟩
        have hc : (if i = s then some (sC σ) else sL σ i) = some c := hc
        by_cases z : i = s
        · rw [if_pos z] at hc
          cases hc; exact h.c
        · rw [if_neg z] at hc
          exact h.1.2.2.2.2.2.1 i hi c hc
      · rw [z1] at z; exact absurd z (by decide)
def xt_X8_restore : xT := xm_rl (Z := vS × Int32) (fun (σ, s) av g => av = [.ref 0, .int s] ∧ xTop σ g) (fun (σ, s) g o g' => o = some (.int (aRestore σ s)) ∧ xTop (sRestore σ s) g')
set_option maxRecDepth 100000 in
set_option maxHeartbeats 400000 in
theorem xp_X8_restore {l : Launch} {D : va_G} {cA : Nat → ClassId} {B : List (Nat × Cell)} : xm_Met l D cA B xs_X 5 yX8_restore cX8_restore 2 (some .boolean) xt_X8_restore := by
  have hm : xm_monos [xt_X8_isIn, xt_X4_goOnFrom] := ⟨(by first | exact xm_fn_mono _ _ _ | exact xm_rl_mono _ _), (by first | exact xm_fn_mono _ _ _ | exact xm_rl_mono _ _), trivial⟩
  refine xm_meth (own := RX8) (ks := xk_X8_restore) (C := xc_X8_restore) (Ts := [xt_X8_isIn, xt_X4_goOnFrom]) (by decide +kernel) rfl xm_clsok xs_X_ok xf_X8_ok xi_X8_ok xj_X8_ok (xm_lk xl_X8_189 xp_X8_isIn (by decide) (xm_lk xl_X8_285 xp_X4_goOnFrom (by decide) xm_lk0)) xo_X8_restore ?_ ?_
  · rintro av g Q ⟨z, ⟨rfl, -⟩, -⟩
    exact Nat.le_of_ble_eq_true rfl
  · rintro av g Q ⟨⟨σ, s⟩, ⟨rfl, h⟩, hQ⟩
    dsimp only at h hQ
    rcases vDo_or (m := 3) s (by omega) with hp | ⟨s, hp, rfl⟩
    · have fin := hQ (some (.int 0)) g ⟨by rw [aRestore, vDo_n hp], by rw [sRestore, vDo_n hp]; exact h⟩
      refine xm_run_go hm 30 ⟨(s, 0, 2), ⟨rfl, trivial⟩, ⟨fun z => ?_, fun _ => ⟨Or.inl rfl, fin⟩⟩⟩
      exact absurd (vIn_n (k := 2) rfl (by omega) hp) z
    · have z1 := vIn_y (k := 2) (hi := 2) rfl (by omega) hp
      refine xm_run_go hm 30 ⟨(nI s, 0, 2), ⟨rfl, trivial⟩, ⟨fun _ => ⟨(s, sK σ, sH σ, sL σ, sT σ, sC σ), ⟨rfl, hp, h.2.2.2.2.1, h.i, fun c2 hc2 => h.1.2.2.2.2.2.1 s hp c2 hc2⟩, ?_⟩, fun z => ?_⟩⟩
      · rintro o g1 (⟨k0, rfl, rfl⟩ | ⟨c2, k0, rfl, f1, f2, s1, i1⟩)
        · refine ⟨Or.inl rfl, hQ _ _ ⟨?_, ?_⟩⟩
          · rw [aRestore, vDo_y hp (by omega)]; rw [k0]
          · rw [sRestore, vDo_y hp (by omega)]; rw [k0]; exact h
        · refine ⟨Or.inr rfl, hQ _ _ ⟨?_, ?_⟩⟩
          · rw [aRestore, vDo_y hp (by omega), k0]
          · rw [sRestore, vDo_y hp (by omega), k0]
            exact ⟨⟨h.1.1, h.1.2.2.2.2.2.1 s hp c2 k0, h.1.2.2.1, Nat.zero_le _, fun i hi => absurd hi (Nat.not_lt_zero _), h.1.2.2.2.2.2⟩, i1, h.2.2.1.fr (f1 1 (by omega) (by omega)) (f1 2 (by omega) (by omega)), by rw [f1 0 (by omega) (by omega)]; exact h.2.2.2.1, s1, h.2.2.2.2.2.fr (fun k hk => f1 k (by omega) (by omega))⟩
      · rw [z1] at z; exact absurd z (by decide)
