-- things done
def xt_X9_show : xT := xm_rl (Z := vS × Int32 × Int32) (fun (σ, p, s) av g => av = [.ref 0, .int p, .int s] ∧ mTop σ g) (fun (σ, p, s) g o g' => o = some (.int (aShow σ p s)) ∧ mTop (sShow σ p s) g')
set_option maxRecDepth 100000 in
set_option maxHeartbeats 400000 in
theorem xp_X9_show {l : Launch} {D : va_G} {cA : Nat → ClassId} {B : List (Nat × Cell)} : xm_Met l D cA B xs_M 8 yX9_show cX9_show 3 (some .int) xt_X9_show := by
  have hm : xm_monos [xt_X9_isPerson, xt_X9_isSlide, xt_X9_copies, xt_X9_throwsUpon, xt_X9_records, xt_X9_pictureOf] := ⟨(by first | exact xm_fn_mono _ _ _ | exact xm_rl_mono _ _), (by first | exact xm_fn_mono _ _ _ | exact xm_rl_mono _ _), (by first | exact xm_fn_mono _ _ _ | exact xm_rl_mono _ _), (by first | exact xm_fn_mono _ _ _ | exact xm_rl_mono _ _), (by first | exact xm_fn_mono _ _ _ | exact xm_rl_mono _ _), (by first | exact xm_fn_mono _ _ _ | exact xm_rl_mono _ _), trivial⟩
  refine xm_meth (own := RX9) (ks := xk_X9_show) (C := xc_X9_show) (Ts := [xt_X9_isPerson, xt_X9_isSlide, xt_X9_copies, xt_X9_throwsUpon, xt_X9_records, xt_X9_pictureOf]) (by decide +kernel) rfl xm_clsok xs_M_ok xf_X9_ok xi_X9_ok xj_X9_ok (xm_lk xl_X9_412 xp_X9_isPerson (by decide) (xm_lk xl_X9_406 xp_X9_isSlide (by decide) (xm_lk xl_X9_320 xp_X9_copies (by decide) (xm_lk xl_X9_317 xp_X9_throwsUpon (by decide) (xm_lk xl_X9_415 xp_X9_records (by decide) (xm_lk xl_X9_336 xp_X9_pictureOf (by decide) xm_lk0)))))) xo_X9_show ?_ ?_
  · rintro av g Q ⟨z, ⟨rfl, -⟩, -⟩
    exact Nat.le_of_ble_eq_true rfl
  · rintro av g Q ⟨⟨σ, p, s⟩, ⟨rfl, ⟨lv, h⟩⟩, hQ⟩
    dsimp only at h hQ
    have m6 := h.m6
    have n5 := h.n5
    have hl := h.lv
    rcases vDo_c (m := tM (sT σ)) p (by omega) with hp | ⟨p, hp, rfl⟩
    · have fin := hQ (some (.int (-1))) g ⟨by rw [aShow, vDo_n hp], lv, by rw [sShow, vDo_n hp]; exact h⟩
      refine xm_run_go hm 30 ⟨(p, lv, tM (sT σ)), ⟨rfl, hl, h.m9, h.l, h.m⟩, ⟨fun _ => fin, fun z => ?_⟩⟩
      exact absurd (vIs_n hp) z
    · have z1 := vIs_y hp (by omega : tM (sT σ) < 2 ^ 31)
      rcases vDo_c (m := tN (sT σ)) s (by omega) with hs | ⟨s, hs, rfl⟩
      · have fin := hQ (some (.int (-1))) g ⟨by rw [aShow, vDo_y hp (by omega), vDo_n hs], lv, by rw [sShow, vDo_y hp (by omega), vDo_n hs]; exact h⟩
        refine xm_run_go hm 30 ⟨(nI p, lv, tM (sT σ)), ⟨rfl, hl, h.m9, h.l, h.m⟩, ⟨fun _ => fin, fun _ => ⟨(s, lv, tN (sT σ)), ⟨rfl, hl, h.n9, h.l, h.n⟩, ⟨fun z => ?_, fun _ => fin⟩⟩⟩⟩
        exact absurd (vIs_n hs) z
      · have z2 := vIs_y hs (by omega : tN (sT σ) < 2 ^ 31)
        have p6 : p < 6 := by omega
        refine xm_run_go hm 40 ⟨(nI p, lv, tM (sT σ)), ⟨rfl, hl, h.m9, h.l, h.m⟩, ⟨fun z => ?_, fun _ => ⟨(nI s, lv, tN (sT σ)), ⟨rfl, hl, h.n9, h.l, h.n⟩, ⟨fun _ => ⟨(lv, σ), ⟨rfl, h⟩, ?_⟩, fun z => ?_⟩⟩⟩⟩
        · rw [z1] at z; exact absurd z (by decide)
        · rintro o g1 ⟨rfl, i1, f1, -, -⟩
          refine ⟨(p, s, lv, sT σ, sC σ), ⟨rfl, hp, hs, i1⟩, ?_⟩
          rintro o g2 ⟨rfl, i2, f2⟩
          refine ⟨(lv, σ, vThrow (sT σ) (sC σ) p s), ⟨rfl, h.q (f1.tr f2.q), i2⟩, ?_⟩
          rintro o g3 ⟨rfl, h3, i3⟩
          refine ⟨(p, lv, sT σ, vThrow (sT σ) (sC σ) p s), ⟨rfl, p6, i3⟩, hQ _ _ ⟨?_, lv, ?_⟩⟩
          · rw [aShow, vDo_y hp (by omega), vDo_y hs (by omega)]
          · rw [sShow, vDo_y hp (by omega), vDo_y hs (by omega)]; exact h3
        · rw [z2] at z; exact absurd z (by decide)
theorem vRinse_raw {t : vSt} {c : vSc} {p : Nat} {g g' : xG} (ht : vTok t) (hc : vCok t c) (hp : p < 6) (h : mRaw 33 c g) (e : ∀ i, g'.1 33 i = if p * 5 ≤ i ∧ i < p * 5 + 5 then g.1 33 i / 2 else g.1 33 i) : mRaw 33 (vRinse t c p) g' := by
  have n5 := ht.1
  refine ⟨fun i hi => ?_, fun k hk => ?_, ?_, ?_⟩
  · rw [e i]
    show _ = if p * 5 ≤ i ∧ i < p * 5 + tN t then cG c i / 2 else cG c i
    rw [h.1 i hi]
    by_cases z : p * 5 ≤ i ∧ i < p * 5 + tN t
    · rw [if_pos z, if_pos (by omega)]
    · rw [if_neg z]
      by_cases y : p * 5 ≤ i ∧ i < p * 5 + 5
      · have x := hc.2.2.2.2 p (i - p * 5) hp (by omega) (by omega)
        rw [show p * 5 + (i - p * 5) = i by omega] at x
        rw [if_pos y, x]; decide
      · rw [if_neg y]
  · rw [e, if_neg (by omega)]; exact h.2.1 k hk
  · rw [e, if_neg (by omega)]; exact h.2.2.1
  · rw [e, if_neg (by omega)]; exact h.2.2.2
def xt_X9_wash : xT := xm_rl (Z := vS × Int32) (fun (σ, p) av g => av = [.ref 0, .int p] ∧ mTop σ g) (fun (σ, p) g o g' => o = some (.int (aWash σ p)) ∧ mTop (sWash σ p) g')
set_option maxRecDepth 100000 in
set_option maxHeartbeats 400000 in
theorem xp_X9_wash {l : Launch} {D : va_G} {cA : Nat → ClassId} {B : List (Nat × Cell)} : xm_Met l D cA B xs_M 2 yX9_wash cX9_wash 2 (some .int) xt_X9_wash := by
  have hm : xm_monos [xt_X9_copies, xt_X9_isPerson, xt_X9_pictureOf, xt_X9_washesOff, xt_X9_records, xt_X9_allGlow] := ⟨(by first | exact xm_fn_mono _ _ _ | exact xm_rl_mono _ _), (by first | exact xm_fn_mono _ _ _ | exact xm_rl_mono _ _), (by first | exact xm_fn_mono _ _ _ | exact xm_rl_mono _ _), (by first | exact xm_fn_mono _ _ _ | exact xm_rl_mono _ _), (by first | exact xm_fn_mono _ _ _ | exact xm_rl_mono _ _), (by first | exact xm_fn_mono _ _ _ | exact xm_rl_mono _ _), trivial⟩
  refine xm_meth (own := RX9) (ks := xk_X9_wash) (C := xc_X9_wash) (Ts := [xt_X9_copies, xt_X9_isPerson, xt_X9_pictureOf, xt_X9_washesOff, xt_X9_records, xt_X9_allGlow]) (by decide +kernel) rfl xm_clsok xs_M_ok xf_X9_ok xi_X9_ok xj_X9_ok (xm_lk xl_X9_320 xp_X9_copies (by decide) (xm_lk xl_X9_412 xp_X9_isPerson (by decide) (xm_lk xl_X9_336 xp_X9_pictureOf (by decide) (xm_lk xl_X9_400 xp_X9_washesOff (by decide) (xm_lk xl_X9_415 xp_X9_records (by decide) (xm_lk xl_X9_364 xp_X9_allGlow (by decide) xm_lk0)))))) xo_X9_wash ?_ ?_
  · rintro av g Q ⟨z, ⟨rfl, -⟩, -⟩
    exact Nat.le_of_ble_eq_true rfl
  · rintro av g Q ⟨⟨σ, p⟩, ⟨rfl, ⟨lv, h⟩⟩, hQ⟩
    dsimp only at h hQ
    have m6 := h.m6
    have n5 := h.n5
    have hl := h.lv
    refine xm_run_go hm 60 ⟨(lv, σ), ⟨rfl, h⟩, ?_⟩
    rintro o g1 ⟨rfl, i1, f1, -, -⟩
    have h1 := h.q f1
    rcases vDo_c (m := tM (sT σ)) p (by omega) with hp | ⟨p, hp, rfl⟩
    · have fin := hQ (some (.int (-1))) g1 ⟨by rw [aWash, vDo_n hp], lv, by rw [sWash, vDo_n hp]; exact h1⟩
      refine ⟨(p, lv, tM (sT σ)), ⟨rfl, hl, h.m9, h1.l, h1.m⟩, ⟨fun _ => fin, fun z => ?_⟩⟩
      exact absurd (vIs_n hp) z
    · have z1 := vIs_y hp (by omega : tM (sT σ) < 2 ^ 31)
      have p6 : p < 6 := by omega
      refine ⟨(nI p, lv, tM (sT σ)), ⟨rfl, hl, h.m9, h1.l, h1.m⟩, ⟨fun z => ?_, fun _ => ⟨(p, lv, sT σ, sC σ), ⟨rfl, p6, i1⟩, ⟨fun z => ⟨p, ⟨rfl, p6⟩, ?_⟩, fun z => ?_⟩⟩⟩⟩
      · rw [z1] at z; exact absurd z (by decide)
      · have hn := Int32.not_lt.mpr z
        rintro o g2 ⟨rfl, q1, q2, q3⟩
        have fb : mFb g1 g2 := ⟨fun k _ _ _ d _ => q1 k d, fun j _ => by rw [q1 0 (by decide)], q2⟩
        have i2 : mIn lv (sT σ) (vRinse (sT σ) (sC σ) p) g2 := fb.i i1 (vRinse_raw h.1.1 h.c p6 i1.2.2.2 q3) (vRinse_ok h.c)
        refine ⟨(lv, σ, vRinse (sT σ) (sC σ) p), ⟨rfl, h1.q fb.q, i2⟩, ?_⟩
        rintro o g3 ⟨rfl, h3, i3⟩
        refine ⟨(p, lv, sT σ, vRinse (sT σ) (sC σ) p), ⟨rfl, p6, i3⟩, hQ _ _ ⟨?_, lv, ?_⟩⟩
        · rw [aWash, vDo_y hp (by omega), if_neg hn]
        · rw [sWash, vDo_y hp (by omega), if_neg hn]; exact h3
      · exact hQ _ _ ⟨by rw [aWash, vDo_y hp (by omega), if_pos z], lv, by rw [sWash, vDo_y hp (by omega), if_pos z]; exact h1⟩
def xt_X9_go : xT := xm_rl (Z := vS × Int32 × Int32) (fun (σ, p, s) av g => av = [.ref 0, .int p, .int s] ∧ mTop σ g) (fun (σ, p, s) g o g' => o = some (.int (aGo σ p s)) ∧ mTop (sGo σ p s) g')
set_option maxRecDepth 100000 in
set_option maxHeartbeats 400000 in
theorem xp_X9_go {l : Launch} {D : va_G} {cA : Nat → ClassId} {B : List (Nat × Cell)} : xm_Met l D cA B xs_M 2 yX9_go cX9_go 3 (some .boolean) xt_X9_go := by
  have hm : xm_monos [xt_X9_isPerson, xt_X9_copies, xt_X9_moves, xt_X9_records] := ⟨(by first | exact xm_fn_mono _ _ _ | exact xm_rl_mono _ _), (by first | exact xm_fn_mono _ _ _ | exact xm_rl_mono _ _), (by first | exact xm_fn_mono _ _ _ | exact xm_rl_mono _ _), (by first | exact xm_fn_mono _ _ _ | exact xm_rl_mono _ _), trivial⟩
  refine xm_meth (own := RX9) (ks := xk_X9_go) (C := xc_X9_go) (Ts := [xt_X9_isPerson, xt_X9_copies, xt_X9_moves, xt_X9_records]) (by decide +kernel) rfl xm_clsok xs_M_ok xf_X9_ok xi_X9_ok xj_X9_ok (xm_lk xl_X9_412 xp_X9_isPerson (by decide) (xm_lk xl_X9_320 xp_X9_copies (by decide) (xm_lk xl_X9_418 xp_X9_moves (by decide) (xm_lk xl_X9_415 xp_X9_records (by decide) xm_lk0)))) xo_X9_go ?_ ?_
  · rintro av g Q ⟨z, ⟨rfl, -⟩, -⟩
    exact Nat.le_of_ble_eq_true rfl
  · rintro av g Q ⟨⟨σ, p, s⟩, ⟨rfl, ⟨lv, h⟩⟩, hQ⟩
    dsimp only at h hQ
    have m6 := h.m6
    have hl := h.lv
    rcases vDo_c (m := tM (sT σ)) p (by omega) with hp | ⟨p, hp, rfl⟩
    · have fin := hQ (some (.int 0)) g ⟨by rw [aGo, vDo_n hp], lv, by rw [sGo, vDo_n hp]; exact h⟩
      refine xm_run_go hm 30 ⟨(p, lv, tM (sT σ)), ⟨rfl, hl, h.m9, h.l, h.m⟩, ⟨fun _ => ⟨Or.inl rfl, fin⟩, fun z => ?_⟩⟩
      exact absurd (vIs_n hp) z
    · have z1 := vIs_y hp (by omega : tM (sT σ) < 2 ^ 31)
      rcases vDo_c (m := tM (sT σ)) s (by omega) with hs | ⟨s, hs, rfl⟩
      · have fin := hQ (some (.int 0)) g ⟨by rw [aGo, vDo_y hp (by omega), vDo_n hs], lv, by rw [sGo, vDo_y hp (by omega), vDo_n hs]; exact h⟩
        refine xm_run_go hm 30 ⟨(nI p, lv, tM (sT σ)), ⟨rfl, hl, h.m9, h.l, h.m⟩, ⟨fun _ => ⟨Or.inl rfl, fin⟩, fun _ => ⟨(s, lv, tM (sT σ)), ⟨rfl, hl, h.m9, h.l, h.m⟩, ⟨fun _ => ⟨Or.inl rfl, fin⟩, fun z => ?_⟩⟩⟩⟩
        exact absurd (vIs_n hs) z
      · have z2 := vIs_y hs (by omega : tM (sT σ) < 2 ^ 31)
        have sq : g.1 32 (30 + s) = nI p ↔ cS (sC σ) p = s := by
          rw [h.2.2.1.2.1 s (by omega), nI_eq (by have := (h.c.1 s hs).1; omega) (by omega)]
          exact ⟨fun z => by rw [← z]; exact (h.c.1 s hs).2, fun z => by rw [← z]; exact (h.c.2.1 p hp).2⟩
        refine xm_run_go hm 40 ⟨(nI p, lv, tM (sT σ)), ⟨rfl, hl, h.m9, h.l, h.m⟩, ⟨fun z => ?_, fun _ => ⟨(nI s, lv, tM (sT σ)), ⟨rfl, hl, h.m9, h.l, h.m⟩, ⟨fun z => ?_, fun _ => ⟨30 + s, ⟨by omega, xn_30 _⟩, ⟨fun z => ⟨(lv, σ), ⟨rfl, h⟩, ?_⟩, fun z => ⟨Or.inl rfl, hQ _ _ ⟨?_, lv, ?_⟩⟩⟩⟩⟩⟩⟩⟩
        · rw [z1] at z; exact absurd z (by decide)
        · rw [z2] at z; exact absurd z (by decide)
        · rintro o g1 ⟨rfl, i1, f1, -, -⟩
          refine ⟨(p, s, lv, sT σ, sC σ), ⟨rfl, hp, hs, i1⟩, ?_⟩
          rintro o g2 ⟨rfl, i2, f2⟩
          refine ⟨(lv, σ, vMove (sC σ) p s), ⟨rfl, h.q (f1.tr f2.q), i2⟩, ?_⟩
          rintro o g3 ⟨rfl, h3, i3⟩
          refine ⟨Or.inr rfl, hQ _ _ ⟨?_, lv, ?_⟩⟩
          · rw [aGo, vDo_y hp (by omega), vDo_y hs (by omega), if_neg (fun e => z (sq.mpr e))]
          · rw [sGo, vDo_y hp (by omega), vDo_y hs (by omega), if_neg (fun e => z (sq.mpr e))]; exact h3
        · rw [aGo, vDo_y hp (by omega), vDo_y hs (by omega), if_pos (sq.mp z)]
        · rw [sGo, vDo_y hp (by omega), vDo_y hs (by omega), if_pos (sq.mp z)]; exact h
def xt_X9_isLong : xT := xm_fn (Z := Int32) (fun x av g => av = [.int x] ∧ True) (fun x _ => some (.int (vIs 61 x))) (fun _ g => g)
theorem vIn_is {k : Nat} {x hi : Int32} (hh : hi = nI k) (hk : k + 1 < 2 ^ 31) : (if 0 ≤ x ∧ x ≤ hi then (1 : Int32) else 0) = vIs (k + 1) x := by
  unfold vIs
  rw [hh]
  by_cases z : 0 ≤ x ∧ x ≤ nI k
  · rw [if_pos z, if_pos ((vR_is x hk).mp z)]
  · rw [if_neg z, if_neg (fun y => z ((vR_is x hk).mpr y))]
set_option maxRecDepth 100000 in
set_option maxHeartbeats 400000 in
theorem xp_X9_isLong {l : Launch} {D : va_G} {cA : Nat → ClassId} {B : List (Nat × Cell)} : xm_Met l D cA B xs_M 1 yX9_isLong cX9_isLong 1 (some .boolean) xt_X9_isLong := by
  have hm : xm_monos [xt_X9_in] := ⟨(by first | exact xm_fn_mono _ _ _ | exact xm_rl_mono _ _), trivial⟩
  refine xm_meth (own := RX9) (ks := xk_X9_isLong) (C := xc_X9_isLong) (Ts := [xt_X9_in]) (by decide +kernel) rfl xm_clsok xs_M_ok xf_X9_ok xi_X9_ok xj_X9_ok (xm_lk xl_X9_307 xp_X9_in (by decide) xm_lk0) xo_X9_isLong ?_ ?_
  · rintro av g Q ⟨z, ⟨rfl, -⟩, -⟩
    exact Nat.le_of_ble_eq_true rfl
  · rintro av g Q ⟨x, ⟨rfl, -⟩, hQ⟩
    dsimp only at hQ
    have e : (if 0 ≤ x ∧ x ≤ 60 then (1 : Int32) else 0) = vIs 61 x := vIn_is (k := 60) rfl (by decide)
    refine xm_run_go hm 20 ⟨(x, 0, 60), ⟨rfl, trivial⟩, ?_, xq_i hQ e⟩
    show (if 0 ≤ x ∧ x ≤ 60 then (1 : Int32) else 0) = 0 ∨ (if 0 ≤ x ∧ x ≤ 60 then (1 : Int32) else 0) = 1
    rw [e]; exact vIs_01 _ x
def xt_X9_isMark : xT := xm_fn (Z := Int32) (fun x av g => av = [.int x] ∧ True) (fun x _ => some (.int (vIs 21 x))) (fun _ g => g)
set_option maxRecDepth 100000 in
set_option maxHeartbeats 400000 in
theorem xp_X9_isMark {l : Launch} {D : va_G} {cA : Nat → ClassId} {B : List (Nat × Cell)} : xm_Met l D cA B xs_M 1 yX9_isMark cX9_isMark 1 (some .boolean) xt_X9_isMark := by
  have hm : xm_monos [xt_X9_in] := ⟨(by first | exact xm_fn_mono _ _ _ | exact xm_rl_mono _ _), trivial⟩
  refine xm_meth (own := RX9) (ks := xk_X9_isMark) (C := xc_X9_isMark) (Ts := [xt_X9_in]) (by decide +kernel) rfl xm_clsok xs_M_ok xf_X9_ok xi_X9_ok xj_X9_ok (xm_lk xl_X9_307 xp_X9_in (by decide) xm_lk0) xo_X9_isMark ?_ ?_
  · rintro av g Q ⟨z, ⟨rfl, -⟩, -⟩
    exact Nat.le_of_ble_eq_true rfl
  · rintro av g Q ⟨x, ⟨rfl, -⟩, hQ⟩
    dsimp only at hQ
    have e : (if 0 ≤ x ∧ x ≤ 20 then (1 : Int32) else 0) = vIs 21 x := vIn_is (k := 20) rfl (by decide)
    refine xm_run_go hm 20 ⟨(x, 0, 20), ⟨rfl, trivial⟩, ?_, xq_i hQ e⟩
    show (if 0 ≤ x ∧ x ≤ 20 then (1 : Int32) else 0) = 0 ∨ (if 0 ≤ x ∧ x ≤ 20 then (1 : Int32) else 0) = 1
    rw [e]; exact vIs_01 _ x
def xt_X9_weeks : xT := xm_rl (Z := vS × Int32) (fun (σ, n) av g => av = [.ref 0, .int n] ∧ mTop σ g) (fun (σ, n) g o g' => o = some (.int (aWeeks σ n)) ∧ mTop (sWeeks σ n) g')
set_option maxRecDepth 100000 in
set_option maxHeartbeats 400000 in
theorem xp_X9_weeks {l : Launch} {D : va_G} {cA : Nat → ClassId} {B : List (Nat × Cell)} : xm_Met l D cA B xs_M 11 yX9_weeks cX9_weeks 2 (some .int) xt_X9_weeks := by
  have hm : xm_monos [xt_X9_isLong, xt_X9_copies, xt_X9_goes, xt_X9_records] := ⟨(by first | exact xm_fn_mono _ _ _ | exact xm_rl_mono _ _), (by first | exact xm_fn_mono _ _ _ | exact xm_rl_mono _ _), (by first | exact xm_fn_mono _ _ _ | exact xm_rl_mono _ _), (by first | exact xm_fn_mono _ _ _ | exact xm_rl_mono _ _), trivial⟩
  refine xm_meth (own := RX9) (ks := xk_X9_weeks) (C := xc_X9_weeks) (Ts := [xt_X9_isLong, xt_X9_copies, xt_X9_goes, xt_X9_records]) (by decide +kernel) rfl xm_clsok xs_M_ok xf_X9_ok xi_X9_ok xj_X9_ok (xm_lk xl_X9_421 xp_X9_isLong (by decide) (xm_lk xl_X9_320 xp_X9_copies (by decide) (xm_lk xl_X9_424 xp_X9_goes (by decide) (xm_lk xl_X9_415 xp_X9_records (by decide) xm_lk0)))) xo_X9_weeks ?_ ?_
  · rintro av g Q ⟨z, ⟨rfl, -⟩, -⟩
    exact Nat.le_of_ble_eq_true rfl
  · rintro av g Q ⟨⟨σ, n⟩, ⟨rfl, ⟨lv, h⟩⟩, hQ⟩
    dsimp only at h hQ
    rcases vDo_or (m := 61) n (by omega) with hn | ⟨n, hn, rfl⟩
    · have fin := hQ (some (.int (-1))) g ⟨by rw [aWeeks, vDo_n hn], lv, by rw [sWeeks, vDo_n hn]; exact h⟩
      refine xm_run_go hm 30 ⟨n, ⟨rfl, trivial⟩, ⟨fun z => ?_, fun _ => fin⟩⟩
      exact absurd (vIs_n hn) z
    · have z1 := vIs_y hn (by decide)
      refine xm_run_go hm 40 ⟨nI n, ⟨rfl, trivial⟩, ⟨fun _ => ⟨fun z => ⟨(lv, σ), ⟨rfl, h⟩, ?_⟩, fun z => ⟨36, ⟨by decide, rfl⟩, hQ _ _ ⟨?_, lv, ?_⟩⟩⟩, fun z => ?_⟩⟩
      · have n0 : n ≠ 0 := fun e => z (by rw [e]; rfl)
        rintro o g1 ⟨rfl, i1, f1, e1, e2⟩
        refine ⟨(n, lv, sT σ, sC σ), ⟨rfl, by show n < 100; omega, i1⟩, ?_⟩
        rintro o g2 ⟨rfl, i2, f2⟩
        rw [e1, e2, if_pos rfl] at i2
        refine ⟨(lv, σ, vGo (sT σ) (tS (sT σ)) 1 (sC σ) n), ⟨rfl, h.q (f1.tr f2.q), i2⟩, ?_⟩
        rintro o g3 ⟨rfl, h3, i3⟩
        refine ⟨36, ⟨by decide, rfl⟩, hQ _ _ ⟨?_, lv, ?_⟩⟩
        · rw [aWeeks, vDo_y hn (by omega), h3.2.2.1.2.2.1]; rfl
        · rw [sWeeks, vDo_y hn (by omega), if_neg n0]; exact h3
      · have n0 : n = 0 := (nI_eq (b := 0) (by omega) (by omega)).mp z
        subst n0
        rw [aWeeks, vDo_y hn (by omega), h.2.2.1.2.2.1]; rfl
      · have n0 : n = 0 := (nI_eq (b := 0) (by omega) (by omega)).mp z
        subst n0
        rw [sWeeks, vDo_y hn (by omega), if_pos rfl]; exact h
      · rw [z1] at z; exact absurd z (by decide)
theorem mTp.now {lv : Nat} {σ : vS} {c : vSc} {k : Nat} {g g' : xG} (h : mTp lv σ g) (f1 : ∀ i, i ≠ 0 → i ≠ 32 → g'.1 i = g.1 i) (f2 : ∀ j, j ≠ 54 → g'.1 0 j = g.1 0 j) (f3 : g'.2 = g.2) (e : g'.1 0 54 = nI k) (hk : k ≤ sK σ) (hc : vCok (sT σ) c) (r : mRaw 32 c g') : mTp lv (uC σ c k (sH σ)) g' := by
  obtain ⟨h1, h2, h3, h4, h5, h6, h7, h8⟩ := h
  exact ⟨⟨h1.1, hc, h1.2.2.1, Nat.le_trans hk h1.2.2.2.1, fun i hi => h1.2.2.2.2.1 i (Nat.lt_of_lt_of_le hi hk), h1.2.2.2.2.2⟩, h2.fr (f2 18 (by decide)) (fun k a b => f1 k (by omega) (by omega)), r, h4.fr (f2 2 (by decide)) (f1 1 (by decide) (by decide)), (f2 17 (by decide)).trans h5, ⟨e, fun i hi => (h6.2 i (Nat.lt_of_lt_of_le hi hk)).cp (fun j _ => by rw [f1 35 (by decide) (by decide)])⟩, h7.fr (f2 59 (by decide)) (fun k a b => f1 k (by omega) (by omega)), h8.fr (f1 42 (by decide) (by decide)) (f1 43 (by decide) (by decide)) (by rw [f3])⟩
def xt_X9_undo : xT := xm_rl (Z := vS) (fun σ av g => av = [.ref 0] ∧ mTop σ g) (fun σ g o g' => o = some (.int (aUndo σ)) ∧ mTop (sUndo σ) g')
set_option maxRecDepth 100000 in
set_option maxHeartbeats 400000 in
theorem xp_X9_undo {l : Launch} {D : va_G} {cA : Nat → ClassId} {B : List (Nat × Cell)} : xm_Met l D cA B xs_M 0 yX9_undo cX9_undo 2 (some .boolean) xt_X9_undo := by
  have hm : xm_monos [] := xm_m0
  refine xm_meth (own := RX9) (ks := xk_X9_undo) (C := xc_X9_undo) (Ts := []) (by decide +kernel) rfl xm_clsok xs_M_ok xf_X9_ok xi_X9_ok xj_X9_ok xm_lk0 xo_X9_undo ?_ ?_
  · rintro av g Q ⟨z, ⟨rfl, -⟩, -⟩
    exact Nat.le_of_ble_eq_true rfl
  · rintro av g Q ⟨σ, ⟨rfl, ⟨lv, h⟩⟩, hQ⟩
    dsimp only at h hQ
    have h6 := h.2.2.2.2.2.1
    have k40 := h.1.2.2.2.1
    by_cases k0 : sK σ = 0
    · have fin := hQ (some (.int 0)) g ⟨by rw [aUndo, if_pos k0], lv, by rw [sUndo, if_pos k0]; exact h⟩
      refine xm_run_go hm 20 ⟨fun z => ?_, fun _ => ⟨Or.inl rfl, fin⟩⟩
      rw [h6.1, k0] at z
      exact absurd rfl z
    · have e1 : g.1 0 54 - 1 = nI (sK σ - 1) := by rw [h6.1]; exact xn_dec (by omega)
      have loop : ∀ d k, k + d = 38 → ∀ g1, (∀ i, i ≠ 0 → i ≠ 32 → g1.1 i = g.1 i) → (∀ j, j ≠ 54 → g1.1 0 j = g.1 0 j) → g1.2 = g.2 → g1.1 0 54 = nI (sK σ - 1) → (∀ j, j < k → g1.1 32 j = g.1 35 (38 * (sK σ - 1) + j)) → xm_go xs_M xk_X9_undo [] xc_X9_undo Q (xm_drop 13 xc_X9_undo) [.ref 0, .int (nI k)] [] g1 := by
        intro d
        induction d with
        | zero =>
          intro k hk g1 f1 f2 f3 e54 e32
          have hk : k = 38 := by omega
          subst hk
          refine xm_run_go hm 30 ⟨fun _ => ⟨Or.inr rfl, hQ _ _ ⟨by rw [aUndo, if_neg k0], lv, ?_⟩⟩, fun z => absurd z (by decide)⟩
          rw [sUndo, if_neg k0]
          refine h.now f1 f2 f3 e54 (by omega) (h.1.2.2.2.2.1 _ (by omega)) ?_
          refine ((h6.2 (sK σ - 1) (by omega)).cp (fun j hj => ?_)).raw
          rw [Nat.zero_add]; exact e32 j hj
        | succ d ih =>
          intro k hk g1 f1 f2 f3 e54 e32
          have nx := ih (k + 1) (by omega)
          rw [nI_succ] at nx
          refine xm_run_go hm 40 ⟨fun z => absurd z (nI_ge (b := 38) (by omega) (by omega)), fun _ => ⟨38 * (sK σ - 1) + k, ⟨by omega, ?_⟩, k, ⟨by omega, rfl⟩, xm_cut hm (nx _ (fun i i0 i2 => ?_) (fun j j4 => ?_) f3 ?_ (fun j hj => ?_))⟩⟩
          · rw [e54, xn_38k]
          · rw [xg_off _ _ _ i2]; exact f1 i i0 i2
          · rw [xg_off _ _ _ (by decide)]; exact f2 j j4
          · rw [xg_off _ _ _ (by decide)]; exact e54
          · rw [xg_in]
            by_cases z : j = k
            · rw [if_pos z, z, f1 35 (by decide) (by decide)]
            · rw [if_neg z]; exact e32 j (by omega)
      refine xm_run_go hm 40 ⟨fun _ => xm_cut hm (loop 38 0 rfl _ (fun i i0 i2 => xg_off _ _ _ i0) (fun j j4 => by rw [xg_in, if_neg j4]) rfl (by rw [xg_in, if_pos rfl, e1]) (fun j hj => absurd hj (by omega))), fun z => ?_⟩
      rw [h6.1] at z
      exact absurd ((nI_eq (b := 0) (by omega) (by omega)).mp z) k0
-- slots
def xt_X9_hold : xT := xm_rl (Z := vS × Int32) (fun (σ, s) av g => av = [.ref 0, .int s] ∧ mTop σ g) (fun (σ, s) g o g' => o = some (.int (aHold s)) ∧ mTop (sHold σ s) g')
set_option maxRecDepth 100000 in
set_option maxHeartbeats 400000 in
theorem xp_X9_hold {l : Launch} {D : va_G} {cA : Nat → ClassId} {B : List (Nat × Cell)} : xm_Met l D cA B xs_M 1 yX9_hold cX9_hold 3 (some .boolean) xt_X9_hold := by
  have hm : xm_monos [xt_X9_in] := ⟨(by first | exact xm_fn_mono _ _ _ | exact xm_rl_mono _ _), trivial⟩
  refine xm_meth (own := RX9) (ks := xk_X9_hold) (C := xc_X9_hold) (Ts := [xt_X9_in]) (by decide +kernel) rfl xm_clsok xs_M_ok xf_X9_ok xi_X9_ok xj_X9_ok (xm_lk xl_X9_307 xp_X9_in (by decide) xm_lk0) xo_X9_hold ?_ ?_
  · rintro av g Q ⟨z, ⟨rfl, -⟩, -⟩
    exact Nat.le_of_ble_eq_true rfl
  · rintro av g Q ⟨⟨σ, s⟩, ⟨rfl, ⟨lv, h⟩⟩, hQ⟩
    dsimp only at h hQ
    rcases vDo_or (m := 3) s (by omega) with hp | ⟨s, hp, rfl⟩
    · have fin := hQ (some (.int 0)) g ⟨by rw [aHold, vDo_n hp], lv, by rw [sHold, vDo_n hp]; exact h⟩
      refine xm_run_go hm 30 ⟨(s, 0, 2), ⟨rfl, trivial⟩, ⟨fun z => ?_, fun _ => ⟨Or.inl rfl, fin⟩⟩⟩
      exact absurd (vIn_n (k := 2) rfl (by omega) hp) z
    · have z1 := vIn_y (k := 2) (hi := 2) rfl (by omega) hp
      obtain ⟨h1, h2, h3, h4, h5, h6, h7, h8⟩ := id h
      have loop : ∀ d k, k + d = 38 → ∀ g1, (∀ i, i ≠ 42 → i ≠ 43 → g1.1 i = g.1 i) → g1.2 = g.2 → (∀ j, g1.1 42 j = if j = s then 1 else g.1 42 j) → (∀ j, j < k → g1.1 43 (38 * s + j) = g.1 32 j) → (∀ i, (i < 38 * s ∨ 38 * s + 38 ≤ i) → g1.1 43 i = g.1 43 i) → xm_go xs_M xk_X9_hold [xt_X9_in] xc_X9_hold Q (xm_drop 14 xc_X9_hold) [.ref 0, .int (nI s), .int (nI k)] [] g1 := by
        intro d
        induction d with
        | zero =>
          intro k hk g1 f1 f3 e42 e43 o43
          have hk : k = 38 := by omega
          subst hk
          refine xm_run_go hm 30 ⟨fun _ => ⟨Or.inr rfl, hQ _ _ ⟨by rw [aHold, vDo_y hp (by omega)], lv, ?_⟩⟩, fun z => absurd z (by decide)⟩
          rw [sHold, vDo_y hp (by omega)]
          have f0 := f1 0 (by decide) (by decide)
          refine ⟨⟨h1.1, h1.2.1, h1.2.2.1, h1.2.2.2.1, h1.2.2.2.2.1, fun i hi c hc => ?_, h1.2.2.2.2.2.2⟩, h2.fr (by rw [f0]) (fun k a b => f1 k (by omega) (by omega)), h3.fr (f1 32 (by decide) (by decide)), h4.fr (by rw [f0]) (f1 1 (by decide) (by decide)), by rw [f0]; exact h5, h6.fr (by rw [f0]) (f1 35 (by decide) (by decide)), h7.fr (by rw [f0]) (fun k a b => f1 k (by omega) (by omega)), ⟨fun i hi => ⟨?_, fun c hc => ?_⟩, fun i hi => by rw [f3]; exact h8.2 i hi⟩⟩
          · have hc : (if i = s then some (sC σ) else sL σ i) = some c := hc
            by_cases z : i = s
            · rw [if_pos z] at hc
              cases hc; exact h.c
            · rw [if_neg z] at hc
              exact h1.2.2.2.2.2.1 i hi c hc
          · show g1.1 42 i = if (if i = s then some (sC σ) else sL σ i).isSome then 1 else 0
            rw [e42]
            by_cases z : i = s
            · rw [if_pos z, if_pos z]; rfl
            · rw [if_neg z, if_neg z]; exact (h8.1 i hi).1
          · have hc : (if i = s then some (sC σ) else sL σ i) = some c := hc
            by_cases z : i = s
            · rw [if_pos z] at hc
              cases hc
              subst z
              exact h3.row.cp (fun j hj => by rw [e43 j hj, Nat.zero_add])
            · rw [if_neg z] at hc
              exact ((h8.1 i hi).2 c hc).cp (fun j hj => o43 _ (by omega))
        | succ d ih =>
          intro k hk g1 f1 f3 e42 e43 o43
          have nx := ih (k + 1) (by omega)
          rw [nI_succ] at nx
          refine xm_run_go hm 40 ⟨fun z => absurd z (nI_ge (b := 38) (by omega) (by omega)), fun _ => ⟨k, ⟨by omega, rfl⟩, 38 * s + k, ⟨by omega, xn_38k _ _⟩, xm_cut hm (nx _ (fun i a b => ?_) f3 (fun j => ?_) (fun j hj => ?_) (fun i hi => ?_))⟩⟩
          · rw [xg_off _ _ _ b]; exact f1 i a b
          · rw [xg_off _ _ _ (by decide)]; exact e42 j
          · rw [xg_in]
            by_cases z : j = k
            · rw [if_pos (by omega), z, f1 32 (by decide) (by decide)]
            · rw [if_neg (by omega)]; exact e43 j (by omega)
          · rw [xg_in, if_neg (by omega)]; exact o43 i hi
      refine xm_run_go hm 40 ⟨(nI s, 0, 2), ⟨rfl, trivial⟩, ⟨fun _ => ⟨s, ⟨hp, rfl, Or.inr rfl⟩, xm_cut hm (loop 38 0 rfl _ (fun i a b => xg_off _ _ _ a) rfl (fun j => xg_in _ _ _ _ _) (fun j hj => absurd hj (by omega)) (fun i _ => by rw [xg_off _ _ _ (by decide)]))⟩, fun z => ?_⟩⟩
      rw [z1] at z; exact absurd z (by decide)
def xt_X9_restore : xT := xm_rl (Z := vS × Int32) (fun (σ, s) av g => av = [.ref 0, .int s] ∧ mTop σ g) (fun (σ, s) g o g' => o = some (.int (aRestore σ s)) ∧ mTop (sRestore σ s) g')
set_option maxRecDepth 100000 in
set_option maxHeartbeats 400000 in
theorem xp_X9_restore {l : Launch} {D : va_G} {cA : Nat → ClassId} {B : List (Nat × Cell)} : xm_Met l D cA B xs_M 1 yX9_restore cX9_restore 3 (some .boolean) xt_X9_restore := by
  have hm : xm_monos [xt_X9_in] := ⟨(by first | exact xm_fn_mono _ _ _ | exact xm_rl_mono _ _), trivial⟩
  refine xm_meth (own := RX9) (ks := xk_X9_restore) (C := xc_X9_restore) (Ts := [xt_X9_in]) (by decide +kernel) rfl xm_clsok xs_M_ok xf_X9_ok xi_X9_ok xj_X9_ok (xm_lk xl_X9_307 xp_X9_in (by decide) xm_lk0) xo_X9_restore ?_ ?_
  · rintro av g Q ⟨z, ⟨rfl, -⟩, -⟩
    exact Nat.le_of_ble_eq_true rfl
  · rintro av g Q ⟨⟨σ, s⟩, ⟨rfl, ⟨lv, h⟩⟩, hQ⟩
    dsimp only at h hQ
    rcases vDo_or (m := 3) s (by omega) with hp | ⟨s, hp, rfl⟩
    · have fin := hQ (some (.int 0)) g ⟨by rw [aRestore, vDo_n hp], lv, by rw [sRestore, vDo_n hp]; exact h⟩
      refine xm_run_go hm 30 ⟨(s, 0, 2), ⟨rfl, trivial⟩, ⟨fun _ => ⟨Or.inl rfl, fin⟩, fun z => ?_⟩⟩
      exact absurd (vIn_n (k := 2) rfl (by omega) hp) z
    · have z1 := vIn_y (k := 2) (hi := 2) rfl (by omega) hp
      obtain ⟨h8a, h8b⟩ := h.2.2.2.2.2.2.2.1 s hp
      cases hsl : sL σ s with
      | none =>
        rw [hsl] at h8a
        have fin := hQ (some (.int 0)) g ⟨by rw [aRestore, vDo_y hp (by omega), hsl], lv, by rw [sRestore, vDo_y hp (by omega), hsl]; exact h⟩
        refine xm_run_go hm 30 ⟨(nI s, 0, 2), ⟨rfl, trivial⟩, ⟨fun _ => ⟨Or.inl rfl, fin⟩, fun _ => ⟨s, ⟨hp, rfl⟩, ⟨fun z => absurd h8a z, fun _ => ⟨Or.inl rfl, fin⟩⟩⟩⟩⟩
      | some c =>
        rw [hsl] at h8a
        have h8a : g.1 42 s = 1 := h8a
        have row := h8b c hsl
        have ok := h.1.2.2.2.2.2.1 s hp c hsl
        have loop : ∀ d k, k + d = 38 → ∀ g1, (∀ i, i ≠ 32 → g1.1 i = g.1 i) → g1.2 = g.2 → (∀ j, j < k → g1.1 32 j = g.1 43 (38 * s + j)) → xm_go xs_M xk_X9_restore [xt_X9_in] xc_X9_restore Q (xm_drop 14 xc_X9_restore) [.ref 0, .int (nI s), .int (nI k)] [] g1 := by
          intro d
          induction d with
          | zero =>
            intro k hk g1 f1 f3 e32
            have hk : k = 38 := by omega
            subst hk
            refine xm_run_go hm 30 ⟨fun _ => ⟨Or.inr rfl, hQ _ _ ⟨by rw [aRestore, vDo_y hp (by omega), hsl], lv, ?_⟩⟩, fun z => absurd z (by decide)⟩
            rw [sRestore, vDo_y hp (by omega), hsl]
            refine h.now (fun i a b => by rw [xg_off _ _ _ a]; exact f1 i b) (fun j hj => by rw [xg_in, if_neg hj, f1 0 (by decide)]) f3 (by rw [xg_in, if_pos rfl]; rfl) (Nat.zero_le _) ok ?_
            refine (row.cp (fun j hj => ?_)).raw
            rw [Nat.zero_add, xg_off _ _ _ (by decide)]; exact e32 j hj
          | succ d ih =>
            intro k hk g1 f1 f3 e32
            have nx := ih (k + 1) (by omega)
            rw [nI_succ] at nx
            refine xm_run_go hm 40 ⟨fun z => absurd z (nI_ge (b := 38) (by omega) (by omega)), fun _ => ⟨38 * s + k, ⟨by omega, xn_38k _ _⟩, k, ⟨by omega, rfl⟩, xm_cut hm (nx _ (fun i a => ?_) f3 (fun j hj => ?_))⟩⟩
            · rw [xg_off _ _ _ a]; exact f1 i a
            · rw [xg_in]
              by_cases z : j = k
              · rw [if_pos z, z, f1 43 (by decide)]
              · rw [if_neg z]; exact e32 j (by omega)
        refine xm_run_go hm 40 ⟨(nI s, 0, 2), ⟨rfl, trivial⟩, ⟨fun z => ?_, fun _ => ⟨s, ⟨hp, rfl⟩, ⟨fun _ => xm_cut hm (loop 38 0 rfl g (fun _ _ => rfl) rfl (fun j hj => absurd hj (by omega))), fun z => ?_⟩⟩⟩⟩
        · rw [z1] at z; exact absurd z (by decide)
        · rw [h8a] at z; exact absurd z (by decide)
