-- THE REFERENCE'S CALLS
def mTop (σ : vS) (g : xG) : Prop := ∃ lv, mTp lv σ g
def xt_X9_lays : xT := xm_rl (Z := Nat × (Nat → Int32) × Int32) (fun (n, tb, w) av g => av = [.ref 0, .int w] ∧ n + 4 ≤ 2000 ∧ mTape n tb g) (fun (n, tb, w) g o g' => o = none ∧ mTape (n + 4) (vApp (n, tb) w).2 g' ∧ (∀ k, k ≠ 0 → k ≠ 1 → g'.1 k = g.1 k) ∧ (∀ j, j ≠ 2 → g'.1 0 j = g.1 0 j) ∧ g'.2 = g.2)
set_option maxRecDepth 100000 in
set_option maxHeartbeats 400000 in
theorem xp_X9_lays {l : Launch} {D : va_G} {cA : Nat → ClassId} {B : List (Nat × Cell)} : xm_Met l D cA B xs_M 0 yX9_lays cX9_lays 3 none xt_X9_lays := by
  have hm : xm_monos [] := xm_m0
  refine xm_meth (own := RX9) (ks := xk_X9_lays) (C := xc_X9_lays) (Ts := []) (by decide +kernel) rfl xm_clsok xs_M_ok xf_X9_ok xi_X9_ok xj_X9_ok xm_lk0 xo_X9_lays ?_ ?_
  · rintro av g Q ⟨z, ⟨rfl, -⟩, -⟩
    exact Nat.le_of_ble_eq_true rfl
  · rintro av g Q ⟨⟨n, tb, w⟩, ⟨rfl, hn, h⟩, hQ⟩
    dsimp only at hn h hQ
    have loop : ∀ d j, j + d = 4 → ∀ v, v = (if j = 4 then -8 else nI (24 - 8 * j)) → ∀ g1, (∀ k, k ≠ 0 → k ≠ 1 → g1.1 k = g.1 k) → (∀ j, j ≠ 2 → g1.1 0 j = g.1 0 j) → g1.2 = g.2 → mTape (n + j) (vApp (n, tb) w).2 g1 → xm_go xs_M xk_X9_lays [] xc_X9_lays Q (xm_drop 2 xc_X9_lays) [.ref 0, .int w, .int v] [] g1 := by
      intro d
      induction d with
      | zero =>
        intro j hj v hv g1 f1 f2 f3 ht
        have hj : j = 4 := by omega
        subst hj
        rw [if_pos rfl] at hv
        subst hv
        exact xm_run_go hm 10 ⟨fun _ => hQ _ _ ⟨rfl, ht, f1, f2, f3⟩, fun z => absurd z (by decide)⟩
      | succ d ih =>
        intro j hj v hv g1 f1 f2 f3 ht
        have hj4 : j < 4 := by omega
        rw [if_neg (by omega)] at hv
        have hv8 : v + -8 = if j + 1 = 4 then -8 else nI (24 - 8 * (j + 1)) := by
          rw [hv]
          have : j = 0 ∨ j = 1 ∨ j = 2 ∨ j = 3 := by omega
          rcases this with rfl | rfl | rfl | rfl <;> decide
        have hl : ¬ v < 0 := by rw [hv]; exact nI_pos (by omega)
        have nj : n + j < 2000 := by omega
        have st : ((w >>> (v &&& 31)).toInt8.toInt32).toInt8.toInt32 = (vApp (n, tb) w).2 (n + j) := by
          rw [hv, vFb_s]
          show _ = if n + j < n then tb (n + j) else vFb w (n + j - n)
          rw [if_neg (by omega), Nat.add_sub_cancel_left]
        refine xm_run_go hm 40 ⟨fun z => absurd z hl, fun _ => ⟨n + j, ⟨nj, ht.1⟩, xm_cut hm (ih (j + 1) (by omega) (v + -8) hv8 _ (fun k k0 k1 => ?_) (fun i i2 => ?_) f3 ⟨?_, fun i hi => ?_⟩)⟩⟩
        · rw [xg_off _ _ _ k0, xg_off _ _ _ k1]; exact f1 k k0 k1
        · rw [xg_in, if_neg i2, xg_off _ _ _ (by decide)]; exact f2 i i2
        · rw [xg_in, if_pos rfl, xg_off _ _ _ (by decide), ht.1, nI_1]; rfl
        · rw [xg_off _ _ _ (by decide), xg_in]
          by_cases z : i = n + j
          · rw [if_pos z, z]; exact st
          · rw [if_neg z]; exact ht.2 i (by omega)
    refine xm_run_go hm 10 (xm_cut hm (loop 4 0 rfl _ ?_ g (fun _ _ _ => rfl) (fun _ _ => rfl) rfl ⟨h.1, fun i hi => ?_⟩))
    · decide
    · show _ = if i < n then tb i else vFb w (i - n)
      rw [if_pos (show i < n from hi)]; exact h.2 i hi
theorem mTp.tape {lv : Nat} {σ : vS} {g g' : xG} (h : mTp lv σ g) (f1 : ∀ k, k ≠ 0 → k ≠ 1 → g'.1 k = g.1 k) (f2 : ∀ j, j ≠ 2 → g'.1 0 j = g.1 0 j) (f3 : g'.2 = g.2) {n : Nat} {tb : Nat → Int32} (hn : n ≤ 2000) (ht : mTape n tb g') : mTp lv (uT σ n tb) g' := by
  obtain ⟨h1, h2, h3, h4, h5, h6, h7, h8⟩ := h
  exact ⟨⟨h1.1, h1.2.1, hn, h1.2.2.2⟩, h2.fr (f2 18 (by decide)) (fun k a b => f1 k (by omega) (by omega)), h3.fr (f1 32 (by decide) (by decide)), ht, (f2 17 (by decide)).trans h5, h6.fr (f2 54 (by decide)) (f1 35 (by decide) (by decide)), h7.fr (f2 59 (by decide)) (fun k a b => f1 k (by omega) (by omega)), h8.fr (f1 42 (by decide) (by decide)) (f1 43 (by decide) (by decide)) (by rw [f3])⟩
def xt_X9_feed : xT := xm_rl (Z := vS × Int32 × Int32 × Int32 × Int32 × Int32) (fun (σ, a, b, c, d, e) av g => av = [.ref 0, .int a, .int b, .int c, .int d, .int e] ∧ mTop σ g) (fun (σ, a, b, c, d, e) g o g' => o = some (.int (aFeed σ)) ∧ mTop (sFeed σ a b c d e) g')
set_option maxRecDepth 100000 in
set_option maxHeartbeats 400000 in
theorem xp_X9_feed {l : Launch} {D : va_G} {cA : Nat → ClassId} {B : List (Nat × Cell)} : xm_Met l D cA B xs_M 1 yX9_feed cX9_feed 6 (some .int) xt_X9_feed := by
  have hm : xm_monos [xt_X9_lays] := ⟨(by first | exact xm_fn_mono _ _ _ | exact xm_rl_mono _ _), trivial⟩
  refine xm_meth (own := RX9) (ks := xk_X9_feed) (C := xc_X9_feed) (Ts := [xt_X9_lays]) (by decide +kernel) rfl xm_clsok xs_M_ok xf_X9_ok xi_X9_ok xj_X9_ok (xm_lk xl_X9_166 xp_X9_lays (by decide) xm_lk0) xo_X9_feed ?_ ?_
  · rintro av g Q ⟨z, ⟨rfl, -⟩, -⟩
    exact Nat.le_of_ble_eq_true rfl
  · rintro av g Q ⟨⟨σ, a, b, c, d, e⟩, ⟨rfl, ⟨lv, h⟩⟩, hQ⟩
    dsimp only at h hQ
    have ht := h.2.2.2.1
    have hn := h.1.2.2.1
    by_cases hr : sN σ + 20 ≤ 2000
    · refine xm_run_go hm 60 ⟨fun _ => ⟨(sN σ, sB σ, a), ⟨rfl, by show sN σ + 4 ≤ 2000; omega, ht⟩, ?_⟩, fun z => ?_⟩
      · rintro o g1 ⟨rfl, t1, f1, e1, d1⟩
        refine ⟨(sN σ + 4, (vApp (sN σ, sB σ) a).2, b), ⟨rfl, by show sN σ + 4 + 4 ≤ 2000; omega, t1⟩, ?_⟩
        rintro o g2 ⟨rfl, t2, f2, e2, d2⟩
        refine ⟨(sN σ + 8, (vApp (vApp (sN σ, sB σ) a) b).2, c), ⟨rfl, by show sN σ + 8 + 4 ≤ 2000; omega, t2⟩, ?_⟩
        rintro o g3 ⟨rfl, t3, f3, e3, d3⟩
        refine ⟨(sN σ + 12, (vApp (vApp (vApp (sN σ, sB σ) a) b) c).2, d), ⟨rfl, by show sN σ + 12 + 4 ≤ 2000; omega, t3⟩, ?_⟩
        rintro o g4 ⟨rfl, t4, f4, e4, d4⟩
        refine ⟨(sN σ + 16, (vApp (vApp (vApp (vApp (sN σ, sB σ) a) b) c) d).2, e), ⟨rfl, by show sN σ + 16 + 4 ≤ 2000; omega, t4⟩, ?_⟩
        rintro o g5 ⟨rfl, t5, f5, e5, d5⟩
        refine hQ _ _ ⟨?_, lv, ?_⟩
        · rw [aFeed, if_pos hr, t5.1]
        · rw [sFeed, if_pos hr]
          exact h.tape (fun k k0 k1 => by rw [f5 k k0 k1, f4 k k0 k1, f3 k k0 k1, f2 k k0 k1, f1 k k0 k1]) (fun j j2 => by rw [e5 j j2, e4 j j2, e3 j j2, e2 j j2, e1 j j2]) ((((d5.trans d4).trans d3).trans d2).trans d1) hr t5
      · rw [ht.1, show (20 : Int32) = nI 20 from rfl, nI_add] at z
        exact absurd z (nI_nlt (b := sN σ + 20) (a := 2000) hr (by decide))
    · have fin := hQ (some (.int (-1))) g ⟨by rw [aFeed, if_neg hr], lv, by rw [sFeed, if_neg hr]; exact h⟩
      refine xm_run_go hm 60 ⟨fun z => ?_, fun _ => fin⟩
      rw [ht.1, show (20 : Int32) = nI 20 from rfl, nI_add] at z
      exact absurd z (nI_ge (a := 2000) (by omega) (by omega))
def xt_X9_back : xT := xm_rl (Z := vS × Int32) (fun (σ, x) av g => av = [.ref 0, .int x] ∧ mTop σ g) (fun (σ, x) g o g' => o = some (.int (aBack σ x)) ∧ mTop (sBack σ x) g')
set_option maxRecDepth 100000 in
set_option maxHeartbeats 400000 in
theorem xp_X9_back {l : Launch} {D : va_G} {cA : Nat → ClassId} {B : List (Nat × Cell)} : xm_Met l D cA B xs_M 0 yX9_back cX9_back 2 (some .int) xt_X9_back := by
  have hm : xm_monos [] := xm_m0
  refine xm_meth (own := RX9) (ks := xk_X9_back) (C := xc_X9_back) (Ts := []) (by decide +kernel) rfl xm_clsok xs_M_ok xf_X9_ok xi_X9_ok xj_X9_ok xm_lk0 xo_X9_back ?_ ?_
  · rintro av g Q ⟨z, ⟨rfl, -⟩, -⟩
    exact Nat.le_of_ble_eq_true rfl
  · rintro av g Q ⟨⟨σ, x⟩, ⟨rfl, ⟨lv, h⟩⟩, hQ⟩
    dsimp only at h hQ
    have ht := h.2.2.2.1
    have hn := h.1.2.2.1
    rcases vDo_or (m := sN σ + 1) x (by omega) with hx | ⟨k, hk, rfl⟩
    · have fin := hQ (some (.int (-1))) g ⟨by rw [aBack, vDo_n hx], lv, by rw [sBack, vDo_n hx]; exact h⟩
      refine xm_run_go hm 60 ⟨fun _ => fin, fun z => ⟨fun y => ?_, fun _ => fin⟩⟩
      rw [ht.1] at y
      exact absurd ((vR_is x (by omega)).mp ⟨z, y⟩) hx
    · have hs : nI (sN σ) - nI k = nI (sN σ - k) := by
        have : sN σ = (sN σ - k) + k := by omega
        rw [this, ← nI_add, Int32.add_sub_cancel, Nat.add_sub_cancel]
      refine xm_run_go hm 60 ⟨fun z => absurd z (nI_pos (by omega)), fun _ => ⟨fun _ => hQ _ _ ⟨?_, lv, ?_⟩, fun z => ?_⟩⟩
      · rw [aBack, vDo_y hk (by omega), xg_in, if_pos rfl, ht.1, hs]
      · rw [sBack, vDo_y hk (by omega)]
        refine h.tape (fun k k0 k1 => xg_off _ _ _ k0) (fun j j2 => by rw [xg_in, if_neg j2]) rfl (by omega) ⟨?_, fun i hi => ?_⟩
        · rw [xg_in, if_pos rfl, ht.1, hs]
        · rw [xg_off _ _ _ (by decide)]; exact ht.2 i (by omega)
      · rw [ht.1] at z
        exact absurd z (nI_nlt (by omega) (by omega))
def xt_X9_place : xT := xm_rl (Z := vS) (fun σ av g => av = [.ref 0] ∧ mTop σ g) (fun σ g o g' => o = some (.int (sP σ)) ∧ mTop σ g')
set_option maxRecDepth 100000 in
set_option maxHeartbeats 400000 in
theorem xp_X9_place {l : Launch} {D : va_G} {cA : Nat → ClassId} {B : List (Nat × Cell)} : xm_Met l D cA B xs_M 0 yX9_place cX9_place 1 (some .int) xt_X9_place := by
  have hm : xm_monos [] := xm_m0
  refine xm_meth (own := RX9) (ks := xk_X9_place) (C := xc_X9_place) (Ts := []) (by decide +kernel) rfl xm_clsok xs_M_ok xf_X9_ok xi_X9_ok xj_X9_ok xm_lk0 xo_X9_place ?_ ?_
  · rintro av g Q ⟨z, ⟨rfl, -⟩, -⟩
    exact Nat.le_of_ble_eq_true rfl
  · rintro av g Q ⟨σ, ⟨rfl, ⟨lv, h⟩⟩, hQ⟩
    exact xm_run_go hm 10 (hQ _ _ ⟨by rw [h.2.2.2.2.1], lv, h⟩)
def xt_X9_slide : xT := xm_rl (Z := vS × Int32 × Int32) (fun (σ, s, w) av g => av = [.ref 0, .int s, .int w] ∧ mTop σ g) (fun (σ, s, w) g o g' => o = some (.int (aSlide σ s w)) ∧ mTop σ g')
theorem mTp.n9 {lv : Nat} {σ : vS} {g : xG} (h : mTp lv σ g) : tN (sT σ) < 100 := by have := h.n5; omega
theorem mTp.m9 {lv : Nat} {σ : vS} {g : xG} (h : mTp lv σ g) : tM (sT σ) < 100 := by have := h.m6; omega
set_option maxRecDepth 100000 in
set_option maxHeartbeats 400000 in
theorem xp_X9_slide {l : Launch} {D : va_G} {cA : Nat → ClassId} {B : List (Nat × Cell)} : xm_Met l D cA B xs_M 3 yX9_slide cX9_slide 3 (some .int) xt_X9_slide := by
  have hm : xm_monos [xt_X9_isSlide, xt_X9_copies, xt_X9_leftAt, xt_X9_rightAt, xt_X9_shownOn] := ⟨(by first | exact xm_fn_mono _ _ _ | exact xm_rl_mono _ _), (by first | exact xm_fn_mono _ _ _ | exact xm_rl_mono _ _), (by first | exact xm_fn_mono _ _ _ | exact xm_rl_mono _ _), (by first | exact xm_fn_mono _ _ _ | exact xm_rl_mono _ _), (by first | exact xm_fn_mono _ _ _ | exact xm_rl_mono _ _), trivial⟩
  refine xm_meth (own := RX9) (ks := xk_X9_slide) (C := xc_X9_slide) (Ts := [xt_X9_isSlide, xt_X9_copies, xt_X9_leftAt, xt_X9_rightAt, xt_X9_shownOn]) (by decide +kernel) rfl xm_clsok xs_M_ok xf_X9_ok xi_X9_ok xj_X9_ok (xm_lk xl_X9_406 xp_X9_isSlide (by decide) (xm_lk xl_X9_320 xp_X9_copies (by decide) (xm_lk xl_X9_333 xp_X9_leftAt (by decide) (xm_lk xl_X9_330 xp_X9_rightAt (by decide) (xm_lk xl_X9_409 xp_X9_shownOn (by decide) xm_lk0))))) xo_X9_slide ?_ ?_
  · rintro av g Q ⟨z, ⟨rfl, -⟩, -⟩
    exact Nat.le_of_ble_eq_true rfl
  · rintro av g Q ⟨⟨σ, s, w⟩, ⟨rfl, ⟨lv, h⟩⟩, hQ⟩
    dsimp only at h hQ
    have n5 := h.n5
    have hl := h.lv
    rcases vDo_c (m := tN (sT σ)) s (by omega) with hs | ⟨s, hs, rfl⟩
    · have fin := hQ (some (.int (-1))) g ⟨by rw [aSlide, vDo_n hs], lv, h⟩
      refine xm_run_go hm 20 ⟨(s, lv, tN (sT σ)), ⟨rfl, hl, h.n9, h.l, h.n⟩, ⟨fun z => ?_, fun _ => fin⟩⟩
      exact absurd (vIs_n hs) z
    · refine xm_run_go hm 40 ⟨(nI s, lv, tN (sT σ)), ⟨rfl, hl, h.n9, h.l, h.n⟩, ⟨fun _ => ⟨(lv, σ), ⟨rfl, h⟩, ?_⟩, fun z => ?_⟩⟩
      · rintro o g1 ⟨rfl, i1, f1, -, -⟩
        have h1 := h.q f1
        have fin : ∀ v, v = (if w = 0 then tL (sT σ) s else if w = 1 then tR (sT σ) s else if w = 2 then tB (sT σ) s else if w = 3 then vShow (sT σ) (sC σ) (nI s) else -1) → Q (some (.int v)) g1 := fun v hv => hQ _ _ ⟨by rw [aSlide, vDo_y hs (by omega), hv], lv, h1⟩
        refine ⟨fun z => ⟨(s, lv, sT σ), ⟨rfl, hs, i1.1, i1.2.2.1⟩, fin _ ?_⟩, fun z0 => ⟨fun z => ⟨(s, lv, sT σ), ⟨rfl, hs, i1.1, i1.2.2.1⟩, fin _ ?_⟩, fun z1 => ⟨fun z => ⟨5 * lv + s, ⟨by omega, ?_⟩, fin _ ?_⟩, fun z2 => ⟨fun z => ⟨(nI s, lv, sT σ, sC σ), ⟨rfl, i1⟩, fin _ ?_⟩, fun z3 => fin _ ?_⟩⟩⟩⟩
        · rw [if_pos z]
        · rw [if_neg z0, if_pos z]
        · rw [h1.l, xn_5]
        · rw [if_neg z0, if_neg z1, if_pos z]; exact (h1.2.1.2.2.2.2.1 s hs).2.2
        · rw [if_neg z0, if_neg z1, if_neg z2, if_pos z]
        · rw [if_neg z0, if_neg z1, if_neg z2, if_neg z3]
      · rw [vIs_y hs (by omega)] at z; exact absurd z (by decide)
def xt_X9_person : xT := xm_rl (Z := vS × Int32 × Int32) (fun (σ, s, w) av g => av = [.ref 0, .int s, .int w] ∧ mTop σ g) (fun (σ, s, w) g o g' => o = some (.int (aPerson σ s w)) ∧ mTop σ g')
set_option maxRecDepth 100000 in
set_option maxHeartbeats 400000 in
theorem xp_X9_person {l : Launch} {D : va_G} {cA : Nat → ClassId} {B : List (Nat × Cell)} : xm_Met l D cA B xs_M 7 yX9_person cX9_person 3 (some .int) xt_X9_person := by
  have hm : xm_monos [xt_X9_isPerson, xt_X9_copies, xt_X9_pictureOf, xt_X9_seatOf, xt_X9_joinsAt, xt_X9_paysOf, xt_X9_washesOf, xt_X9_allGlow] := ⟨(by first | exact xm_fn_mono _ _ _ | exact xm_rl_mono _ _), (by first | exact xm_fn_mono _ _ _ | exact xm_rl_mono _ _), (by first | exact xm_fn_mono _ _ _ | exact xm_rl_mono _ _), (by first | exact xm_fn_mono _ _ _ | exact xm_rl_mono _ _), (by first | exact xm_fn_mono _ _ _ | exact xm_rl_mono _ _), (by first | exact xm_fn_mono _ _ _ | exact xm_rl_mono _ _), (by first | exact xm_fn_mono _ _ _ | exact xm_rl_mono _ _), (by first | exact xm_fn_mono _ _ _ | exact xm_rl_mono _ _), trivial⟩
  refine xm_meth (own := RX9) (ks := xk_X9_person) (C := xc_X9_person) (Ts := [xt_X9_isPerson, xt_X9_copies, xt_X9_pictureOf, xt_X9_seatOf, xt_X9_joinsAt, xt_X9_paysOf, xt_X9_washesOf, xt_X9_allGlow]) (by decide +kernel) rfl xm_clsok xs_M_ok xf_X9_ok xi_X9_ok xj_X9_ok (xm_lk xl_X9_412 xp_X9_isPerson (by decide) (xm_lk xl_X9_320 xp_X9_copies (by decide) (xm_lk xl_X9_336 xp_X9_pictureOf (by decide) (xm_lk xl_X9_358 xp_X9_seatOf (by decide) (xm_lk xl_X9_361 xp_X9_joinsAt (by decide) (xm_lk xl_X9_376 xp_X9_paysOf (by decide) (xm_lk xl_X9_385 xp_X9_washesOf (by decide) (xm_lk xl_X9_364 xp_X9_allGlow (by decide) xm_lk0)))))))) xo_X9_person ?_ ?_
  · rintro av g Q ⟨z, ⟨rfl, -⟩, -⟩
    exact Nat.le_of_ble_eq_true rfl
  · rintro av g Q ⟨⟨σ, p, w⟩, ⟨rfl, ⟨lv, h⟩⟩, hQ⟩
    dsimp only at h hQ
    have m6 := h.m6
    have hl := h.lv
    rcases vDo_c (m := tM (sT σ)) p (by omega) with hp | ⟨p, hp, rfl⟩
    · have fin := hQ (some (.int (-1))) g ⟨by rw [aPerson, vDo_n hp], lv, h⟩
      refine xm_run_go hm 20 ⟨(p, lv, tM (sT σ)), ⟨rfl, hl, h.m9, h.l, h.m⟩, ⟨fun z => ?_, fun _ => fin⟩⟩
      exact absurd (vIs_n hp) z
    · have p6 : p < 6 := by omega
      have k6 : cS (sC σ) p < 6 := by have := (h.c.2.1 p hp).1; omega
      refine xm_run_go hm 40 ⟨(nI p, lv, tM (sT σ)), ⟨rfl, hl, h.m9, h.l, h.m⟩, ⟨fun _ => ⟨(lv, σ), ⟨rfl, h⟩, ?_⟩, fun z => ?_⟩⟩
      · rintro o g1 ⟨rfl, i1, f1, -, -⟩
        have h1 := h.q f1
        have fin : ∀ v g', mFq g1 g' → v = (if w = 0 then tW (sT σ) p else if w = 1 then vPic (sT σ) (sC σ) p else if w = 2 then nI (cS (sC σ) p) else if w = 3 then nI (vJoins (sT σ) (sC σ) p) else if w = 4 then vPays (sT σ) (sC σ) p else if w = 5 then vWashes (sT σ) (sC σ) p else if w = 6 then vTot (sT σ) (sC σ) p else -1) → Q (some (.int v)) g' := fun v g' f' hv => hQ _ _ ⟨by rw [aPerson, vDo_y hp (by omega), hv], lv, h1.q f'⟩
        refine ⟨fun z => ⟨6 * lv + p, ⟨by omega, ?_⟩, fin _ _ mFq.rf ?_⟩, fun z0 => ⟨fun z => ⟨(p, lv, sT σ, sC σ), ⟨rfl, p6, i1⟩, fin _ _ mFq.rf ?_⟩, fun z1 => ⟨fun z => ⟨(p, lv, sT σ, sC σ), ⟨rfl, hp, i1⟩, fin _ _ mFq.rf ?_⟩, fun z2 => ⟨fun z => ⟨(p, lv, sT σ, sC σ), ⟨rfl, hp, i1⟩, (cS (sC σ) p, lv, sT σ, sC σ), ⟨rfl, k6, i1⟩, fin _ _ mFq.rf ?_⟩, fun z3 => ⟨fun z => ⟨(p, lv, sT σ, sC σ), ⟨rfl, hp, i1⟩, ?_⟩, fun z4 => ⟨fun z => ⟨(p, lv, sT σ, sC σ), ⟨rfl, hp, i1⟩, ?_⟩, fun z5 => ⟨fun z => ⟨(p, lv, sT σ, sC σ), ⟨rfl, p6, i1⟩, fin _ _ mFq.rf ?_⟩, fun z6 => fin _ _ mFq.rf ?_⟩⟩⟩⟩⟩⟩⟩
        · rw [h1.l, xn_6]
        · rw [if_pos z]; exact h1.2.1.2.2.2.2.2.1 p hp
        · rw [if_neg z0, if_pos z]
        · rw [if_neg z0, if_neg z1, if_pos z]
        · rw [if_neg z0, if_neg z1, if_neg z2, if_pos z]; rfl
        · rintro o g2 ⟨rfl, f2⟩
          exact fin _ _ f2.q (by rw [if_neg z0, if_neg z1, if_neg z2, if_neg z3, if_pos z])
        · rintro o g2 ⟨rfl, f2⟩
          exact fin _ _ f2.q (by rw [if_neg z0, if_neg z1, if_neg z2, if_neg z3, if_neg z4, if_pos z])
        · rw [if_neg z0, if_neg z1, if_neg z2, if_neg z3, if_neg z4, if_neg z5, if_pos z]
        · rw [if_neg z0, if_neg z1, if_neg z2, if_neg z3, if_neg z4, if_neg z5, if_neg z6]
      · rw [vIs_y hp (by omega)] at z; exact absurd z (by decide)
def xt_X9_glow : xT := xm_rl (Z := vS × Int32 × Int32) (fun (σ, p, s) av g => av = [.ref 0, .int p, .int s] ∧ mTop σ g) (fun (σ, p, s) g o g' => o = some (.int (aGlow σ p s)) ∧ mTop σ g')
set_option maxRecDepth 100000 in
set_option maxHeartbeats 400000 in
theorem xp_X9_glow {l : Launch} {D : va_G} {cA : Nat → ClassId} {B : List (Nat × Cell)} : xm_Met l D cA B xs_M 2 yX9_glow cX9_glow 3 (some .int) xt_X9_glow := by
  have hm : xm_monos [xt_X9_isPerson, xt_X9_isSlide] := ⟨(by first | exact xm_fn_mono _ _ _ | exact xm_rl_mono _ _), (by first | exact xm_fn_mono _ _ _ | exact xm_rl_mono _ _), trivial⟩
  refine xm_meth (own := RX9) (ks := xk_X9_glow) (C := xc_X9_glow) (Ts := [xt_X9_isPerson, xt_X9_isSlide]) (by decide +kernel) rfl xm_clsok xs_M_ok xf_X9_ok xi_X9_ok xj_X9_ok (xm_lk xl_X9_412 xp_X9_isPerson (by decide) (xm_lk xl_X9_406 xp_X9_isSlide (by decide) xm_lk0)) xo_X9_glow ?_ ?_
  · rintro av g Q ⟨z, ⟨rfl, -⟩, -⟩
    exact Nat.le_of_ble_eq_true rfl
  · rintro av g Q ⟨⟨σ, p, s⟩, ⟨rfl, ⟨lv, h⟩⟩, hQ⟩
    dsimp only at h hQ
    have m6 := h.m6
    have n5 := h.n5
    have hl := h.lv
    rcases vDo_c (m := tM (sT σ)) p (by omega) with hp | ⟨p, hp, rfl⟩
    · have fin := hQ (some (.int (-1))) g ⟨by rw [aGlow, vDo_n hp], lv, h⟩
      refine xm_run_go hm 30 ⟨(p, lv, tM (sT σ)), ⟨rfl, hl, h.m9, h.l, h.m⟩, ⟨fun _ => fin, fun z => ?_⟩⟩
      exact absurd (vIs_n hp) z
    · have z1 := vIs_y hp (by omega : tM (sT σ) < 2 ^ 31)
      rcases vDo_c (m := tN (sT σ)) s (by omega) with hs | ⟨s, hs, rfl⟩
      · have fin := hQ (some (.int (-1))) g ⟨by rw [aGlow, vDo_y hp (by omega), vDo_n hs], lv, h⟩
        refine xm_run_go hm 30 ⟨(nI p, lv, tM (sT σ)), ⟨rfl, hl, h.m9, h.l, h.m⟩, ⟨fun _ => fin, fun _ => ⟨(s, lv, tN (sT σ)), ⟨rfl, hl, h.n9, h.l, h.n⟩, ⟨fun _ => fin, fun z => ?_⟩⟩⟩⟩
        exact absurd (vIs_n hs) z
      · have z2 := vIs_y hs (by omega : tN (sT σ) < 2 ^ 31)
        refine xm_run_go hm 30 ⟨(nI p, lv, tM (sT σ)), ⟨rfl, hl, h.m9, h.l, h.m⟩, ⟨fun z => ?_, fun _ => ⟨(nI s, lv, tN (sT σ)), ⟨rfl, hl, h.n9, h.l, h.n⟩, ⟨fun z => ?_, fun _ => ⟨p * 5 + s, ⟨by omega, ?_⟩, hQ _ _ ⟨?_, lv, h⟩⟩⟩⟩⟩⟩
        · rw [z1] at z; exact absurd z (by decide)
        · rw [z2] at z; exact absurd z (by decide)
        · rw [xn_5, Nat.mul_comm]
        · rw [aGlow, vDo_y hp (by omega), vDo_y hs (by omega), h.2.2.1.1 (p * 5 + s) (by omega)]
def xt_X9_tells : xT := xm_rl (Z := vS × Int32 × Int32 × Int32) (fun (σ, p, s, w) av g => av = [.ref 0, .int p, .int s, .int w] ∧ mTop σ g) (fun (σ, p, s, w) g o g' => o = some (.int (aTells σ p s w)) ∧ mTop σ g')
set_option maxRecDepth 100000 in
set_option maxHeartbeats 400000 in
theorem xp_X9_tells {l : Launch} {D : va_G} {cA : Nat → ClassId} {B : List (Nat × Cell)} : xm_Met l D cA B xs_M 7 yX9_tells cX9_tells 4 (some .int) xt_X9_tells := by
  have hm : xm_monos [xt_X9_isPerson, xt_X9_isSlide, xt_X9_in, xt_X9_copies, xt_X9_takesOf, xt_X9_fadesOf] := ⟨(by first | exact xm_fn_mono _ _ _ | exact xm_rl_mono _ _), (by first | exact xm_fn_mono _ _ _ | exact xm_rl_mono _ _), (by first | exact xm_fn_mono _ _ _ | exact xm_rl_mono _ _), (by first | exact xm_fn_mono _ _ _ | exact xm_rl_mono _ _), (by first | exact xm_fn_mono _ _ _ | exact xm_rl_mono _ _), (by first | exact xm_fn_mono _ _ _ | exact xm_rl_mono _ _), trivial⟩
  refine xm_meth (own := RX9) (ks := xk_X9_tells) (C := xc_X9_tells) (Ts := [xt_X9_isPerson, xt_X9_isSlide, xt_X9_in, xt_X9_copies, xt_X9_takesOf, xt_X9_fadesOf]) (by decide +kernel) rfl xm_clsok xs_M_ok xf_X9_ok xi_X9_ok xj_X9_ok (xm_lk xl_X9_412 xp_X9_isPerson (by decide) (xm_lk xl_X9_406 xp_X9_isSlide (by decide) (xm_lk xl_X9_307 xp_X9_in (by decide) (xm_lk xl_X9_320 xp_X9_copies (by decide) (xm_lk xl_X9_379 xp_X9_takesOf (by decide) (xm_lk xl_X9_397 xp_X9_fadesOf (by decide) xm_lk0)))))) xo_X9_tells ?_ ?_
  · rintro av g Q ⟨z, ⟨rfl, -⟩, -⟩
    exact Nat.le_of_ble_eq_true rfl
  · rintro av g Q ⟨⟨σ, p, s, w⟩, ⟨rfl, ⟨lv, h⟩⟩, hQ⟩
    dsimp only at h hQ
    have m6 := h.m6
    have n5 := h.n5
    have hl := h.lv
    rcases vDo_c (m := tM (sT σ)) p (by omega) with hp | ⟨p, hp, rfl⟩
    · have fin := hQ (some (.int (-1))) g ⟨by rw [aTells, vDo_n hp], lv, h⟩
      refine xm_run_go hm 30 ⟨(p, lv, tM (sT σ)), ⟨rfl, hl, h.m9, h.l, h.m⟩, ⟨fun _ => fin, fun z => ?_⟩⟩
      exact absurd (vIs_n hp) z
    have z1 := vIs_y hp (by omega : tM (sT σ) < 2 ^ 31)
    rcases vDo_c (m := tN (sT σ)) s (by omega) with hs | ⟨s, hs, rfl⟩
    · have fin := hQ (some (.int (-1))) g ⟨by rw [aTells, vDo_y hp (by omega), vDo_n hs], lv, h⟩
      refine xm_run_go hm 30 ⟨(nI p, lv, tM (sT σ)), ⟨rfl, hl, h.m9, h.l, h.m⟩, ⟨fun _ => fin, fun _ => ⟨(s, lv, tN (sT σ)), ⟨rfl, hl, h.n9, h.l, h.n⟩, ⟨fun _ => fin, fun z => ?_⟩⟩⟩⟩
      exact absurd (vIs_n hs) z
    have z2 := vIs_y hs (by omega : tN (sT σ) < 2 ^ 31)
    rcases vDo_or (m := 2) w (by omega) with hv | ⟨w, hv, rfl⟩
    · have fin := hQ (some (.int (-1))) g ⟨by rw [aTells, vDo_y hp (by omega), vDo_y hs (by omega), if_neg (fun e => hv (by rw [e]; decide)), if_neg (fun e => hv (by rw [e]; decide))], lv, h⟩
      refine xm_run_go hm 30 ⟨(nI p, lv, tM (sT σ)), ⟨rfl, hl, h.m9, h.l, h.m⟩, ⟨fun _ => fin, fun _ => ⟨(nI s, lv, tN (sT σ)), ⟨rfl, hl, h.n9, h.l, h.n⟩, ⟨fun _ => fin, fun _ => ⟨(w, 0, 1), ⟨rfl, trivial⟩, ⟨fun z => ?_, fun _ => fin⟩⟩⟩⟩⟩⟩
      exact absurd (vIn_n (k := 1) rfl (by omega) hv) z
    have z3 := vIn_y (k := 1) (hi := 1) rfl (by omega) hv
    refine xm_run_go hm 40 ⟨(nI p, lv, tM (sT σ)), ⟨rfl, hl, h.m9, h.l, h.m⟩, ⟨fun z => ?_, fun _ => ⟨(nI s, lv, tN (sT σ)), ⟨rfl, hl, h.n9, h.l, h.n⟩, ⟨fun z => ?_, fun _ => ⟨(nI w, 0, 1), ⟨rfl, trivial⟩, ⟨fun _ => ⟨(lv, σ), ⟨rfl, h⟩, ?_⟩, fun z => ?_⟩⟩⟩⟩⟩⟩
    · rw [z1] at z; exact absurd z (by decide)
    · rw [z2] at z; exact absurd z (by decide)
    · rintro o g1 ⟨rfl, i1, f1, -, -⟩
      refine ⟨fun z => ⟨(p, s, lv, sT σ, sC σ), ⟨rfl, hp, hs, i1⟩, ?_⟩, fun z => ⟨(p, s, lv, sT σ, sC σ), ⟨rfl, hp, hs, i1⟩, ?_⟩⟩
      · rintro o g2 ⟨rfl, f2⟩
        have : w = 1 := by
          have : w ≠ 0 := fun e => z (by rw [e]; rfl)
          omega
        subst this
        exact hQ _ _ ⟨by rw [aTells, vDo_y hp (by omega), vDo_y hs (by omega), if_neg z, if_pos (show nI 1 = 1 from rfl)], lv, h.q (f1.tr f2.q)⟩
      · rintro o g2 ⟨rfl, f2⟩
        exact hQ _ _ ⟨by rw [aTells, vDo_y hp (by omega), vDo_y hs (by omega), if_pos z], lv, h.q (f1.tr f2.q)⟩
    · rw [z3] at z; exact absurd z (by decide)
def xt_X9_join : xT := xm_rl (Z := vS × Int32 × Int32) (fun (σ, p, s) av g => av = [.ref 0, .int p, .int s] ∧ mTop σ g) (fun (σ, p, s) g o g' => o = some (.int (aJoin σ p s)) ∧ mTop σ g')
set_option maxRecDepth 100000 in
set_option maxHeartbeats 400000 in
theorem xp_X9_join {l : Launch} {D : va_G} {cA : Nat → ClassId} {B : List (Nat × Cell)} : xm_Met l D cA B xs_M 3 yX9_join cX9_join 3 (some .int) xt_X9_join := by
  have hm : xm_monos [xt_X9_isPerson, xt_X9_copies, xt_X9_doJoin] := ⟨(by first | exact xm_fn_mono _ _ _ | exact xm_rl_mono _ _), (by first | exact xm_fn_mono _ _ _ | exact xm_rl_mono _ _), (by first | exact xm_fn_mono _ _ _ | exact xm_rl_mono _ _), trivial⟩
  refine xm_meth (own := RX9) (ks := xk_X9_join) (C := xc_X9_join) (Ts := [xt_X9_isPerson, xt_X9_copies, xt_X9_doJoin]) (by decide +kernel) rfl xm_clsok xs_M_ok xf_X9_ok xi_X9_ok xj_X9_ok (xm_lk xl_X9_412 xp_X9_isPerson (by decide) (xm_lk xl_X9_320 xp_X9_copies (by decide) (xm_lk xl_X9_349 xp_X9_doJoin (by decide) xm_lk0))) xo_X9_join ?_ ?_
  · rintro av g Q ⟨z, ⟨rfl, -⟩, -⟩
    exact Nat.le_of_ble_eq_true rfl
  · rintro av g Q ⟨⟨σ, p, s⟩, ⟨rfl, ⟨lv, h⟩⟩, hQ⟩
    dsimp only at h hQ
    have m6 := h.m6
    have hl := h.lv
    rcases vDo_c (m := tM (sT σ)) p (by omega) with hp | ⟨p, hp, rfl⟩
    · have fin := hQ (some (.int (-1))) g ⟨by rw [aJoin, vDo_n hp], lv, h⟩
      refine xm_run_go hm 30 ⟨(p, lv, tM (sT σ)), ⟨rfl, hl, h.m9, h.l, h.m⟩, ⟨fun _ => fin, fun z => ?_⟩⟩
      exact absurd (vIs_n hp) z
    · have z1 := vIs_y hp (by omega : tM (sT σ) < 2 ^ 31)
      rcases vDo_c (m := tM (sT σ)) s (by omega) with hs | ⟨s, hs, rfl⟩
      · have fin := hQ (some (.int (-1))) g ⟨by rw [aJoin, vDo_y hp (by omega), vDo_n hs], lv, h⟩
        refine xm_run_go hm 30 ⟨(nI p, lv, tM (sT σ)), ⟨rfl, hl, h.m9, h.l, h.m⟩, ⟨fun _ => fin, fun _ => ⟨(s, lv, tM (sT σ)), ⟨rfl, hl, h.m9, h.l, h.m⟩, ⟨fun _ => fin, fun z => ?_⟩⟩⟩⟩
        exact absurd (vIs_n hs) z
      · have z2 := vIs_y hs (by omega : tM (sT σ) < 2 ^ 31)
        have p6 : p < 6 := by omega
        have s6 : s < 6 := by omega
        refine xm_run_go hm 40 ⟨(nI p, lv, tM (sT σ)), ⟨rfl, hl, h.m9, h.l, h.m⟩, ⟨fun z => ?_, fun _ => ⟨(nI s, lv, tM (sT σ)), ⟨rfl, hl, h.m9, h.l, h.m⟩, ⟨fun z => ?_, fun _ => ⟨fun z => ⟨(lv, σ), ⟨rfl, h⟩, ?_⟩, fun z => hQ _ _ ⟨?_, lv, h⟩⟩⟩⟩⟩⟩
        · rw [z1] at z; exact absurd z (by decide)
        · rw [z2] at z; exact absurd z (by decide)
        · rintro o g1 ⟨rfl, i1, f1, -, -⟩
          refine ⟨(p, s, lv, sT σ, sC σ), ⟨rfl, p6, s6, i1⟩, ⟨fun y => hQ _ _ ⟨?_, lv, h.q f1⟩, fun y => hQ _ _ ⟨?_, lv, h.q f1⟩⟩⟩
          · rw [aJoin, vDo_y hp (by omega), vDo_y hs (by omega), if_neg (fun e => z (by rw [e]))]
            exact congrArg (fun x => some (Value.int x)) y.symm
          · rw [aJoin, vDo_y hp (by omega), vDo_y hs (by omega), if_neg (fun e => z (by rw [e]))]
            rcases vB_01 (vJ (sT σ) (sC σ) p s) with q | q
            · exact absurd q y
            · rw [q]
        · rw [aJoin, vDo_y hp (by omega), vDo_y hs (by omega), if_pos ((nI_eq (by omega) (by omega)).mp z)]
def xt_X9_seat : xT := xm_rl (Z := vS × Int32) (fun (σ, p) av g => av = [.ref 0, .int p] ∧ mTop σ g) (fun (σ, p) g o g' => o = some (.int (aSeat σ p)) ∧ mTop σ g')
set_option maxRecDepth 100000 in
set_option maxHeartbeats 400000 in
theorem xp_X9_seat {l : Launch} {D : va_G} {cA : Nat → ClassId} {B : List (Nat × Cell)} : xm_Met l D cA B xs_M 2 yX9_seat cX9_seat 2 (some .int) xt_X9_seat := by
  have hm : xm_monos [xt_X9_isPerson] := ⟨(by first | exact xm_fn_mono _ _ _ | exact xm_rl_mono _ _), trivial⟩
  refine xm_meth (own := RX9) (ks := xk_X9_seat) (C := xc_X9_seat) (Ts := [xt_X9_isPerson]) (by decide +kernel) rfl xm_clsok xs_M_ok xf_X9_ok xi_X9_ok xj_X9_ok (xm_lk xl_X9_412 xp_X9_isPerson (by decide) xm_lk0) xo_X9_seat ?_ ?_
  · rintro av g Q ⟨z, ⟨rfl, -⟩, -⟩
    exact Nat.le_of_ble_eq_true rfl
  · rintro av g Q ⟨⟨σ, p⟩, ⟨rfl, ⟨lv, h⟩⟩, hQ⟩
    dsimp only at h hQ
    have m6 := h.m6
    have hl := h.lv
    rcases vDo_c (m := tM (sT σ)) p (by omega) with hp | ⟨p, hp, rfl⟩
    · have fin := hQ (some (.int (-1))) g ⟨by rw [aSeat, vDo_n hp], lv, h⟩
      refine xm_run_go hm 30 ⟨(p, lv, tM (sT σ)), ⟨rfl, hl, h.m9, h.l, h.m⟩, ⟨fun _ => fin, fun z => ?_⟩⟩
      exact absurd (vIs_n hp) z
    · have z1 := vIs_y hp (by omega : tM (sT σ) < 2 ^ 31)
      refine xm_run_go hm 30 ⟨(nI p, lv, tM (sT σ)), ⟨rfl, hl, h.m9, h.l, h.m⟩, ⟨fun z => ?_, fun _ => ⟨30 + p, ⟨by omega, xn_30 _⟩, hQ _ _ ⟨?_, lv, h⟩⟩⟩⟩
      · rw [z1] at z; exact absurd z (by decide)
      · rw [aSeat, vDo_y hp (by omega), h.2.2.1.2.1 p (by omega)]
