-- the rest of the calls, but for read
theorem vPk_max (f : Nat → Int32) : ∀ n s, s < n → f s ≤ (vPk f n).2.1
  | 0, s, h => absurd h (by omega)
  | n + 1, s, h => by
    simp only [vPk]
    by_cases z : (vPk f n).2.1 < f n
    · rw [if_pos z]
      by_cases y : s = n
      · rw [y]; exact Int32.le_refl _
      · exact Int32.le_of_lt (Int32.lt_of_le_of_lt (vPk_max f n s (by omega)) z)
    · rw [if_neg z]
      by_cases y : s = n
      · rw [y]; exact Int32.not_lt.mp z
      · exact vPk_max f n s (by omega)
theorem vPk_neg {f : Nat → Int32} {n : Nat} (hn : n < 2 ^ 31) : (vPk f n).1 < 0 ↔ ∀ s, s < n → f s ≤ 0 := by
  rcases vPk_pic f n hn with ⟨h1, h2⟩ | ⟨s, h1, h2, h3, h4⟩
  · rw [h1]
    exact ⟨fun _ s hs => by have := vPk_max f n s hs; rw [h2] at this; exact this, fun _ => by decide⟩
  · rw [h2]
    exact ⟨fun z => absurd z (nI_pos (by omega)), fun z => absurd (z s h1) (Int32.not_le.mpr h4)⟩
theorem vPlain_st {t : vSt} {c : vSc} {p : Nat} {w : Int32} (ht : vTok t) (h : vCok t c) (hp : p < tM t) (hn : vPic t c p < 0) : vPic t (vWeek t c w) p < 0 := by
  have n5 := ht.1
  have m6 := ht.2.1
  refine (vPk_neg (by omega)).mpr fun s hs => ?_
  have e1 := (vPk_neg (f := fun s => cG c (p * 5 + s)) (by omega)).mp hn s hs
  have e2 := (h.2.2.2.1 (p * 5 + s) (by omega)).1
  have e3 : cG c (p * 5 + s) = 0 := Int32.le_antisymm e1 e2
  show (if (p * 5 + s) / 5 < tM t ∧ (p * 5 + s) % 5 < tN t then vWk2 t c w (p * 5 + s) else cG c (p * 5 + s)) ≤ 0
  have w1 : vWk1 t c (p * 5 + s) = 0 := by
    unfold vWk1 vLess
    rw [e3, if_neg (by decide)]; decide
  split
  · unfold vWk2
    rw [w1]
    split <;> decide
  · rw [e3]; decide
theorem vPlain_go {t : vSt} {e z : Int32} {c : vSc} {p : Nat} (ht : vTok t) (h : vCok t c) (hp : p < tM t) {i : Nat} (hn : vPic t (vGo t e z c i) p < 0) : ∀ d, vPic t (vGo t e z c (i + d)) p < 0
  | 0 => hn
  | d + 1 => vPlain_st ht (vGo_ok h _) hp (vPlain_go ht h hp hn d)
def xt_X8_year : xT := xm_rl (Z := vS × Int32 × Int32 × Int32) (fun (σ, p, n, s) av g => av = [.ref 0, .int p, .int n, .int s] ∧ xTop σ g) (fun (σ, p, n, s) g o g' => o = some (.int (aYear σ p n s)) ∧ xTop σ g')
set_option maxRecDepth 100000 in
set_option maxHeartbeats 400000 in
theorem xp_X8_year {l : Launch} {D : va_G} {cA : Nat → ClassId} {B : List (Nat × Cell)} : xm_Met l D cA B xs_X 6 yX8_year cX8_year 7 (some .int) xt_X8_year := by
  have hm : xm_monos [xt_X8_isPerson, xt_X8_isIn, xt_X3_copyFrom, xt_X3_passWeek] := ⟨(by first | exact xm_fn_mono _ _ _ | exact xm_rl_mono _ _), (by first | exact xm_fn_mono _ _ _ | exact xm_rl_mono _ _), (by first | exact xm_fn_mono _ _ _ | exact xm_rl_mono _ _), (by first | exact xm_fn_mono _ _ _ | exact xm_rl_mono _ _), trivial⟩
  refine xm_meth (own := RX8) (ks := xk_X8_year) (C := xc_X8_year) (Ts := [xt_X8_isPerson, xt_X8_isIn, xt_X3_copyFrom, xt_X3_passWeek]) (by decide +kernel) rfl xm_clsok xs_X_ok xf_X8_ok xi_X8_ok xj_X8_ok (xm_lk xl_X8_128 xp_X8_isPerson (by decide) (xm_lk xl_X8_189 xp_X8_isIn (by decide) (xm_lk xl_X8_244 xp_X3_copyFrom (by decide) (xm_lk xl_X8_196 xp_X3_passWeek (by decide) xm_lk0)))) xo_X8_year ?_ ?_
  · rintro av g Q ⟨z, ⟨rfl, -⟩, -⟩
    exact Nat.le_of_ble_eq_true rfl
  · rintro av g Q ⟨⟨σ, p, n, s⟩, ⟨rfl, h⟩, hQ⟩
    dsimp only at h hQ
    have m6 := h.m6
    rcases vDo_c (m := tM (sT σ)) p (by omega) with hp | ⟨p, hp, rfl⟩
    · have fin := hQ (some (.int (-1))) g ⟨by rw [aYear, vDo_n hp], h⟩
      refine xm_run_go hm 30 ⟨(p, tM (sT σ)), ⟨rfl, h.m⟩, ⟨fun _ => fin, fun z => ?_⟩⟩
      exact absurd (vIs_n hp) z
    have z1 := vIs_y hp (by omega : tM (sT σ) < 2 ^ 31)
    rcases vDo_or (m := 61) n (by omega) with hn | ⟨n, hn, rfl⟩
    · have fin := hQ (some (.int (-1))) g ⟨by rw [aYear, vDo_y hp (by omega), vDo_n hn], h⟩
      refine xm_run_go hm 30 ⟨(nI p, tM (sT σ)), ⟨rfl, h.m⟩, ⟨fun _ => fin, fun _ => ⟨(n, 0, 60), ⟨rfl, trivial⟩, ⟨fun _ => fin, fun z => ?_⟩⟩⟩⟩
      exact absurd (vIn_n (k := 60) rfl (by omega) hn) z
    have z2 := vIn_y (k := 60) (hi := 60) rfl (by omega) hn
    unfold aYear at hQ
    rw [vDo_y hp (by omega), vDo_y hn (by omega)] at hQ
    have no : ∀ s : Int32, ¬ (1 ≤ s ∧ s ≤ 20) → (vDo (-1) 21 s fun s => if s = 0 then -1 else vSum (fun i => vB (vPic (sT σ) (vGo (sT σ) (tS (sT σ) + nI i) 1 (sC σ) n) p < 0)) s) = -1 := fun s hs => by
      rcases vDo_or (m := 21) s (by omega) with y | ⟨j, y, rfl⟩
      · rw [vDo_n y]
      · rw [vDo_y y (by omega)]
        by_cases j0 : j = 0
        · rw [if_pos j0]
        · exact absurd ⟨(nI_leI (a := 1) (by omega) (by omega)).mpr (by omega), (nI_leI (b := 20) (by omega) (by omega)).mpr (by omega)⟩ hs
    by_cases hs : 1 ≤ s ∧ s ≤ 20
    · obtain ⟨s, hs0, hs1, rfl⟩ : ∃ j, 0 < j ∧ j < 21 ∧ s = nI j := by
        obtain ⟨j, hj, rfl⟩ := nI_of (x := s) (Int32.not_lt.mpr (Int32.le_trans (by decide) hs.1))
        exact ⟨j, (nI_leI (a := 1) (by omega) hj).mp hs.1, by have := (nI_leI (b := 20) hj (by omega)).mp hs.2; omega, rfl⟩
      rw [vDo_y hs1 (by omega), if_neg (by omega)] at hQ
      generalize hf : (fun i => vPic (sT σ) (vGo (sT σ) (tS (sT σ) + nI i) 1 (sC σ) n) p < 0) = P at hQ
      have hf' : ∀ i, P i ↔ vPic (sT σ) (vGo (sT σ) (tS (sT σ) + nI i) 1 (sC σ) n) p < 0 := fun i => by rw [← hf]
      have hQ : ∀ v g', xTop σ g' → v = vSum (fun i => vB (P i)) s → Q (some (.int v)) g' := fun v g' h' hv => hQ _ _ ⟨by rw [hv, ← hf], h'⟩
      have inner : ∀ i, i < s → (∀ g1, xTop σ g1 → ∀ v4, v4 = vSum (fun i => vB (P i)) (i + 1) → ∀ w6, xm_go xs_X xk_X8_year [xt_X8_isPerson, xt_X8_isIn, xt_X3_copyFrom, xt_X3_passWeek] xc_X8_year Q (xm_drop 20 xc_X8_year) [.ref 0, .int (nI p), .int (nI n), .int (nI s), .int v4, .int (nI i + 1), w6] [] g1) →
          ∀ d k, k + d = n → ∀ g1, xTop σ g1 → xIn 20 (sT σ) (vGo (sT σ) (tS (sT σ) + nI i) 1 (sC σ) k) g1 → ∀ v4, v4 = vSum (fun i => vB (P i)) i → xm_go xs_X xk_X8_year [xt_X8_isPerson, xt_X8_isIn, xt_X3_copyFrom, xt_X3_passWeek] xc_X8_year Q (xm_drop 30 xc_X8_year) [.ref 0, .int (nI p), .int (nI n), .int (nI s), .int v4, .int (nI i), .int (nI k)] [] g1 := by
        intro i hi hout d
        have yes : P i → ∀ v, v = vSum (fun i => vB (P i)) i → v + 1 = vSum (fun i => vB (P i)) (i + 1) := fun z v hv => by rw [vSum, vB_t z, hv]
        have not : ¬ P i → ∀ v, v = vSum (fun i => vB (P i)) i → v = vSum (fun i => vB (P i)) (i + 1) := fun z v hv => by rw [vSum, vB_f z, hv, Int32.add_zero]
        induction d with
        | zero =>
          intro k hk g1 h1 i1 v4 e4
          have hk : k = n := by omega
          subst hk
          have ep := (i1.2.2.2.2 p hp).2.1
          refine xm_run_go hm 40 ⟨fun _ => ⟨p, ⟨by omega, rfl⟩, ⟨fun y => xm_cut hm (hout g1 h1 _ (not ?_ _ e4) _), fun y => xm_cut hm (hout g1 h1 _ (yes ?_ _ e4) _)⟩⟩, fun z => absurd z (nI_nlt (Nat.le_refl _) (by omega))⟩
          · rw [ep] at y
            rw [hf']; exact Int32.not_lt.mpr y
          · rw [ep] at y
            rw [hf']; exact y
        | succ d ih =>
          intro k hk g1 h1 i1 v4 e4
          have ep := (i1.2.2.2.2 p hp).2.1
          refine xm_run_go hm 60 ⟨fun z => absurd z (nI_ge (by omega) (by omega)), fun _ => ⟨p, ⟨by omega, rfl⟩, ⟨fun y => ⟨p, ⟨by omega, rfl⟩, ⟨fun x => absurd y (Int32.not_lt.mpr x), fun _ => xm_cut hm (hout g1 h1 _ (yes ?_ _ e4) _)⟩⟩, fun y => ⟨(20, g1.1 29 11 + nI i, 1, sT σ, vGo (sT σ) (tS (sT σ) + nI i) 1 (sC σ) k), ⟨rfl, vGo_ok h.c _, i1⟩, ?_⟩⟩⟩⟩
          · rw [ep] at y
            have := vPlain_go h.1.1 h.c hp y (n - k)
            rw [show k + (n - k) = n by omega] at this
            rw [hf']; exact this
          · rintro o g3 ⟨rfl, i3, f3⟩
            rw [i1.2.2.1.2.2.2.2.1] at i3
            have nx := ih (k + 1) (by omega) g3 (h1.dr f3.D) i3 v4 e4
            rw [nI_succ] at nx
            exact xm_cut hm nx
      have outer : ∀ d i, i + d = s → ∀ g1, xTop σ g1 → ∀ v4, v4 = vSum (fun i => vB (P i)) i → ∀ w6, xm_go xs_X xk_X8_year [xt_X8_isPerson, xt_X8_isIn, xt_X3_copyFrom, xt_X3_passWeek] xc_X8_year Q (xm_drop 20 xc_X8_year) [.ref 0, .int (nI p), .int (nI n), .int (nI s), .int v4, .int (nI i), w6] [] g1 := by
        intro d
        induction d with
        | zero =>
          intro i hi g1 h1 v4 e4 w6
          have hi : i = s := by omega
          subst hi
          exact xm_run_go hm 40 ⟨fun _ => hQ _ _ h1 e4, fun z => absurd z (nI_nlt (Nat.le_refl _) (by omega))⟩
        | succ d ih =>
          intro i hi g1 h1 v4 e4 w6
          have nx := ih (i + 1) (by omega)
          rw [nI_succ] at nx
          refine xm_run_go hm 40 ⟨fun z => absurd z (nI_ge (by omega) (by omega)), fun _ => ⟨(sT σ, sC σ), ⟨rfl, h1.c, h1.i⟩, ?_⟩⟩
          rintro o g2 ⟨rfl, i2, f2⟩
          exact xm_cut hm (inner i (by omega) nx n 0 (by omega) g2 (h1.dr f2) i2 v4 e4)
      have z3 : (if 1 ≤ nI s ∧ nI s ≤ 20 then (1 : Int32) else 0) = 1 := by rw [if_pos hs]
      refine xm_run_go hm 60 ⟨(nI p, tM (sT σ)), ⟨rfl, h.m⟩, ⟨fun z => ?_, fun _ => ⟨(nI n, 0, 60), ⟨rfl, trivial⟩, ⟨fun z => ?_, fun _ => ⟨(nI s, 1, 20), ⟨rfl, trivial⟩, ⟨fun _ => xm_cut hm (outer s 0 (by omega) g h _ rfl _), fun z => ?_⟩⟩⟩⟩⟩⟩
      · rw [z1] at z; exact absurd z (by decide)
      · rw [z2] at z; exact absurd z (by decide)
      · rw [z3] at z; exact absurd z (by decide)
    · have fin := hQ (some (.int (-1))) g ⟨by rw [no s hs], h⟩
      have z3 : (if 1 ≤ s ∧ s ≤ 20 then (1 : Int32) else 0) = 0 := by rw [if_neg hs]
      refine xm_run_go hm 60 ⟨(nI p, tM (sT σ)), ⟨rfl, h.m⟩, ⟨fun _ => fin, fun _ => ⟨(nI n, 0, 60), ⟨rfl, trivial⟩, ⟨fun _ => fin, fun _ => ⟨(s, 1, 20), ⟨rfl, trivial⟩, ⟨fun z => absurd z3 z, fun _ => fin⟩⟩⟩⟩⟩⟩
def xt_X8_like : xT := xm_rl (Z := vS × Int32) (fun (σ, p) av g => av = [.ref 0, .int p] ∧ xTop σ g) (fun (σ, p) g o g' => o = some (.int (aLike σ p)) ∧ xTop σ g')
set_option maxRecDepth 100000 in
set_option maxHeartbeats 400000 in
theorem xp_X8_like {l : Launch} {D : va_G} {cA : Nat → ClassId} {B : List (Nat × Cell)} : xm_Met l D cA B xs_X 1 yX8_like cX8_like 3 (some .int) xt_X8_like := by
  have hm : xm_monos [xt_X8_isPerson, xt_X3_showing] := ⟨(by first | exact xm_fn_mono _ _ _ | exact xm_rl_mono _ _), (by first | exact xm_fn_mono _ _ _ | exact xm_rl_mono _ _), trivial⟩
  refine xm_meth (own := RX8) (ks := xk_X8_like) (C := xc_X8_like) (Ts := [xt_X8_isPerson, xt_X3_showing]) (by decide +kernel) rfl xm_clsok xs_X_ok xf_X8_ok xi_X8_ok xj_X8_ok (xm_lk xl_X8_128 xp_X8_isPerson (by decide) (xm_lk xl_X8_124 xp_X3_showing (by decide) xm_lk0)) xo_X8_like ?_ ?_
  · rintro av g Q ⟨z, ⟨rfl, -⟩, -⟩
    exact Nat.le_of_ble_eq_true rfl
  · rintro av g Q ⟨⟨σ, p⟩, ⟨rfl, h⟩, hQ⟩
    dsimp only at h hQ
    have m6 := h.m6
    rcases vDo_c (m := tM (sT σ)) p (by omega) with hp | ⟨p, hp, rfl⟩
    · have fin := hQ (some (.int (-1))) g ⟨by rw [aLike, vDo_n hp], h⟩
      refine xm_run_go hm 30 ⟨(p, tM (sT σ)), ⟨rfl, h.m⟩, ⟨fun z => ?_, fun _ => fin⟩⟩
      exact absurd (vIs_n hp) z
    · have z1 := vIs_y hp (by omega : tM (sT σ) < 2 ^ 31)
      have e0 := (h.i.2.2.2.2 p hp).2.1
      refine xm_run_go hm 40 ⟨(nI p, tM (sT σ)), ⟨rfl, h.m⟩, ⟨fun _ => ⟨p, ⟨by omega, rfl⟩, ⟨fun z => ⟨(11, g.1 15 p, sT σ, sC σ), ⟨rfl, h.i⟩, hQ _ _ ⟨?_, h⟩⟩, fun z => hQ _ _ ⟨?_, h⟩⟩⟩, fun z => ?_⟩⟩
      · rw [e0] at z
        rw [aLike, vDo_y hp (by omega), if_neg (Int32.not_lt.mpr z), e0]
      · rw [e0] at z
        rw [aLike, vDo_y hp (by omega), if_pos z]
      · rw [z1] at z; exact absurd z (by decide)
def xt_X8_share : xT := xm_rl (Z := vS × Int32) (fun (σ, p) av g => av = [.ref 0, .int p] ∧ xTop σ g) (fun (σ, p) g o g' => o = some (.int (aShare σ p)) ∧ xTop σ g')
set_option maxRecDepth 100000 in
set_option maxHeartbeats 400000 in
theorem xp_X8_share {l : Launch} {D : va_G} {cA : Nat → ClassId} {B : List (Nat × Cell)} : xm_Met l D cA B xs_X 2 yX8_share cX8_share 3 (some .int) xt_X8_share := by
  have hm : xm_monos [xt_X8_isPerson, xt_X3_shine] := ⟨(by first | exact xm_fn_mono _ _ _ | exact xm_rl_mono _ _), (by first | exact xm_fn_mono _ _ _ | exact xm_rl_mono _ _), trivial⟩
  refine xm_meth (own := RX8) (ks := xk_X8_share) (C := xc_X8_share) (Ts := [xt_X8_isPerson, xt_X3_shine]) (by decide +kernel) rfl xm_clsok xs_X_ok xf_X8_ok xi_X8_ok xj_X8_ok (xm_lk xl_X8_128 xp_X8_isPerson (by decide) (xm_lk xl_X8_262 xp_X3_shine (by decide) xm_lk0)) xo_X8_share ?_ ?_
  · rintro av g Q ⟨z, ⟨rfl, -⟩, -⟩
    exact Nat.le_of_ble_eq_true rfl
  · rintro av g Q ⟨⟨σ, p⟩, ⟨rfl, h⟩, hQ⟩
    dsimp only at h hQ
    have m6 := h.m6
    rcases vDo_c (m := tM (sT σ)) p (by omega) with hp | ⟨p, hp, rfl⟩
    · have fin := hQ (some (.int (-1))) g ⟨by rw [aShare, vDo_n hp], h⟩
      refine xm_run_go hm 30 ⟨(p, tM (sT σ)), ⟨rfl, h.m⟩, ⟨fun z => ?_, fun _ => fin⟩⟩
      exact absurd (vIs_n hp) z
    · have z1 := vIs_y hp (by omega : tM (sT σ) < 2 ^ 31)
      have e0 := (h.i.2.2.2.2 p hp).2.2.1
      refine xm_run_go hm 40 ⟨(nI p, tM (sT σ)), ⟨rfl, h.m⟩, ⟨fun _ => ⟨p, ⟨by omega, rfl⟩, ⟨fun z => ⟨(11, p, sT σ, sC σ), ⟨rfl, hp, h.i⟩, fun y => ?_, hQ _ _ ⟨?_, h⟩⟩, fun z => hQ _ _ ⟨?_, h⟩⟩⟩, fun z => ?_⟩⟩
      · rw [y] at z; exact absurd z (by decide)
      · rw [e0] at z
        rw [aShare, vDo_y hp (by omega), if_neg (Int32.not_le.mpr z), e0]
      · rw [e0] at z
        rw [aShare, vDo_y hp (by omega), if_pos z]
      · rw [z1] at z; exact absurd z (by decide)
def xt_X8_brightest : xT := xm_rl (Z := vS × Int32) (fun (σ, w) av g => av = [.ref 0, .int w] ∧ xTop σ g) (fun (σ, w) g o g' => o = some (.int (aBrightest σ w)) ∧ xTop σ g')
set_option maxRecDepth 100000 in
set_option maxHeartbeats 400000 in
theorem xp_X8_brightest {l : Launch} {D : va_G} {cA : Nat → ClassId} {B : List (Nat × Cell)} : xm_Met l D cA B xs_X 2 yX8_brightest cX8_brightest 6 (some .int) xt_X8_brightest := by
  have hm : xm_monos [xt_X8_isIn, xt_X3_shine] := ⟨(by first | exact xm_fn_mono _ _ _ | exact xm_rl_mono _ _), (by first | exact xm_fn_mono _ _ _ | exact xm_rl_mono _ _), trivial⟩
  refine xm_meth (own := RX8) (ks := xk_X8_brightest) (C := xc_X8_brightest) (Ts := [xt_X8_isIn, xt_X3_shine]) (by decide +kernel) rfl xm_clsok xs_X_ok xf_X8_ok xi_X8_ok xj_X8_ok (xm_lk xl_X8_189 xp_X8_isIn (by decide) (xm_lk xl_X8_262 xp_X3_shine (by decide) xm_lk0)) xo_X8_brightest ?_ ?_
  · rintro av g Q ⟨z, ⟨rfl, -⟩, -⟩
    exact Nat.le_of_ble_eq_true rfl
  · rintro av g Q ⟨⟨σ, w⟩, ⟨rfl, h⟩, hQ⟩
    dsimp only at h hQ
    have m6 := h.m6
    rcases vDo_or (m := 2) w (by omega) with hv | ⟨w, hv, rfl⟩
    · have fin := hQ (some (.int (-1))) g ⟨by rw [aBrightest, if_neg (fun e => hv (by rw [e]; decide)), if_neg (fun e => hv (by rw [e]; decide))], h⟩
      refine xm_run_go hm 30 ⟨(w, 0, 1), ⟨rfl, trivial⟩, ⟨fun z => ?_, fun _ => fin⟩⟩
      exact absurd (vIn_n (k := 1) rfl (by omega) hv) z
    · have z2 := vIn_y (k := 1) (hi := 1) rfl (by omega) hv
      have w1 : ¬ nI w = 0 → nI w = 1 := fun z => by
        have : w ≠ 0 := fun e => z (by rw [e]; rfl)
        rw [show w = 1 by omega]; rfl
      have loop : ∀ d p, p + d = tM (sT σ) → ∀ v2 v3, v2 = (vPk (vShine (sT σ) (sC σ)) p).1 → v3 = (vPk (vShine (sT σ) (sC σ)) p).2.1 → ∀ w5, xm_go xs_X xk_X8_brightest [xt_X8_isIn, xt_X3_shine] xc_X8_brightest Q (xm_drop 13 xc_X8_brightest) [.ref 0, .int (nI w), .int v2, .int v3, .int (nI p), w5] [] g := by
        intro d
        induction d with
        | zero =>
          intro p hp v2 v3 e2 e3 w5
          have hp : p = tM (sT σ) := by omega
          subst hp
          refine xm_run_go hm 40 ⟨fun _ => ⟨fun z => hQ _ _ ⟨?_, h⟩, fun z => ⟨fun y => hQ _ _ ⟨?_, h⟩, fun y => hQ _ _ ⟨?_, h⟩⟩⟩, fun z => ?_⟩
          · rw [aBrightest, if_pos z, e2]
          · rw [e2] at y
            rw [aBrightest, if_neg z, if_pos (w1 z), if_neg y, e3]
          · rw [aBrightest, if_neg z, if_pos (w1 z), y]
            rw [e2] at y
            rw [if_pos y]
          · rw [h.m] at z
            exact absurd z (nI_nlt (Nat.le_refl _) (by omega))
        | succ d ih =>
          intro p hp v2 v3 e2 e3 w5
          have hpm : p < tM (sT σ) := by omega
          have nx := ih (p + 1) (by omega)
          rw [nI_succ] at nx
          refine xm_run_go hm 40 ⟨fun z => ?_, fun _ => ⟨(11, p, sT σ, sC σ), ⟨rfl, hpm, h.i⟩, ⟨fun z => xm_cut hm (nx _ _ ?_ ?_ _), fun z => xm_cut hm (nx _ _ ?_ ?_ _)⟩⟩⟩
          · rw [h.m] at z
            exact absurd z (nI_ge hpm (by omega))
          · rw [e3] at z
            simp only [vPk, if_neg (Int32.not_lt.mpr z)]; exact e2
          · rw [e3] at z
            simp only [vPk, if_neg (Int32.not_lt.mpr z)]; exact e3
          · rw [e3] at z
            simp only [vPk, if_pos z]
          · rw [e3] at z
            simp only [vPk, if_pos z]
      refine xm_run_go hm 40 ⟨(nI w, 0, 1), ⟨rfl, trivial⟩, ⟨fun _ => xm_cut hm (loop (tM (sT σ)) 0 (by omega) _ _ rfl rfl _), fun z => ?_⟩⟩
      rw [z2] at z; exact absurd z (by decide)
def xt_X8_open : xT := xm_rl (Z := vS) (fun σ av g => av = [.ref 0] ∧ xTop σ g) (fun σ g o g' => o = some (.int (aOpen σ)) ∧ xTop σ g')
set_option maxRecDepth 100000 in
set_option maxHeartbeats 400000 in
theorem xp_X8_open {l : Launch} {D : va_G} {cA : Nat → ClassId} {B : List (Nat × Cell)} : xm_Met l D cA B xs_X 1 yX8_open cX8_open 3 (some .int) xt_X8_open := by
  have hm : xm_monos [xt_X3_meet] := ⟨(by first | exact xm_fn_mono _ _ _ | exact xm_rl_mono _ _), trivial⟩
  refine xm_meth (own := RX8) (ks := xk_X8_open) (C := xc_X8_open) (Ts := [xt_X3_meet]) (by decide +kernel) rfl xm_clsok xs_X_ok xf_X8_ok xi_X8_ok xj_X8_ok (xm_lk xl_X8_165 xp_X3_meet (by decide) xm_lk0) xo_X8_open ?_ ?_
  · rintro av g Q ⟨z, ⟨rfl, -⟩, -⟩
    exact Nat.le_of_ble_eq_true rfl
  · rintro av g Q ⟨σ, ⟨rfl, h⟩, hQ⟩
    dsimp only at h hQ
    have m6 := h.m6
    unfold aOpen at hQ
    generalize hP : (fun k => ¬ vJ (sT σ) (sC σ) (cR (sC σ) k) (cR (sC σ) (k + 1))) = P at hQ
    have hP' : ∀ k, P k ↔ ¬ vJ (sT σ) (sC σ) (cR (sC σ) k) (cR (sC σ) (k + 1)) := fun k => by rw [← hP]
    have loop : ∀ d k, k + d = tM (sT σ) - 1 → ∀ v, v = vBits P k → xm_go xs_X xk_X8_open [xt_X3_meet] xc_X8_open Q (xm_drop 4 xc_X8_open) [.ref 0, .int v, .int (nI k)] [] g := by
      intro d
      induction d with
      | zero =>
        intro k hk v hv
        have hk : k = tM (sT σ) - 1 := by omega
        subst hk
        refine xm_run_go hm 20 ⟨fun _ => hQ _ _ ⟨by rw [hv], h⟩, fun z => ?_⟩
        rw [h.m, ← nI_succ] at z
        exact absurd z (nI_nlt (by omega) (by omega))
      | succ d ih =>
        intro k hk v hv
        have nx := ih (k + 1) (by omega)
        rw [nI_succ] at nx
        have r1 := h.i.2.2.2.1.2.2.1 k (by omega)
        have r2 := h.i.2.2.2.1.2.2.1 (k + 1) (by omega)
        have l1 := (h.c.1 k (by omega)).1
        have l2 := (h.c.1 (k + 1) (by omega)).1
        have ea : [Value.ref 11, .int (g.1 13 k), .int (g.1 13 (k + 1))] = [Value.ref 11, .int (nI (cR (sC σ) k)), .int (nI (cR (sC σ) (k + 1)))] := by rw [r1, r2]
        have a6 : cR (sC σ) k < 6 := by omega
        have b6 : cR (sC σ) (k + 1) < 6 := by omega
        refine xm_run_go hm 50 ⟨fun z => ?_, fun _ => ⟨k, ⟨by omega, rfl⟩, k + 1, ⟨by omega, (nI_succ k).symm⟩, (11, cR (sC σ) k, cR (sC σ) (k + 1), sT σ, sC σ), ⟨ea, Or.inl rfl, a6, b6, h.i.2.1, h.i.2.2.1, h.i.st, (h.i.2.2.2.2 _ l1).2.1, (h.i.2.2.2.2 _ l2).2.1⟩, ⟨fun z => xm_cut hm (nx _ ?_), fun z => xm_cut hm (nx _ ?_)⟩⟩⟩
        · rw [h.m, ← nI_succ] at z
          exact absurd z (nI_ge (by omega) (by omega))
        · rw [vBits_f (fun y => z (vB_f ((hP' k).mp y))), hv]
        · rw [vBits_t ((hP' k).mpr (fun y => by rw [vB_t y] at z; exact absurd z (by decide))), hv]
    exact xm_run_go hm 10 (xm_cut hm (loop (tM (sT σ) - 1) 0 (by omega) _ rfl))
def xt_X5_allWarm : xT := xm_fn (Z := vSt) (fun t av g => av = [.ref 29] ∧ vTok t ∧ xSto 29 t g) (fun t _ => some (.int (vSum (tW t) (tM t)))) (fun _ g => g)
set_option maxRecDepth 100000 in
set_option maxHeartbeats 400000 in
theorem xp_X5_allWarm {l : Launch} {D : va_G} {cA : Nat → ClassId} {B : List (Nat × Cell)} : xm_Met l D cA B xs_X 0 yX5_allWarm cX5_allWarm 3 (some .int) xt_X5_allWarm := by
  have hm : xm_monos [] := xm_m0
  refine xm_meth (own := RX5) (ks := xk_X5_allWarm) (C := xc_X5_allWarm) (Ts := []) (by decide +kernel) rfl xm_clsok xs_X_ok xf_X5_ok xi_X5_ok xj_X5_ok xm_lk0 xo_X5_allWarm ?_ ?_
  · rintro av g Q ⟨z, ⟨rfl, -⟩, -⟩
    exact Nat.le_of_ble_eq_true rfl
  · rintro av g Q ⟨t, ⟨rfl, ht, hs⟩, hQ⟩
    dsimp only at ht hs hQ
    have m6 := ht.2.1
    have loop : ∀ d k, k + d = tM t → ∀ v, v = vSum (tW t) k → xm_go xs_X xk_X5_allWarm [] xc_X5_allWarm Q (xm_drop 4 xc_X5_allWarm) [.ref 29, .int v, .int (nI k)] [] g := by
      intro d
      induction d with
      | zero =>
        intro k hk v hv
        have hk : k = tM t := by omega
        subst hk
        refine xm_run_go hm 20 ⟨fun _ => xq_i hQ hv, fun q => ?_⟩
        rw [hs.2.1] at q
        exact absurd q (nI_nlt (Nat.le_refl _) (by omega))
      | succ d ih =>
        intro k hk v hv
        have nx := ih (k + 1) (by omega)
        rw [nI_succ] at nx
        refine xm_run_go hm 20 ⟨fun q => ?_, fun _ => ⟨k, ⟨by omega, rfl⟩, xm_cut hm (nx _ ?_)⟩⟩
        · rw [hs.2.1] at q
          exact absurd q (nI_ge (by omega) (by omega))
        · rw [vSum, hv, hs.2.2.2.1 k (by omega)]
    exact xm_run_go hm 10 (xm_cut hm (loop (tM t) 0 (by omega) _ rfl))
noncomputable def aCount2 (σ : vS) (w : Int32) : Int32 :=
  if w = 12 then vBits (fun s => ¬ vShow (sT σ) (sC σ) (nI s) = 0) (tN (sT σ)) else if w = 13 then vWashers (sT σ) (sC σ) (tS (sT σ))
  else if w = 14 then vSum (fun p => nI (ub_ct (vNx (sT σ) (sC σ) p))) (tM (sT σ)) else if w = 15 then vSum (tW (sT σ)) (tM (sT σ)) else if w = 16 then vBits (fun p => nI (vJoins (sT σ) (sC σ) p) = 2) (tM (sT σ)) else if w = 17 then nI (ub_ct (vLonely (sT σ) (sC σ))) else -1
def xt_X8_countMore : xT := xm_rl (Z := vS × Int32) (fun (σ, w) av g => av = [.ref 0, .int w] ∧ xTop σ g) (fun (σ, w) g o g' => o = some (.int (aCount2 σ w)) ∧ xTop σ g')
theorem vLonely_lt {t : vSt} (h : vTok t) (c : vSc) : vLonely t c < 64 := by
  refine ub_andlt _ ?_
  have : 2 ^ tM t ≤ 2 ^ 6 := Nat.pow_le_pow_right (by omega) h.2.1
  omega
set_option maxRecDepth 100000 in
set_option maxHeartbeats 400000 in
theorem xp_X8_countMore {l : Launch} {D : va_G} {cA : Nat → ClassId} {B : List (Nat × Cell)} : xm_Met l D cA B xs_X 5 yX8_countMore cX8_countMore 2 (some .int) xt_X8_countMore := by
  have hm : xm_monos [xt_X3_pictures, xt_X3_washers, xt_X8_allMeetings, xt_X5_allWarm, xt_X3_twiceJoined, xt_X8_lonely, xt_J6_bitCount_0f7a4] := ⟨(by first | exact xm_fn_mono _ _ _ | exact xm_rl_mono _ _), (by first | exact xm_fn_mono _ _ _ | exact xm_rl_mono _ _), (by first | exact xm_fn_mono _ _ _ | exact xm_rl_mono _ _), (by first | exact xm_fn_mono _ _ _ | exact xm_rl_mono _ _), (by first | exact xm_fn_mono _ _ _ | exact xm_rl_mono _ _), (by first | exact xm_fn_mono _ _ _ | exact xm_rl_mono _ _), (by first | exact xm_fn_mono _ _ _ | exact xm_rl_mono _ _), trivial⟩
  refine xm_meth (own := RX8) (ks := xk_X8_countMore) (C := xc_X8_countMore) (Ts := [xt_X3_pictures, xt_X3_washers, xt_X8_allMeetings, xt_X5_allWarm, xt_X3_twiceJoined, xt_X8_lonely, xt_J6_bitCount_0f7a4]) (by decide +kernel) rfl xm_clsok xs_X_ok xf_X8_ok xi_X8_ok xj_X8_ok (xm_lk xl_X8_307 xp_X3_pictures (by decide) (xm_lk xl_X8_310 xp_X3_washers (by decide) (xm_lk xl_X8_313 xp_X8_allMeetings (by decide) (xm_lk xl_X8_316 xp_X5_allWarm (by decide) (xm_lk xl_X8_319 xp_X3_twiceJoined (by decide) (xm_lk xl_X8_322 xp_X8_lonely (by decide) (xm_lk xl_X8_272 xp_J6_bitCount_0f7a4 (by decide) xm_lk0))))))) xo_X8_countMore ?_ ?_
  · rintro av g Q ⟨z, ⟨rfl, -⟩, -⟩
    exact Nat.le_of_ble_eq_true rfl
  · rintro av g Q ⟨⟨σ, w⟩, ⟨rfl, h⟩, hQ⟩
    dsimp only at h hQ
    unfold aCount2 at hQ
    refine xm_run_go hm 40 ⟨fun z => ⟨(11, sT σ, sC σ), ⟨rfl, h.i⟩, hQ _ _ ⟨?_, h⟩⟩, fun z0 => ⟨fun z => ⟨(11, g.1 29 11, sT σ, sC σ), ⟨rfl, h.i⟩, ?_⟩, fun z1 => ⟨fun z => ⟨σ, ⟨rfl, h⟩, ?_⟩, fun z2 => ⟨fun z => ⟨sT σ, ⟨rfl, h.1.1, h.i.2.2.1⟩, hQ _ _ ⟨?_, h⟩⟩, fun z3 => ⟨fun z => ⟨(11, sT σ, sC σ), ⟨rfl, h.i⟩, hQ _ _ ⟨?_, h⟩⟩, fun z4 => ⟨fun z => ⟨σ, ⟨rfl, h⟩, ?_⟩, fun z5 => hQ _ _ ⟨?_, h⟩⟩⟩⟩⟩⟩⟩
    · rw [if_pos z]
    · rintro o g1 ⟨rfl, f1⟩
      exact hQ _ _ ⟨by rw [if_neg z0, if_pos z, h.i.2.2.1.2.2.2.2.1], h.Q (f1.Q (by omega))⟩
    · rintro o g1 ⟨rfl, h1⟩
      exact hQ _ _ ⟨by rw [if_neg z0, if_neg z1, if_pos z], h1⟩
    · rw [if_neg z0, if_neg z1, if_neg z2, if_pos z]
    · rw [if_neg z0, if_neg z1, if_neg z2, if_neg z3, if_pos z]
    · rintro o g1 ⟨rfl, h1⟩
      exact ⟨nI (vLonely (sT σ) (sC σ)), ⟨rfl, trivial⟩, hQ _ _ ⟨by rw [if_neg z0, if_neg z1, if_neg z2, if_neg z3, if_neg z4, if_pos z, xBc_ct _ (vLonely_lt h.1.1 _)], h1⟩⟩
    · rw [if_neg z0, if_neg z1, if_neg z2, if_neg z3, if_neg z4, if_neg z5]
theorem vMask_lt (sl : Nat → Option vSc) : vMask sl < 64 := by
  unfold vMask
  split <;> split <;> split <;> omega
def xt_X8_count : xT := xm_rl (Z := vS × Int32) (fun (σ, w) av g => av = [.ref 0, .int w] ∧ xTop σ g) (fun (σ, w) g o g' => o = some (.int (aCount σ w)) ∧ xTop σ g')
set_option maxRecDepth 100000 in
set_option maxHeartbeats 400000 in
theorem xp_X8_count {l : Launch} {D : va_G} {cA : Nat → ClassId} {B : List (Nat × Cell)} : xm_Met l D cA B xs_X 6 yX8_count cX8_count 2 (some .int) xt_X8_count := by
  have hm : xm_monos [xt_X3_rowJoins, xt_X3_plainOnes, xt_X3_allPays, xt_X3_allGlows, xt_J6_bitCount_0f7a4, xt_X8_countMore] := ⟨(by first | exact xm_fn_mono _ _ _ | exact xm_rl_mono _ _), (by first | exact xm_fn_mono _ _ _ | exact xm_rl_mono _ _), (by first | exact xm_fn_mono _ _ _ | exact xm_rl_mono _ _), (by first | exact xm_fn_mono _ _ _ | exact xm_rl_mono _ _), (by first | exact xm_fn_mono _ _ _ | exact xm_rl_mono _ _), (by first | exact xm_fn_mono _ _ _ | exact xm_rl_mono _ _), trivial⟩
  refine xm_meth (own := RX8) (ks := xk_X8_count) (C := xc_X8_count) (Ts := [xt_X3_rowJoins, xt_X3_plainOnes, xt_X3_allPays, xt_X3_allGlows, xt_J6_bitCount_0f7a4, xt_X8_countMore]) (by decide +kernel) rfl xm_clsok xs_X_ok xf_X8_ok xi_X8_ok xj_X8_ok (xm_lk xl_X8_247 xp_X3_rowJoins (by decide) (xm_lk xl_X8_289 xp_X3_plainOnes (by decide) (xm_lk xl_X8_292 xp_X3_allPays (by decide) (xm_lk xl_X8_295 xp_X3_allGlows (by decide) (xm_lk xl_X8_272 xp_J6_bitCount_0f7a4 (by decide) (xm_lk xl_X8_304 xp_X8_countMore (by decide) xm_lk0)))))) xo_X8_count ?_ ?_
  · rintro av g Q ⟨z, ⟨rfl, -⟩, -⟩
    exact Nat.le_of_ble_eq_true rfl
  · rintro av g Q ⟨⟨σ, w⟩, ⟨rfl, h⟩, hQ⟩
    dsimp only at h hQ
    unfold aCount at hQ
    refine xm_run_go hm 40 ⟨fun z => hQ _ _ ⟨?_, h⟩, fun z0 => ⟨fun z => hQ _ _ ⟨?_, h⟩, fun z1 => ⟨fun z => hQ _ _ ⟨?_, h⟩, fun z2 => ⟨fun z => ⟨(11, sT σ, sC σ), ⟨rfl, h.i⟩, hQ _ _ ⟨?_, h⟩⟩, fun z3 => ⟨fun z => ⟨(11, sT σ, sC σ), ⟨rfl, h.i⟩, hQ _ _ ⟨?_, h⟩⟩, fun z4 => ⟨fun z => ⟨(11, sT σ, sC σ), ⟨rfl, h.i⟩, ?_⟩, fun z5 => ⟨fun z => hQ _ _ ⟨?_, h⟩, fun z6 => ⟨fun z => ⟨(11, sT σ, sC σ), ⟨rfl, h.i⟩, hQ _ _ ⟨?_, h⟩⟩, fun z7 => ⟨fun z => hQ _ _ ⟨?_, h⟩, fun z8 => ⟨fun z => hQ _ _ ⟨?_, h⟩, fun z9 => ⟨fun z => hQ _ _ ⟨?_, h⟩, fun z10 => ⟨fun z => ⟨g.1 47 1, ⟨rfl, trivial⟩, hQ _ _ ⟨?_, h⟩⟩, fun z11 => ⟨(σ, w), ⟨rfl, h⟩, ?_⟩⟩⟩⟩⟩⟩⟩⟩⟩⟩⟩⟩⟩
    · rw [if_pos z, h.n]
    · rw [if_neg z0, if_pos z, h.m]
    · rw [if_neg z0, if_neg z1, if_pos z, h.i.2.2.2.1.2.2.2.1]
    · rw [if_neg z0, if_neg z1, if_neg z2, if_pos z]
    · rw [if_neg z0, if_neg z1, if_neg z2, if_neg z3, if_pos z]
    · rintro o g1 ⟨rfl, f1⟩
      exact hQ _ _ ⟨by rw [if_neg z0, if_neg z1, if_neg z2, if_neg z3, if_neg z4, if_pos z], h.Q (f1.Q (by omega))⟩
    · rw [if_neg z0, if_neg z1, if_neg z2, if_neg z3, if_neg z4, if_neg z5, if_pos z, h.i.2.2.2.1.2.2.2.2]
    · rw [if_neg z0, if_neg z1, if_neg z2, if_neg z3, if_neg z4, if_neg z5, if_neg z6, if_pos z]
    · rw [if_neg z0, if_neg z1, if_neg z2, if_neg z3, if_neg z4, if_neg z5, if_neg z6, if_neg z7, if_pos z, h.2.2.1.1]
    · obtain ⟨o, -, e, -⟩ := h.2.2.2.2.1.2.1
      rw [if_neg z0, if_neg z1, if_neg z2, if_neg z3, if_neg z4, if_neg z5, if_neg z6, if_neg z7, if_neg z8, if_pos z, e]
    · rw [if_neg z0, if_neg z1, if_neg z2, if_neg z3, if_neg z4, if_neg z5, if_neg z6, if_neg z7, if_neg z8, if_neg z9, if_pos z, h.2.2.2.2.2.1]
    · rw [if_neg z0, if_neg z1, if_neg z2, if_neg z3, if_neg z4, if_neg z5, if_neg z6, if_neg z7, if_neg z8, if_neg z9, if_neg z10, if_pos z, h.2.2.2.2.1.2.2.1, xBc_ct _ (vMask_lt _)]
    · rintro o g1 ⟨rfl, h1⟩
      refine hQ _ _ ⟨?_, h1⟩
      rw [if_neg z0, if_neg z1, if_neg z2, if_neg z3, if_neg z4, if_neg z5, if_neg z6, if_neg z7, if_neg z8, if_neg z9, if_neg z10, if_neg z11]
      rfl
