-- what is there
theorem vDo_c {m : Nat} (x : Int32) (hm : m ≤ 6) : (¬ (0 ≤ x ∧ x < nI m)) ∨ ∃ p, p < m ∧ x = nI p := vDo_or x (by omega)
def xt_X8_slide : xT := xm_rl (Z := vS × Int32 × Int32) (fun (σ, s, w) av g => av = [.ref 0, .int s, .int w] ∧ xTop σ g) (fun (σ, s, w) g o g' => o = some (.int (aSlide σ s w)) ∧ xTop σ g')
set_option maxRecDepth 100000 in
set_option maxHeartbeats 400000 in
theorem xp_X8_slide {l : Launch} {D : va_G} {cA : Nat → ClassId} {B : List (Nat × Cell)} : xm_Met l D cA B xs_X 1 yX8_slide cX8_slide 3 (some .int) xt_X8_slide := by
  have hm : xm_monos [xt_X8_isSlide, xt_X3_showing] := ⟨(by first | exact xm_fn_mono _ _ _ | exact xm_rl_mono _ _), (by first | exact xm_fn_mono _ _ _ | exact xm_rl_mono _ _), trivial⟩
  refine xm_meth (own := RX8) (ks := xk_X8_slide) (C := xc_X8_slide) (Ts := [xt_X8_isSlide, xt_X3_showing]) (by decide +kernel) rfl xm_clsok xs_X_ok xf_X8_ok xi_X8_ok xj_X8_ok (xm_lk xl_X8_110 xp_X8_isSlide (by decide) (xm_lk xl_X8_124 xp_X3_showing (by decide) xm_lk0)) xo_X8_slide ?_ ?_
  · rintro av g Q ⟨z, ⟨rfl, -⟩, -⟩
    exact Nat.le_of_ble_eq_true rfl
  · rintro av g Q ⟨⟨σ, s, w⟩, ⟨rfl, h⟩, hQ⟩
    dsimp only at h hQ
    have n5 := h.n5
    rcases vDo_c (m := tN (sT σ)) s (by omega) with hs | ⟨s, hs, rfl⟩
    · have fin := hQ (some (.int (-1))) g ⟨by rw [aSlide, vDo_n hs], h⟩
      refine xm_run_go hm 20 ⟨(s, tN (sT σ)), ⟨rfl, h.n⟩, ⟨fun z => ?_, fun _ => fin⟩⟩
      exact absurd (vIs_n hs) z
    · have fin : ∀ v, v = (if w = 0 then tL (sT σ) s else if w = 1 then tR (sT σ) s else if w = 2 then tB (sT σ) s else if w = 3 then vShow (sT σ) (sC σ) (nI s) else -1) → Q (some (.int v)) g := fun v hv => hQ _ _ ⟨by rw [aSlide, vDo_y hs (by omega), hv], h⟩
      obtain ⟨e1, e2, e3⟩ := h.i.2.2.1.2.2.1 s hs
      have s5 : s < 5 := by omega
      refine xm_run_go hm 40 ⟨(nI s, tN (sT σ)), ⟨rfl, h.n⟩, ⟨fun _ => ⟨fun z => ⟨s, ⟨s5, rfl⟩, fin _ ?_⟩, fun z0 => ⟨fun z => ⟨s, ⟨s5, rfl⟩, fin _ ?_⟩, fun z1 => ⟨fun z => ⟨s, ⟨s5, rfl⟩, fin _ ?_⟩, fun z2 => ⟨fun z => ⟨(11, nI s, sT σ, sC σ), ⟨rfl, h.i⟩, fin _ ?_⟩, fun z3 => fin _ ?_⟩⟩⟩⟩, fun z => ?_⟩⟩
      · rw [if_pos z]; exact e1
      · rw [if_neg z0, if_pos z]; exact e2
      · rw [if_neg z0, if_neg z1, if_pos z]; exact e3
      · rw [if_neg z0, if_neg z1, if_neg z2, if_pos z]
      · rw [if_neg z0, if_neg z1, if_neg z2, if_neg z3]
      · rw [vIs_y hs (by omega)] at z; exact absurd z (by decide)
def xt_X8_person : xT := xm_rl (Z := vS × Int32 × Int32) (fun (σ, s, w) av g => av = [.ref 0, .int s, .int w] ∧ xTop σ g) (fun (σ, s, w) g o g' => o = some (.int (aPerson σ s w)) ∧ xTop σ g')
set_option maxRecDepth 100000 in
set_option maxHeartbeats 400000 in
theorem xp_X8_person {l : Launch} {D : va_G} {cA : Nat → ClassId} {B : List (Nat × Cell)} : xm_Met l D cA B xs_X 4 yX8_person cX8_person 3 (some .int) xt_X8_person := by
  have hm : xm_monos [xt_X8_isPerson, xt_X3_pays, xt_X3_washes] := ⟨(by first | exact xm_fn_mono _ _ _ | exact xm_rl_mono _ _), (by first | exact xm_fn_mono _ _ _ | exact xm_rl_mono _ _), (by first | exact xm_fn_mono _ _ _ | exact xm_rl_mono _ _), trivial⟩
  refine xm_meth (own := RX8) (ks := xk_X8_person) (C := xc_X8_person) (Ts := [xt_X8_isPerson, xt_X3_pays, xt_X3_washes]) (by decide +kernel) rfl xm_clsok xs_X_ok xf_X8_ok xi_X8_ok xj_X8_ok (xm_lk xl_X8_128 xp_X8_isPerson (by decide) (xm_lk xl_X8_143 xp_X3_pays (by decide) (xm_lk xl_X8_146 xp_X3_washes (by decide) xm_lk0))) xo_X8_person ?_ ?_
  · rintro av g Q ⟨z, ⟨rfl, -⟩, -⟩
    exact Nat.le_of_ble_eq_true rfl
  · rintro av g Q ⟨⟨σ, p, w⟩, ⟨rfl, h⟩, hQ⟩
    dsimp only at h hQ
    have m6 := h.m6
    rcases vDo_c (m := tM (sT σ)) p (by omega) with hp | ⟨p, hp, rfl⟩
    · have fin := hQ (some (.int (-1))) g ⟨by rw [aPerson, vDo_n hp], h⟩
      refine xm_run_go hm 20 ⟨(p, tM (sT σ)), ⟨rfl, h.m⟩, ⟨fun z => ?_, fun _ => fin⟩⟩
      exact absurd (vIs_n hp) z
    · have fin : ∀ v g', xTop σ g' → v = (if w = 0 then tW (sT σ) p else if w = 1 then vPic (sT σ) (sC σ) p else if w = 2 then nI (cS (sC σ) p) else if w = 3 then nI (vJoins (sT σ) (sC σ) p) else if w = 4 then vPays (sT σ) (sC σ) p else if w = 5 then vWashes (sT σ) (sC σ) p else if w = 6 then vTot (sT σ) (sC σ) p else -1) → Q (some (.int v)) g' := fun v g' h' hv => hQ _ _ ⟨by rw [aPerson, vDo_y hp (by omega), hv], h'⟩
      obtain ⟨e1, e2, e3, e4⟩ := h.i.2.2.2.2 p hp
      have p6 : p < 6 := by omega
      refine xm_run_go hm 40 ⟨(nI p, tM (sT σ)), ⟨rfl, h.m⟩, ⟨fun _ => ⟨fun z => ⟨p, ⟨p6, rfl⟩, fin _ g h ?_⟩, fun z0 => ⟨fun z => ⟨p, ⟨p6, rfl⟩, fin _ g h ?_⟩, fun z1 => ⟨fun z => ⟨p, ⟨p6, rfl⟩, fin _ g h ?_⟩, fun z2 => ⟨fun z => ⟨p, ⟨p6, rfl⟩, fin _ g h ?_⟩, fun z3 => ⟨fun z => ⟨(11, p, sT σ, sC σ), ⟨rfl, hp, h.i⟩, ?_⟩, fun z4 => ⟨fun z => ⟨(11, p, sT σ, sC σ), ⟨rfl, hp, h.i⟩, ?_⟩, fun z5 => ⟨fun z => ⟨p, ⟨p6, rfl⟩, fin _ g h ?_⟩, fun z6 => fin _ g h ?_⟩⟩⟩⟩⟩⟩⟩, fun z => ?_⟩⟩
      · rw [if_pos z]; exact h.i.2.2.1.2.2.2.1 p hp
      · rw [if_neg z0, if_pos z]; exact e2
      · rw [if_neg z0, if_neg z1, if_pos z]; exact e1
      · rw [if_neg z0, if_neg z1, if_neg z2, if_pos z]; exact e4
      · rintro o g1 ⟨rfl, hf⟩
        refine fin _ g1 (h.Q (hf.Q (by omega))) ?_
        rw [if_neg z0, if_neg z1, if_neg z2, if_neg z3, if_pos z]
      · rintro o g1 ⟨rfl, hf⟩
        refine fin _ g1 (h.Q (hf.Q (by omega))) ?_
        rw [if_neg z0, if_neg z1, if_neg z2, if_neg z3, if_neg z4, if_pos z]
      · rw [if_neg z0, if_neg z1, if_neg z2, if_neg z3, if_neg z4, if_neg z5, if_pos z]; exact e3
      · rw [if_neg z0, if_neg z1, if_neg z2, if_neg z3, if_neg z4, if_neg z5, if_neg z6]
      · rw [vIs_y hp (by omega)] at z; exact absurd z (by decide)
def xt_X8_glow : xT := xm_rl (Z := vS × Int32 × Int32) (fun (σ, p, s) av g => av = [.ref 0, .int p, .int s] ∧ xTop σ g) (fun (σ, p, s) g o g' => o = some (.int (aGlow σ p s)) ∧ xTop σ g')
set_option maxRecDepth 100000 in
set_option maxHeartbeats 400000 in
theorem xp_X8_glow {l : Launch} {D : va_G} {cA : Nat → ClassId} {B : List (Nat × Cell)} : xm_Met l D cA B xs_X 1 yX8_glow cX8_glow 3 (some .int) xt_X8_glow := by
  have hm : xm_monos [xt_X8_isPerson, xt_X8_isSlide, xt_X3_cell] := ⟨(by first | exact xm_fn_mono _ _ _ | exact xm_rl_mono _ _), (by first | exact xm_fn_mono _ _ _ | exact xm_rl_mono _ _), (by first | exact xm_fn_mono _ _ _ | exact xm_rl_mono _ _), trivial⟩
  refine xm_meth (own := RX8) (ks := xk_X8_glow) (C := xc_X8_glow) (Ts := [xt_X8_isPerson, xt_X8_isSlide, xt_X3_cell]) (by decide +kernel) rfl xm_clsok xs_X_ok xf_X8_ok xi_X8_ok xj_X8_ok (xm_lk xl_X8_128 xp_X8_isPerson (by decide) (xm_lk xl_X8_110 xp_X8_isSlide (by decide) (xm_lk xl_X8_155 xp_X3_cell (by decide) xm_lk0))) xo_X8_glow ?_ ?_
  · rintro av g Q ⟨z, ⟨rfl, -⟩, -⟩
    exact Nat.le_of_ble_eq_true rfl
  · rintro av g Q ⟨⟨σ, p, s⟩, ⟨rfl, h⟩, hQ⟩
    dsimp only at h hQ
    have m6 := h.m6
    have n5 := h.n5
    rcases vDo_c (m := tM (sT σ)) p (by omega) with hp | ⟨p, hp, rfl⟩
    · have fin := hQ (some (.int (-1))) g ⟨by rw [aGlow, vDo_n hp], h⟩
      refine xm_run_go hm 30 ⟨(p, tM (sT σ)), ⟨rfl, h.m⟩, ⟨fun _ => fin, fun z => ?_⟩⟩
      exact absurd (vIs_n hp) z
    · have z1 := vIs_y hp (by omega : tM (sT σ) < 2 ^ 31)
      rcases vDo_c (m := tN (sT σ)) s (by omega) with hs | ⟨s, hs, rfl⟩
      · have fin := hQ (some (.int (-1))) g ⟨by rw [aGlow, vDo_y hp (by omega), vDo_n hs], h⟩
        refine xm_run_go hm 30 ⟨(nI p, tM (sT σ)), ⟨rfl, h.m⟩, ⟨fun _ => fin, fun _ => ⟨(s, tN (sT σ)), ⟨rfl, h.n⟩, ⟨fun z => ?_, fun _ => fin⟩⟩⟩⟩
        exact absurd (vIs_n hs) z
      · have z2 := vIs_y hs (by omega : tN (sT σ) < 2 ^ 31)
        refine xm_run_go hm 30 ⟨(nI p, tM (sT σ)), ⟨rfl, h.m⟩, ⟨fun z => ?_, fun _ => ⟨(nI s, tN (sT σ)), ⟨rfl, h.n⟩, ⟨fun _ => ⟨(nI p, nI s), ⟨rfl, trivial⟩, p * 5 + s, ⟨by omega, xn_cell p s⟩, hQ _ _ ⟨?_, h⟩⟩, fun z => ?_⟩⟩⟩⟩
        · rw [z1] at z; exact absurd z (by decide)
        · rw [aGlow, vDo_y hp (by omega), vDo_y hs (by omega), h.i.2.2.2.1.2.1 (p * 5 + s) (by omega)]
        · rw [z2] at z; exact absurd z (by decide)
def xt_X8_tells : xT := xm_rl (Z := vS × Int32 × Int32 × Int32) (fun (σ, p, s, w) av g => av = [.ref 0, .int p, .int s, .int w] ∧ xTop σ g) (fun (σ, p, s, w) g o g' => o = some (.int (aTells σ p s w)) ∧ xTop σ g')
set_option maxRecDepth 100000 in
set_option maxHeartbeats 400000 in
theorem xp_X8_tells {l : Launch} {D : va_G} {cA : Nat → ClassId} {B : List (Nat × Cell)} : xm_Met l D cA B xs_X 4 yX8_tells cX8_tells 4 (some .int) xt_X8_tells := by
  have hm : xm_monos [xt_X8_isPerson, xt_X8_isSlide, xt_X3_takes, xt_X3_fades] := ⟨(by first | exact xm_fn_mono _ _ _ | exact xm_rl_mono _ _), (by first | exact xm_fn_mono _ _ _ | exact xm_rl_mono _ _), (by first | exact xm_fn_mono _ _ _ | exact xm_rl_mono _ _), (by first | exact xm_fn_mono _ _ _ | exact xm_rl_mono _ _), trivial⟩
  refine xm_meth (own := RX8) (ks := xk_X8_tells) (C := xc_X8_tells) (Ts := [xt_X8_isPerson, xt_X8_isSlide, xt_X3_takes, xt_X3_fades]) (by decide +kernel) rfl xm_clsok xs_X_ok xf_X8_ok xi_X8_ok xj_X8_ok (xm_lk xl_X8_128 xp_X8_isPerson (by decide) (xm_lk xl_X8_110 xp_X8_isSlide (by decide) (xm_lk xl_X8_159 xp_X3_takes (by decide) (xm_lk xl_X8_162 xp_X3_fades (by decide) xm_lk0)))) xo_X8_tells ?_ ?_
  · rintro av g Q ⟨z, ⟨rfl, -⟩, -⟩
    exact Nat.le_of_ble_eq_true rfl
  · rintro av g Q ⟨⟨σ, p, s, w⟩, ⟨rfl, h⟩, hQ⟩
    dsimp only at h hQ
    have m6 := h.m6
    have n5 := h.n5
    rcases vDo_c (m := tM (sT σ)) p (by omega) with hp | ⟨p, hp, rfl⟩
    · have fin := hQ (some (.int (-1))) g ⟨by rw [aTells, vDo_n hp], h⟩
      refine xm_run_go hm 30 ⟨(p, tM (sT σ)), ⟨rfl, h.m⟩, ⟨fun _ => fin, fun z => ?_⟩⟩
      exact absurd (vIs_n hp) z
    · have z1 := vIs_y hp (by omega : tM (sT σ) < 2 ^ 31)
      rcases vDo_c (m := tN (sT σ)) s (by omega) with hs | ⟨s, hs, rfl⟩
      · have fin := hQ (some (.int (-1))) g ⟨by rw [aTells, vDo_y hp (by omega), vDo_n hs], h⟩
        refine xm_run_go hm 30 ⟨(nI p, tM (sT σ)), ⟨rfl, h.m⟩, ⟨fun _ => fin, fun _ => ⟨(s, tN (sT σ)), ⟨rfl, h.n⟩, ⟨fun z => ?_, fun _ => fin⟩⟩⟩⟩
        exact absurd (vIs_n hs) z
      · have z2 := vIs_y hs (by omega : tN (sT σ) < 2 ^ 31)
        have fin : ∀ v g', xTop σ g' → v = (if w = 0 then vTakes (sT σ) (sC σ) p (nI s) else if w = 1 then vFades (sT σ) (sC σ) p (nI s) else -1) → Q (some (.int v)) g' := fun v g' h' hv => hQ _ _ ⟨by rw [aTells, vDo_y hp (by omega), vDo_y hs (by omega), hv], h'⟩
        refine xm_run_go hm 30 ⟨(nI p, tM (sT σ)), ⟨rfl, h.m⟩, ⟨fun z => ?_, fun _ => ⟨(nI s, tN (sT σ)), ⟨rfl, h.n⟩, ⟨fun _ => ⟨fun z => ⟨(11, p, s, sT σ, sC σ), ⟨rfl, hp, hs, h.i⟩, ?_⟩, fun y0 => ⟨fun z => ⟨(11, p, s, sT σ, sC σ), ⟨rfl, hp, hs, h.i⟩, ?_⟩, fun y1 => fin _ g h ?_⟩⟩, fun z => ?_⟩⟩⟩⟩
        · rw [z1] at z; exact absurd z (by decide)
        · rintro o g1 ⟨rfl, hf⟩
          exact fin _ g1 (h.Q (hf.Q (by omega))) (by rw [if_pos z])
        · rintro o g1 ⟨rfl, hf⟩
          exact fin _ g1 (h.Q (hf.Q (by omega))) (by rw [if_neg y0, if_pos z])
        · rw [if_neg y0, if_neg y1]
        · rw [z2] at z; exact absurd z (by decide)
def xt_X8_join : xT := xm_rl (Z := vS × Int32 × Int32) (fun (σ, p, s) av g => av = [.ref 0, .int p, .int s] ∧ xTop σ g) (fun (σ, p, s) g o g' => o = some (.int (aJoin σ p s)) ∧ xTop σ g')
set_option maxRecDepth 100000 in
set_option maxHeartbeats 400000 in
theorem xp_X8_join {l : Launch} {D : va_G} {cA : Nat → ClassId} {B : List (Nat × Cell)} : xm_Met l D cA B xs_X 1 yX8_join cX8_join 3 (some .int) xt_X8_join := by
  have hm : xm_monos [xt_X8_isPerson, xt_X3_meet] := ⟨(by first | exact xm_fn_mono _ _ _ | exact xm_rl_mono _ _), (by first | exact xm_fn_mono _ _ _ | exact xm_rl_mono _ _), trivial⟩
  refine xm_meth (own := RX8) (ks := xk_X8_join) (C := xc_X8_join) (Ts := [xt_X8_isPerson, xt_X3_meet]) (by decide +kernel) rfl xm_clsok xs_X_ok xf_X8_ok xi_X8_ok xj_X8_ok (xm_lk xl_X8_128 xp_X8_isPerson (by decide) (xm_lk xl_X8_165 xp_X3_meet (by decide) xm_lk0)) xo_X8_join ?_ ?_
  · rintro av g Q ⟨z, ⟨rfl, -⟩, -⟩
    exact Nat.le_of_ble_eq_true rfl
  · rintro av g Q ⟨⟨σ, p, s⟩, ⟨rfl, h⟩, hQ⟩
    dsimp only at h hQ
    have m6 := h.m6
    rcases vDo_c (m := tM (sT σ)) p (by omega) with hp | ⟨p, hp, rfl⟩
    · have fin := hQ (some (.int (-1))) g ⟨by rw [aJoin, vDo_n hp], h⟩
      refine xm_run_go hm 30 ⟨(p, tM (sT σ)), ⟨rfl, h.m⟩, ⟨fun _ => fin, fun z => ?_⟩⟩
      exact absurd (vIs_n hp) z
    · have z1 := vIs_y hp (by omega : tM (sT σ) < 2 ^ 31)
      rcases vDo_c (m := tM (sT σ)) s (by omega) with hs | ⟨s, hs, rfl⟩
      · have fin := hQ (some (.int (-1))) g ⟨by rw [aJoin, vDo_y hp (by omega), vDo_n hs], h⟩
        refine xm_run_go hm 30 ⟨(nI p, tM (sT σ)), ⟨rfl, h.m⟩, ⟨fun _ => fin, fun _ => ⟨(s, tM (sT σ)), ⟨rfl, h.m⟩, ⟨fun _ => fin, fun z => ?_⟩⟩⟩⟩
        exact absurd (vIs_n hs) z
      · have z2 := vIs_y hs (by omega : tM (sT σ) < 2 ^ 31)
        have p6 : p < 6 := by omega
        have s6 : s < 6 := by omega
        refine xm_run_go hm 40 ⟨(nI p, tM (sT σ)), ⟨rfl, h.m⟩, ⟨fun z => ?_, fun _ => ⟨(nI s, tM (sT σ)), ⟨rfl, h.m⟩, ⟨fun z => ?_, fun _ => ⟨fun z => ⟨(11, p, s, sT σ, sC σ), ⟨rfl, Or.inl rfl, p6, s6, h.i.2.1, h.i.2.2.1, h.i.st, (h.i.2.2.2.2 p hp).2.1, (h.i.2.2.2.2 s hs).2.1⟩, ⟨fun y => hQ _ _ ⟨?_, h⟩, fun y => hQ _ _ ⟨?_, h⟩⟩⟩, fun z => hQ _ _ ⟨?_, h⟩⟩⟩⟩⟩⟩
        · rw [z1] at z; exact absurd z (by decide)
        · rw [z2] at z; exact absurd z (by decide)
        · rw [aJoin, vDo_y hp (by omega), vDo_y hs (by omega), if_neg (fun e => z (by rw [e]))]
          exact congrArg (fun x => some (Value.int x)) y.symm
        · rw [aJoin, vDo_y hp (by omega), vDo_y hs (by omega), if_neg (fun e => z (by rw [e]))]
          rcases vB_01 (vJ (sT σ) (sC σ) p s) with q | q
          · exact absurd q y
          · rw [q]
        · rw [aJoin, vDo_y hp (by omega), vDo_y hs (by omega), if_pos ((nI_eq (by omega) (by omega)).mp z)]
def xt_X8_seat : xT := xm_rl (Z := vS × Int32) (fun (σ, p) av g => av = [.ref 0, .int p] ∧ xTop σ g) (fun (σ, p) g o g' => o = some (.int (aSeat σ p)) ∧ xTop σ g')
set_option maxRecDepth 100000 in
set_option maxHeartbeats 400000 in
theorem xp_X8_seat {l : Launch} {D : va_G} {cA : Nat → ClassId} {B : List (Nat × Cell)} : xm_Met l D cA B xs_X 1 yX8_seat cX8_seat 2 (some .int) xt_X8_seat := by
  have hm : xm_monos [xt_X8_isPerson] := ⟨(by first | exact xm_fn_mono _ _ _ | exact xm_rl_mono _ _), trivial⟩
  refine xm_meth (own := RX8) (ks := xk_X8_seat) (C := xc_X8_seat) (Ts := [xt_X8_isPerson]) (by decide +kernel) rfl xm_clsok xs_X_ok xf_X8_ok xi_X8_ok xj_X8_ok (xm_lk xl_X8_128 xp_X8_isPerson (by decide) xm_lk0) xo_X8_seat ?_ ?_
  · rintro av g Q ⟨z, ⟨rfl, -⟩, -⟩
    exact Nat.le_of_ble_eq_true rfl
  · rintro av g Q ⟨⟨σ, p⟩, ⟨rfl, h⟩, hQ⟩
    dsimp only at h hQ
    have m6 := h.m6
    rcases vDo_c (m := tM (sT σ)) p (by omega) with hp | ⟨p, hp, rfl⟩
    · have fin := hQ (some (.int (-1))) g ⟨by rw [aSeat, vDo_n hp], h⟩
      refine xm_run_go hm 30 ⟨(p, tM (sT σ)), ⟨rfl, h.m⟩, ⟨fun _ => fin, fun z => ?_⟩⟩
      exact absurd (vIs_n hp) z
    · have z1 := vIs_y hp (by omega : tM (sT σ) < 2 ^ 31)
      refine xm_run_go hm 30 ⟨(nI p, tM (sT σ)), ⟨rfl, h.m⟩, ⟨fun z => ?_, fun _ => ⟨p, ⟨by omega, rfl⟩, hQ _ _ ⟨?_, h⟩⟩⟩⟩
      · rw [z1] at z; exact absurd z (by decide)
      · rw [aSeat, vDo_y hp (by omega), h.i.2.2.2.1.2.2.1 p (by omega)]
