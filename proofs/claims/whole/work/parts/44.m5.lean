-- a week
theorem vWk1_m {t : vSt} {c : vSc} (ht : vTok t) (hc : vCok t c) {p s : Nat} (hp : p < tM t) (hs : s < tN t) : vWi (cG c (p * 5 + s) - vFades t c p (nI s)) 0 99 = vWk1 t c (p * 5 + s) := by
  have m6 := ht.2.1
  have n5 := ht.1
  have a' := hc.2.2.2.1 (p * 5 + s) (by omega)
  have a := xi_in a'.1 a'.2
  have b' : 0 ≤ vFades t c p (nI s) ∧ vFades t c p (nI s) ≤ 99 := vHeld_in (tX t 1 (vVar t c p (nI s))) 99 (by decide)
  have b := xi_in b'.1 b'.2
  have i1 : (p * 5 + s) / 5 = p := by omega
  have i2 : (p * 5 + s) % 5 = s := by omega
  unfold vWk1 vLess
  rw [i1, i2]
  generalize vFades t c p (nI s) = f at b
  generalize cG c (p * 5 + s) = x at a
  have e := xi_sub (x := x) (y := f) rfl rfl (by omega) (by omega)
  have z0 : (0 : Int32).toInt = 0 := by decide
  have z9 : (99 : Int32).toInt = 99 := by decide
  have nh : ¬ 99 < x - f := by rw [xi_lt, e, z9]; omega
  by_cases hx : 0 < x
  · rw [if_pos hx]
    unfold vWi vMax
    by_cases q : 0 < x - f
    · rw [if_pos q, if_neg (fun z => Int32.lt_irrefl (Int32.lt_trans q z)), if_neg nh]
    · rw [if_neg q]
      by_cases y : x - f < 0
      · rw [if_pos y]
      · rw [if_neg y, if_neg nh]
        exact Int32.le_antisymm (Int32.not_lt.mp q) (Int32.not_lt.mp y)
  · have x0 : x = 0 := by
      rw [xi_lt, z0] at hx
      exact Int32.toInt_inj.mp (by rw [z0]; omega)
    rw [if_neg hx]
    subst x0
    unfold vWi vMax
    rw [show (0 : Int32) - 0 = 0 by decide, if_neg (show ¬ (0 : Int32) < 0 by decide)]
    by_cases y : 0 - f < 0
    · rw [if_pos y]
    · rw [if_neg y, if_neg nh]
      rw [xi_lt, e, z0] at y
      exact Int32.toInt_inj.mp (by rw [e, z0]; omega)
def xt_X9_weekGoes : xT := xm_rl (Z := Nat × vSt × vSc) (fun (lv, t, c) av g => av = [.ref 0] ∧ mIn lv t c g) (fun (lv, t, c) g o g' => o = none ∧ mIn lv t (vWeek t c (if g.1 0 52 = 0 then vWashers t c (g.1 0 51) else 0)) g' ∧ mFb g g')
set_option maxRecDepth 100000 in
set_option maxHeartbeats 400000 in
theorem xp_X9_weekGoes {l : Launch} {D : va_G} {cA : Nat → ClassId} {B : List (Nat × Cell)} : xm_Met l D cA B xs_M 9 yX9_weekGoes cX9_weekGoes 5 none xt_X9_weekGoes := by
  have hm : xm_monos [xt_X9_washBits, xt_X9_paysAll, xt_X9_fadesOf, xt_X9_glowAt, xt_X9_within, xt_X9_washesOff] := ⟨(by first | exact xm_fn_mono _ _ _ | exact xm_rl_mono _ _), (by first | exact xm_fn_mono _ _ _ | exact xm_rl_mono _ _), (by first | exact xm_fn_mono _ _ _ | exact xm_rl_mono _ _), (by first | exact xm_fn_mono _ _ _ | exact xm_rl_mono _ _), (by first | exact xm_fn_mono _ _ _ | exact xm_rl_mono _ _), (by first | exact xm_fn_mono _ _ _ | exact xm_rl_mono _ _), trivial⟩
  refine xm_meth (own := RX9) (ks := xk_X9_weekGoes) (C := xc_X9_weekGoes) (Ts := [xt_X9_washBits, xt_X9_paysAll, xt_X9_fadesOf, xt_X9_glowAt, xt_X9_within, xt_X9_washesOff]) (by decide +kernel) rfl xm_clsok xs_M_ok xf_X9_ok xi_X9_ok xj_X9_ok (xm_lk xl_X9_391 xp_X9_washBits (by decide) (xm_lk xl_X9_394 xp_X9_paysAll (by decide) (xm_lk xl_X9_397 xp_X9_fadesOf (by decide) (xm_lk xl_X9_327 xp_X9_glowAt (by decide) (xm_lk xl_X9_373 xp_X9_within (by decide) (xm_lk xl_X9_400 xp_X9_washesOff (by decide) xm_lk0)))))) xo_X9_weekGoes ?_ ?_
  · rintro av g Q ⟨z, ⟨rfl, -⟩, -⟩
    exact Nat.le_of_ble_eq_true rfl
  · rintro av g Q ⟨⟨lv, t, c⟩, ⟨rfl, h⟩, hQ⟩
    dsimp only at h hQ
    have m6 := h.m6
    have n5 := h.n5
    have hl := h.lv
    have hc := h.2.1
    generalize hW : (if g.1 0 52 = 0 then vWashers t c (g.1 0 51) else 0) = wd at hQ
    generalize hP : vSum (vPays t c) (tM t) = pd
    have sto : ∀ {g1}, mFb g g1 → mSto lv t g1 := fun f => h.2.2.1.b f
    obtain ⟨r1, r2, r3, r4⟩ := h.2.2.2
    -- the second pair of loops
    have second : ∀ g0, mFb g g0 → g0.1 33 = g.1 33 → (∀ p s, p < tM t → s < tN t → g0.1 34 (p * 5 + s) = vFades t c p (nI s)) → ∀ w4, xm_go xs_M xk_X9_weekGoes [xt_X9_washBits, xt_X9_paysAll, xt_X9_fadesOf, xt_X9_glowAt, xt_X9_within, xt_X9_washesOff] xc_X9_weekGoes Q (xm_drop 47 xc_X9_weekGoes) [.ref 0, .int wd, .int pd, .int (nI 0), w4] [] g0 := by
      intro g0 f0 e33 e34
      have fd : ∀ g1, mFb g0 g1 → g1.1 34 = g0.1 34 → mSto lv t g1 ∧ ∀ p s, p < tM t → s < tN t → g1.1 34 (p * 5 + s) = vFades t c p (nI s) := fun g1 f1 e => ⟨sto (f0.tr f1), fun p s hp hs => by rw [e]; exact e34 p s hp hs⟩
      have inner : ∀ p, p < tM t → (∀ g1, mFb g0 g1 → g1.1 34 = g0.1 34 → (∀ i, i < 38 → g1.1 33 i = if i / 5 < p + 1 ∧ i % 5 < tN t then vWk2 t c wd i else g.1 33 i) → ∀ w4, xm_go xs_M xk_X9_weekGoes [xt_X9_washBits, xt_X9_paysAll, xt_X9_fadesOf, xt_X9_glowAt, xt_X9_within, xt_X9_washesOff] xc_X9_weekGoes Q (xm_drop 47 xc_X9_weekGoes) [.ref 0, .int wd, .int pd, .int (nI p + 1), w4] [] g1) →
          ∀ d s, s + d = tN t → ∀ g1, mFb g0 g1 → g1.1 34 = g0.1 34 → (∀ i, i < 38 → g1.1 33 i = if i / 5 < p ∧ i % 5 < tN t then vWk2 t c wd i else if i / 5 = p ∧ i % 5 < s then vWk1 t c i else g.1 33 i) → xm_go xs_M xk_X9_weekGoes [xt_X9_washBits, xt_X9_paysAll, xt_X9_fadesOf, xt_X9_glowAt, xt_X9_within, xt_X9_washesOff] xc_X9_weekGoes Q (xm_drop 56 xc_X9_weekGoes) [.ref 0, .int wd, .int pd, .int (nI p), .int (nI s)] [] g1 := by
        intro p hp hout d
        have p6 : p < 6 := by omega
        induction d with
        | zero =>
          intro s hs g1 f1 e1 hi
          have hs : s = tN t := by omega
          subst hs
          obtain ⟨s1, s2⟩ := fd g1 f1 e1
          have no : ¬ vBit wd p → ∀ w4, xm_go xs_M xk_X9_weekGoes [xt_X9_washBits, xt_X9_paysAll, xt_X9_fadesOf, xt_X9_glowAt, xt_X9_within, xt_X9_washesOff] xc_X9_weekGoes Q (xm_drop 47 xc_X9_weekGoes) [.ref 0, .int wd, .int pd, .int (nI p + 1), w4] [] g1 := fun hnb => hout g1 f1 e1 (fun i hi2 => by
            rw [hi i hi2]
            by_cases y : i / 5 < p ∧ i % 5 < tN t
            · rw [if_pos y, if_pos (by omega)]
            · rw [if_neg y]
              by_cases x : i / 5 = p ∧ i % 5 < tN t
              · rw [if_pos x, if_pos (by omega)]
                unfold vWk2
                rw [x.1, if_neg hnb]
              · rw [if_neg x, if_neg (by omega)])
          have yes : vBit wd p → ∀ g2, (∀ k, k ≠ 33 → g2.1 k = g1.1 k) → g2.2 = g1.2 → (∀ i, g2.1 33 i = if p * 5 ≤ i ∧ i < p * 5 + 5 then g1.1 33 i / 2 else g1.1 33 i) → ∀ w4, xm_go xs_M xk_X9_weekGoes [xt_X9_washBits, xt_X9_paysAll, xt_X9_fadesOf, xt_X9_glowAt, xt_X9_within, xt_X9_washesOff] xc_X9_weekGoes Q (xm_drop 47 xc_X9_weekGoes) [.ref 0, .int wd, .int pd, .int (nI p + 1), w4] [] g2 := fun hyb g2 q1 q2 q3 => hout g2 (f1.tr ⟨fun k a b c d e => q1 k d, fun j _ => by rw [q1 0 (by decide)], q2⟩) ((q1 34 (by decide)).trans e1) (fun i hi2 => by
            rw [q3 i, hi i hi2]
            by_cases y : i / 5 < p ∧ i % 5 < tN t
            · rw [if_pos y, if_neg (by omega), if_pos (by omega)]
            · rw [if_neg y]
              by_cases x : i / 5 = p ∧ i % 5 < tN t
              · rw [if_pos x, if_pos (by omega), if_pos (by omega)]
                unfold vWk2
                rw [x.1, if_pos hyb]
              · rw [if_neg x]
                by_cases v : p * 5 ≤ i ∧ i < p * 5 + 5
                · have z : g.1 33 i = 0 := by
                    rw [r1 i (by omega)]
                    have := hc.2.2.2.2 p (i - p * 5) p6 (by omega) (by omega)
                    rw [show p * 5 + (i - p * 5) = i by omega] at this
                    exact this
                  rw [if_pos v, if_neg (by omega), z]; decide
                · rw [if_neg v, if_neg (by omega)])
          refine xm_run_go hm 60 ⟨lv, ⟨hl, s1.2.1⟩, ⟨fun _ => ⟨fun z => xm_cut hm (no z _), fun z => ⟨p, ⟨rfl, p6⟩, ?_⟩⟩, fun z => ?_⟩⟩
          · rintro o g2 ⟨rfl, q1, q2, q3⟩
            exact xm_cut hm (yes z g2 q1 q2 q3 _)
          · rw [s1.2.2.1] at z
            exact absurd z (nI_nlt (Nat.le_refl _) (by omega))
        | succ d ih =>
          intro s hs g1 f1 e1 hi
          have hsn : s < tN t := by omega
          have s5 : s < 5 := by omega
          obtain ⟨s1, s2⟩ := fd g1 f1 e1
          have ix : 5 * nI p + nI s = nI (p * 5 + s) := by rw [xn_5, Nat.mul_comm]
          have gl : g1.1 33 (p * 5 + s) = cG c (p * 5 + s) := by
            rw [hi _ (by omega), if_neg (by omega), if_neg (by omega)]; exact r1 _ (by omega)
          have nx := ih (s + 1) (by omega)
          rw [nI_succ] at nx
          refine xm_run_go hm 60 ⟨lv, ⟨hl, s1.2.1⟩, ⟨fun z => ?_, fun _ => ⟨(p, s), ⟨rfl, p6, s5⟩, p * 5 + s, ⟨by omega, ix⟩, (g1.1 33 (p * 5 + s) - g1.1 34 (p * 5 + s), 0, 99), ⟨rfl, trivial⟩, p * 5 + s, ⟨by omega, ix⟩, xm_cut hm (nx _ (f1.p _ _ (by omega)) ?_ (fun i hi2 => ?_))⟩⟩⟩
          · rw [s1.2.2.1] at z
            exact absurd z (nI_ge hsn (by omega))
          · rw [xg_off _ _ _ (by decide)]; exact e1
          · rw [xg_in]
            by_cases y : i = p * 5 + s
            · rw [if_pos y, y, if_neg (by omega), if_pos (by omega), gl, s2 p s hp hsn, vWk1_m h.1 hc hp hsn]
            · rw [if_neg y, hi i hi2]
              by_cases x : i / 5 < p ∧ i % 5 < tN t
              · rw [if_pos x, if_pos x]
              · rw [if_neg x, if_neg x]
                by_cases v : i / 5 = p ∧ i % 5 < s
                · rw [if_pos v, if_pos (by omega)]
                · rw [if_neg v, if_neg (by omega)]
      have outer : ∀ d p, p + d = tM t → ∀ g1, mFb g0 g1 → g1.1 34 = g0.1 34 → (∀ i, i < 38 → g1.1 33 i = if i / 5 < p ∧ i % 5 < tN t then vWk2 t c wd i else g.1 33 i) → ∀ w4, xm_go xs_M xk_X9_weekGoes [xt_X9_washBits, xt_X9_paysAll, xt_X9_fadesOf, xt_X9_glowAt, xt_X9_within, xt_X9_washesOff] xc_X9_weekGoes Q (xm_drop 47 xc_X9_weekGoes) [.ref 0, .int wd, .int pd, .int (nI p), w4] [] g1 := by
        intro d
        induction d with
        | zero =>
          intro p hp g1 f1 e1 hi w4
          have hp : p = tM t := by omega
          subst hp
          obtain ⟨s1, s2⟩ := fd g1 f1 e1
          refine xm_run_go hm 60 ⟨lv, ⟨hl, s1.2.1⟩, ⟨fun _ => ⟨37, ⟨by decide, rfl⟩, 37, ⟨by decide, rfl⟩, 36, ⟨by decide, rfl⟩, 36, ⟨by decide, rfl⟩, hQ _ _ ⟨rfl, ⟨h.1, vWeek_ok hc, sto ((f0.tr f1).tr ((mFb.rf.p _ _ (by omega)).p _ _ (by omega))), ?_⟩, (f0.tr f1).tr ((mFb.rf.p _ _ (by omega)).p _ _ (by omega))⟩⟩, fun z => ?_⟩⟩
          · refine ⟨fun i hi2 => ?_, fun k hk => ?_, ?_, ?_⟩
            · rw [xg_in, if_neg (by omega), xg_in, if_neg (by omega), hi i (by omega)]
              show _ = if i / 5 < tM t ∧ i % 5 < tN t then vWk2 t c wd i else cG c i
              rw [r1 i hi2]
            · rw [xg_in, if_neg (by omega), xg_in, if_neg (by omega), hi _ (by omega), if_neg (by omega)]; exact r2 k hk
            · rw [xg_in, if_pos rfl, xg_in, if_neg (by decide), hi _ (by omega), if_neg (by omega), r3]; rfl
            · rw [xg_in, if_neg (by decide), xg_in, if_pos rfl, hi _ (by omega), if_neg (by omega), r4, ← hP]; rfl
          · rw [s1.2.2.2.1] at z
            exact absurd z (nI_nlt (Nat.le_refl _) (by omega))
        | succ d ih =>
          intro p hp g1 f1 e1 hi w4
          have hpm : p < tM t := by omega
          obtain ⟨s1, s2⟩ := fd g1 f1 e1
          have nx := ih (p + 1) (by omega)
          rw [nI_succ] at nx
          refine xm_run_go hm 60 ⟨lv, ⟨hl, s1.2.1⟩, ⟨fun z => ?_, fun _ => xm_cut hm (inner p hpm nx (tN t) 0 (by omega) g1 f1 e1 (fun i hi2 => ?_))⟩⟩
          · rw [s1.2.2.2.1] at z
            exact absurd z (nI_ge hpm (by omega))
          · rw [hi i hi2]
            by_cases x : i / 5 < p ∧ i % 5 < tN t
            · rw [if_pos x, if_pos x]
            · rw [if_neg x, if_neg x, if_neg (by omega)]
      exact outer (tM t) 0 (by omega) g0 mFb.rf rfl (fun i hi2 => by rw [if_neg (by omega), e33])
    -- the first pair of loops
    have inn : ∀ {g1}, mFb g g1 → g1.1 33 = g.1 33 → mIn lv t c g1 := fun f e => ⟨h.1, hc, sto f, h.2.2.2.fr e⟩
    have inner1 : ∀ p, p < tM t → (∀ g1, mFb g g1 → g1.1 33 = g.1 33 → (∀ q s, q < p + 1 → s < tN t → g1.1 34 (q * 5 + s) = vFades t c q (nI s)) → ∀ w4, xm_go xs_M xk_X9_weekGoes [xt_X9_washBits, xt_X9_paysAll, xt_X9_fadesOf, xt_X9_glowAt, xt_X9_within, xt_X9_washesOff] xc_X9_weekGoes Q (xm_drop 13 xc_X9_weekGoes) [.ref 0, .int wd, .int pd, .int (nI p + 1), w4] [] g1) →
        ∀ d s, s + d = tN t → ∀ g1, mFb g g1 → g1.1 33 = g.1 33 → (∀ q s, q < p → s < tN t → g1.1 34 (q * 5 + s) = vFades t c q (nI s)) → (∀ s', s' < s → g1.1 34 (p * 5 + s') = vFades t c p (nI s')) → xm_go xs_M xk_X9_weekGoes [xt_X9_washBits, xt_X9_paysAll, xt_X9_fadesOf, xt_X9_glowAt, xt_X9_within, xt_X9_washesOff] xc_X9_weekGoes Q (xm_drop 22 xc_X9_weekGoes) [.ref 0, .int wd, .int pd, .int (nI p), .int (nI s)] [] g1 := by
      intro p hp hout d
      induction d with
      | zero =>
        intro s hs g1 f1 e1 a1 a2
        have hs : s = tN t := by omega
        subst hs
        have i1 := inn f1 e1
        refine xm_run_go hm 60 ⟨lv, ⟨hl, i1.l⟩, ⟨fun _ => xm_cut hm (hout g1 f1 e1 (fun q s hq hs => ?_) _), fun z => ?_⟩⟩
        · by_cases z : q = p
          · rw [z]; exact a2 s hs
          · exact a1 q s (by omega) hs
        · rw [i1.n] at z
          exact absurd z (nI_nlt (Nat.le_refl _) (by omega))
      | succ d ih =>
        intro s hs g1 f1 e1 a1 a2
        have hsn : s < tN t := by omega
        have i1 := inn f1 e1
        have ix : 5 * nI p + nI s = nI (p * 5 + s) := by rw [xn_5, Nat.mul_comm]
        have nx := ih (s + 1) (by omega)
        rw [nI_succ] at nx
        refine xm_run_go hm 60 ⟨lv, ⟨hl, i1.l⟩, ⟨fun z => ?_, fun _ => ⟨(p, s, lv, t, c), ⟨rfl, hp, hsn, i1⟩, ?_⟩⟩⟩
        · rw [i1.n] at z
          exact absurd z (nI_ge hsn (by omega))
        · rintro o g2 ⟨rfl, f2⟩
          have e34 : g2.1 34 = g1.1 34 := f2.1 34 (by decide) (by decide) (by decide)
          refine ⟨p * 5 + s, ⟨by omega, ix⟩, xm_cut hm (nx _ ((f1.tr f2.b').p _ _ (by omega)) ?_ (fun q s2 hq hs2 => ?_) (fun s2 hs2 => ?_))⟩
          · rw [xg_off _ _ _ (by decide), f2.1 33 (by decide) (by decide) (by decide)]; exact e1
          · rw [xg_in, if_neg (by omega), e34]; exact a1 q s2 hq hs2
          · rw [xg_in]
            by_cases z : s2 = s
            · rw [if_pos (by omega), z]
            · rw [if_neg (by omega), e34]; exact a2 s2 (by omega)
    have outer1 : ∀ d p, p + d = tM t → ∀ g1, mFb g g1 → g1.1 33 = g.1 33 → (∀ q s, q < p → s < tN t → g1.1 34 (q * 5 + s) = vFades t c q (nI s)) → ∀ w4, xm_go xs_M xk_X9_weekGoes [xt_X9_washBits, xt_X9_paysAll, xt_X9_fadesOf, xt_X9_glowAt, xt_X9_within, xt_X9_washesOff] xc_X9_weekGoes Q (xm_drop 13 xc_X9_weekGoes) [.ref 0, .int wd, .int pd, .int (nI p), w4] [] g1 := by
      intro d
      induction d with
      | zero =>
        intro p hp g1 f1 e1 a1 w4
        have hp : p = tM t := by omega
        subst hp
        have i1 := inn f1 e1
        refine xm_run_go hm 60 ⟨lv, ⟨hl, i1.l⟩, ⟨fun _ => xm_cut hm (second g1 f1 e1 a1 _), fun z => ?_⟩⟩
        rw [i1.m] at z
        exact absurd z (nI_nlt (Nat.le_refl _) (by omega))
      | succ d ih =>
        intro p hp g1 f1 e1 a1 w4
        have hpm : p < tM t := by omega
        have i1 := inn f1 e1
        have nx := ih (p + 1) (by omega)
        rw [nI_succ] at nx
        refine xm_run_go hm 60 ⟨lv, ⟨hl, i1.l⟩, ⟨fun z => ?_, fun _ => xm_cut hm (inner1 p hpm nx (tN t) 0 (by omega) g1 f1 e1 a1 (fun _ z => absurd z (by omega)))⟩⟩
        rw [i1.m] at z
        exact absurd z (nI_ge hpm (by omega))
    have start : ∀ g1 v1 v2, mFa g g1 → v1 = wd → v2 = vSum (vPays t c) (tM t) → ∀ w4, xm_go xs_M xk_X9_weekGoes [xt_X9_washBits, xt_X9_paysAll, xt_X9_fadesOf, xt_X9_glowAt, xt_X9_within, xt_X9_washesOff] xc_X9_weekGoes Q (xm_drop 13 xc_X9_weekGoes) [.ref 0, .int v1, .int v2, .int (nI 0), w4] [] g1 := fun g1 v1 v2 f1 h1 h2 w4 => by
      rw [h1, h2, hP]
      exact outer1 (tM t) 0 (by omega) g1 f1.b' (f1.1 33 (by decide) (by decide) (by decide)) (fun q s hq => absurd hq (by omega)) w4
    refine xm_run_go hm 60 ⟨fun z => ⟨(lv, t, c), ⟨rfl, h⟩, ?_⟩, fun z => ⟨(lv, t, c), ⟨rfl, h⟩, ?_⟩⟩
    · rintro o g1 ⟨rfl, f1⟩
      refine ⟨(lv, t, c), ⟨rfl, h.a f1⟩, ?_⟩
      rintro o g2 ⟨rfl, f2⟩
      exact xm_cut hm (start g2 _ _ (f1.tr f2) (by rw [← hW, if_pos z]) rfl _)
    · rintro o g2 ⟨rfl, f2⟩
      exact xm_cut hm (start g2 _ _ f2 (by rw [← hW, if_neg z]) rfl _)
theorem mFb.i {lv : Nat} {t : vSt} {c c' : vSc} {g g' : xG} (h : mIn lv t c g) (f : mFb g g') (r : mRaw 33 c' g') (ok : vCok t c') : mIn lv t c' g' := ⟨h.1, ok, h.2.2.1.b f, r⟩
def xt_X9_goes : xT := xm_rl (Z := Nat × Nat × vSt × vSc) (fun (n, lv, t, c) av g => av = [.ref 0, .int (nI n)] ∧ n < 100 ∧ mIn lv t c g) (fun (n, lv, t, c) g o g' => o = none ∧ mIn lv t (vGo t (g.1 0 51) (if g.1 0 52 = 0 then 1 else 0) c n) g' ∧ mFb g g')
theorem vWd (t : vSt) (c : vSc) (x e : Int32) : (if x = 0 then vWashers t c e else 0) = if (if x = 0 then (1 : Int32) else 0) = 0 then 0 else vWashers t c e := by
  by_cases z : x = 0
  · rw [if_pos z, if_pos z, if_neg (by decide)]
  · rw [if_neg z, if_neg z, if_pos rfl]
set_option maxRecDepth 100000 in
set_option maxHeartbeats 400000 in
theorem xp_X9_goes {l : Launch} {D : va_G} {cA : Nat → ClassId} {B : List (Nat × Cell)} : xm_Met l D cA B xs_M 10 yX9_goes cX9_goes 3 none xt_X9_goes := by
  have hm : xm_monos [xt_X9_weekGoes] := ⟨(by first | exact xm_fn_mono _ _ _ | exact xm_rl_mono _ _), trivial⟩
  refine xm_meth (own := RX9) (ks := xk_X9_goes) (C := xc_X9_goes) (Ts := [xt_X9_weekGoes]) (by decide +kernel) rfl xm_clsok xs_M_ok xf_X9_ok xi_X9_ok xj_X9_ok (xm_lk xl_X9_403 xp_X9_weekGoes (by decide) xm_lk0) xo_X9_goes ?_ ?_
  · rintro av g Q ⟨z, ⟨rfl, -⟩, -⟩
    exact Nat.le_of_ble_eq_true rfl
  · rintro av g Q ⟨⟨n, lv, t, c⟩, ⟨rfl, hn, h⟩, hQ⟩
    dsimp only at hn h hQ
    have loop : ∀ d i, i + d = n → ∀ g1, mFb g g1 → mIn lv t (vGo t (g.1 0 51) (if g.1 0 52 = 0 then 1 else 0) c i) g1 → xm_go xs_M xk_X9_goes [xt_X9_weekGoes] xc_X9_goes Q (xm_drop 2 xc_X9_goes) [.ref 0, .int (nI n), .int (nI i)] [] g1 := by
      intro d
      induction d with
      | zero =>
        intro i hi g1 f1 i1
        have hi : i = n := by omega
        subst hi
        exact xm_run_go hm 20 ⟨fun _ => hQ _ _ ⟨rfl, i1, f1⟩, fun z => absurd z (nI_nlt (Nat.le_refl _) (by omega))⟩
      | succ d ih =>
        intro i hi g1 f1 i1
        refine xm_run_go hm 30 ⟨fun z => absurd z (nI_ge (by omega) (by omega)), fun _ => ⟨(lv, t, vGo t (g.1 0 51) (if g.1 0 52 = 0 then 1 else 0) c i), ⟨rfl, i1⟩, ?_⟩⟩
        rintro o g2 ⟨rfl, i2, f2⟩
        rw [f1.2.1 51 (by decide), f1.2.1 52 (by decide), vWd] at i2
        have nx := ih (i + 1) (by omega) g2 (f1.tr f2) i2
        rw [nI_succ] at nx
        exact xm_cut hm nx
    exact xm_run_go hm 20 (xm_cut hm (loop n 0 (by omega) g mFb.rf h))
-- moving
def mF33 (g g' : xG) : Prop := (∀ k, k ≠ 33 → g'.1 k = g.1 k) ∧ g'.2 = g.2
theorem mF33.rf {g : xG} : mF33 g g := ⟨fun _ _ => rfl, rfl⟩
theorem mF33.p {g g1 : xG} (h : mF33 g g1) (j : Nat) (v : Int32) : mF33 g (xm_sI g1 33 j v) := ⟨fun a h1 => (xg_off g1 j v h1).trans (h.1 a h1), h.2⟩
theorem mF33.b {g g' : xG} (h : mF33 g g') : mFb g g' := ⟨fun k _ _ _ d _ => h.1 k d, fun j _ => by rw [h.1 0 (by decide)], h.2⟩
def xt_X9_moves : xT := xm_rl (Z := Nat × Nat × Nat × vSt × vSc) (fun (p, s, lv, t, c) av g => av = [.ref 0, .int (nI p), .int (nI s)] ∧ p < tM t ∧ s < tM t ∧ mIn lv t c g) (fun (p, s, lv, t, c) g o g' => o = none ∧ mIn lv t (vMove c p s) g' ∧ mFb g g')
set_option maxRecDepth 100000 in
set_option maxHeartbeats 400000 in
theorem xp_X9_moves {l : Launch} {D : va_G} {cA : Nat → ClassId} {B : List (Nat × Cell)} : xm_Met l D cA B xs_M 1 yX9_moves cX9_moves 5 none xt_X9_moves := by
  have hm : xm_monos [xt_X9_seatOf] := ⟨(by first | exact xm_fn_mono _ _ _ | exact xm_rl_mono _ _), trivial⟩
  refine xm_meth (own := RX9) (ks := xk_X9_moves) (C := xc_X9_moves) (Ts := [xt_X9_seatOf]) (by decide +kernel) rfl xm_clsok xs_M_ok xf_X9_ok xi_X9_ok xj_X9_ok (xm_lk xl_X9_358 xp_X9_seatOf (by decide) xm_lk0) xo_X9_moves ?_ ?_
  · rintro av g Q ⟨z, ⟨rfl, -⟩, -⟩
    exact Nat.le_of_ble_eq_true rfl
  · rintro av g Q ⟨⟨p, s, lv, t, c⟩, ⟨rfl, hp, hs, h⟩, hQ⟩
    dsimp only at hp hs h hQ
    have m6 := h.m6
    have hc := h.2.1
    have hfr := (hc.2.1 p hp).1
    generalize hfrom : cS c p = f at hfr
    obtain ⟨r1, r2, r3, r4⟩ := h.2.2.2
    have fin : ∀ g1, mF33 g g1 → (∀ i, i < 30 ∨ 36 ≤ i → g1.1 33 i = g.1 33 i) → (∀ k, k < 6 → g1.1 33 (30 + k) = nI (if f ≤ k ∧ k < s then cR c (k + 1) else if s < k ∧ k ≤ f then cR c (k - 1) else cR c k)) →
        mIn lv t (vMove c p s) (xm_sI g1 33 (30 + s) (nI p)) ∧ mFb g (xm_sI g1 33 (30 + s) (nI p)) := by
      intro g1 hf hg hi
      refine ⟨(hf.p _ _).b.i h ⟨fun i hi2 => ?_, fun k hk => ?_, ?_, ?_⟩ (vMove_ok h.1 hc hp hs), (hf.p _ _).b⟩
      · rw [xg_in, if_neg (by omega), hg i (by omega)]; exact r1 i hi2
      · rw [xg_in]
        show _ = nI (if k = s then p else if cS c p ≤ k ∧ k < s then cR c (k + 1) else if s < k ∧ k ≤ cS c p then cR c (k - 1) else cR c k)
        rw [hfrom]
        by_cases z : k = s
        · rw [if_pos (by omega), if_pos z]
        · rw [if_neg (by omega), if_neg z]; exact hi k hk
      · rw [xg_in, if_neg (by omega), hg _ (by omega)]; exact r3
      · rw [xg_in, if_neg (by omega), hg _ (by omega)]; exact r4
    have loop2 : ∀ d j, j = (if f ≤ s then f else s) + d → j ≤ f → ∀ g1, mF33 g g1 → (∀ i, i < 30 ∨ 36 ≤ i → g1.1 33 i = g.1 33 i) → (∀ k, k < 6 → g1.1 33 (30 + k) = nI (if f ≤ k ∧ k < s then cR c (k + 1) else if j < k ∧ k ≤ f then cR c (k - 1) else cR c k)) → xm_go xs_M xk_X9_moves [xt_X9_seatOf] xc_X9_moves Q (xm_drop 25 xc_X9_moves) [.ref 0, .int (nI p), .int (nI s), .int (nI f), .int (nI j)] [] g1 := by
      intro d
      induction d with
      | zero =>
        intro j hj hjf g1 hf hg hi
        have hle : j ≤ s := by split at hj <;> omega
        obtain ⟨k1, k2⟩ := fin g1 hf hg (fun k hk => by
          rw [hi k hk]
          by_cases z : f ≤ k ∧ k < s
          · rw [if_pos z, if_pos z]
          · rw [if_neg z, if_neg z]
            split at hj
            · rw [if_neg (by omega), if_neg (by omega)]
            · rw [show j = s by omega])
        exact xm_run_go hm 20 ⟨fun _ => ⟨30 + s, ⟨by omega, xn_30 _⟩, hQ _ _ ⟨rfl, k1, k2⟩⟩, fun q => absurd q (nI_nlt hle (by omega))⟩
      | succ d ih =>
        intro j hj hjf g1 hf hg hi
        have hlt : s < j := by split at hj <;> omega
        have e1 : 29 + nI j = nI (30 + (j - 1)) := by rw [show (29 : Int32) = nI 29 from rfl, nI_add]; congr 1; omega
        have e2 : nI j + (-1) = nI (j - 1) := sb_m1 (by omega)
        have nx : xm_go xs_M xk_X9_moves [xt_X9_seatOf] xc_X9_moves Q (xm_drop 25 xc_X9_moves) [.ref 0, .int (nI p), .int (nI s), .int (nI f), .int (nI j + (-1))] [] (xm_sI g1 33 (30 + j) (g1.1 33 (30 + (j - 1)))) := by
          rw [e2]
          refine ih (j - 1) (by omega) (by omega) _ (hf.p _ _) (fun i hi2 => by rw [xg_in, if_neg (by omega)]; exact hg i hi2) (fun k hk => ?_)
          rw [xg_in]
          by_cases z : k = j
          · rw [if_pos (by omega), hi _ (by omega), z, if_neg (by omega), if_neg (by omega), if_neg (by omega), if_pos (by omega)]
          · rw [if_neg (by omega), hi k hk]
            by_cases y : f ≤ k ∧ k < s
            · rw [if_pos y, if_pos y]
            · rw [if_neg y, if_neg y]
              by_cases x : j < k ∧ k ≤ f
              · rw [if_pos x, if_pos (by omega)]
              · rw [if_neg x, if_neg (by omega)]
        refine xm_run_go hm 30 ⟨fun q => ?_, fun _ => ⟨30 + (j - 1), ⟨by omega, e1⟩, 30 + j, ⟨by omega, xn_30 _⟩, xm_cut hm nx⟩⟩
        exact absurd q (nI_ge hlt (by omega))
    have loop1 : ∀ d i, i + d = (if f ≤ s then s else f) → f ≤ i → ∀ g1, mF33 g g1 → (∀ i, i < 30 ∨ 36 ≤ i → g1.1 33 i = g.1 33 i) → (∀ k, k < 6 → g1.1 33 (30 + k) = nI (if f ≤ k ∧ k < i then cR c (k + 1) else cR c k)) → xm_go xs_M xk_X9_moves [xt_X9_seatOf] xc_X9_moves Q (xm_drop 6 xc_X9_moves) [.ref 0, .int (nI p), .int (nI s), .int (nI f), .int (nI i)] [] g1 := by
      intro d
      induction d with
      | zero =>
        intro i hi2 hfi g1 hf hg hi
        have hle : s ≤ i := by split at hi2 <;> omega
        have nx := loop2 (f - (if f ≤ s then f else s)) f (by split <;> omega) (Nat.le_refl _) g1 hf hg (fun k hk => by
          rw [hi k hk]
          by_cases z : f ≤ k ∧ k < s
          · rw [if_pos z, if_pos (by omega)]
          · rw [if_neg z, if_neg (by split at hi2 <;> omega), if_neg (by omega)])
        refine xm_run_go hm 20 ⟨fun _ => xm_cut hm nx, fun q => ?_⟩
        exact absurd q (nI_nlt hle (by split at hi2 <;> omega))
      | succ d ih =>
        intro i hi2 hfi g1 hf hg hi
        have hlt : i < s := by split at hi2 <;> omega
        have nx : xm_go xs_M xk_X9_moves [xt_X9_seatOf] xc_X9_moves Q (xm_drop 6 xc_X9_moves) [.ref 0, .int (nI p), .int (nI s), .int (nI f), .int (nI i + 1)] [] (xm_sI g1 33 (30 + i) (g1.1 33 (30 + (i + 1)))) := by
          rw [nI_1]
          refine ih (i + 1) (by omega) (by omega) _ (hf.p _ _) (fun j hj => by rw [xg_in, if_neg (by omega)]; exact hg j hj) (fun k hk => ?_)
          rw [xg_in]
          by_cases z : k = i
          · rw [if_pos (by omega), hi _ (by omega), z, if_neg (by omega), if_pos (by omega)]
          · rw [if_neg (by omega), hi k hk]
            by_cases y : f ≤ k ∧ k < i
            · rw [if_pos y, if_pos (by omega)]
            · rw [if_neg y, if_neg (by omega)]
        refine xm_run_go hm 30 ⟨fun q => ?_, fun _ => ⟨30 + (i + 1), ⟨by omega, xn_31 _⟩, 30 + i, ⟨by omega, xn_30 _⟩, xm_cut hm nx⟩⟩
        exact absurd q (nI_ge hlt (by split at hi2 <;> omega))
    have nx := loop1 ((if f ≤ s then s else f) - f) f (by split <;> omega) (Nat.le_refl _) g mF33.rf (fun _ _ => rfl) (fun k hk => by rw [if_neg (by omega)]; exact r2 k hk)
    rw [← hfrom] at nx
    exact xm_run_go hm 20 ⟨(p, lv, t, c), ⟨rfl, hp, h⟩, xm_cut hm nx⟩
def xt_X9_shownOn : xT := xm_fn (Z := Int32 × Nat × vSt × vSc) (fun (s, lv, t, c) av g => av = [.ref 0, .int s] ∧ mIn lv t c g) (fun (s, lv, t, c) _ => some (.int (vShow t c s))) (fun _ g => g)
set_option maxRecDepth 100000 in
set_option maxHeartbeats 400000 in
theorem xp_X9_shownOn {l : Launch} {D : va_G} {cA : Nat → ClassId} {B : List (Nat × Cell)} : xm_Met l D cA B xs_M 2 yX9_shownOn cX9_shownOn 4 (some .int) xt_X9_shownOn := by
  have hm : xm_monos [xt_X9_pictureOf] := ⟨(by first | exact xm_fn_mono _ _ _ | exact xm_rl_mono _ _), trivial⟩
  refine xm_meth (own := RX9) (ks := xk_X9_shownOn) (C := xc_X9_shownOn) (Ts := [xt_X9_pictureOf]) (by decide +kernel) rfl xm_clsok xs_M_ok xf_X9_ok xi_X9_ok xj_X9_ok (xm_lk xl_X9_336 xp_X9_pictureOf (by decide) xm_lk0) xo_X9_shownOn ?_ ?_
  · rintro av g Q ⟨z, ⟨rfl, -⟩, -⟩
    exact Nat.le_of_ble_eq_true rfl
  · rintro av g Q ⟨⟨s, lv, t, c⟩, ⟨rfl, h⟩, hQ⟩
    dsimp only at h hQ
    have m6 := h.m6
    have hl := h.lv
    have loop : ∀ d p, p + d = tM t → ∀ v, v = vBits (fun p => vPic t c p = s) p → xm_go xs_M xk_X9_shownOn [xt_X9_pictureOf] xc_X9_shownOn Q (xm_drop 4 xc_X9_shownOn) [.ref 0, .int s, .int v, .int (nI p)] [] g := by
      intro d
      induction d with
      | zero =>
        intro p hp v hv
        have hp : p = tM t := by omega
        subst hp
        refine xm_run_go hm 20 ⟨lv, ⟨hl, h.l⟩, ⟨fun _ => xq_i hQ hv, fun z => ?_⟩⟩
        rw [h.m] at z
        exact absurd z (nI_nlt (Nat.le_refl _) (by omega))
      | succ d ih =>
        intro p hp v hv
        have hpm : p < tM t := by omega
        have p6 : p < 6 := by omega
        have nx := ih (p + 1) (by omega)
        rw [nI_succ] at nx
        refine xm_run_go hm 30 ⟨lv, ⟨hl, h.l⟩, ⟨fun z => ?_, fun _ => ⟨(p, lv, t, c), ⟨rfl, p6, h⟩, ⟨fun z => xm_cut hm (nx _ ?_), fun z => xm_cut hm (nx _ ?_)⟩⟩⟩⟩
        · rw [h.m] at z
          exact absurd z (nI_ge hpm (by omega))
        · rw [vBits_f z, hv]
        · rw [vBits_t z, hv]
    exact xm_run_go hm 20 (xm_cut hm (loop (tM t) 0 (by omega) _ rfl))
