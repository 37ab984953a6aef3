-- what a law is asked of
def mF3 (g g' : xG) : Prop := (∀ k, k ≠ 30 → g'.1 k = g.1 k) ∧ g'.2 = g.2
theorem mF3.a {g g' : xG} (h : mF3 g g') : mFa g g' := ⟨fun k _ b _ => h.1 k b, fun j _ => by rw [h.1 0 (by decide)], h.2⟩
theorem mF3.rf {g : xG} : mF3 g g := ⟨fun _ _ => rfl, rfl⟩
theorem mF3.p {g g1 : xG} (h : mF3 g g1) (j : Nat) (v : Int32) : mF3 g (xm_sI g1 30 j v) := ⟨fun a h1 => (xg_off g1 j v h1).trans (h.1 a h1), h.2⟩
def xt_X9_looks : xT := xm_rl (Z := Nat × Int32 × Nat × vSt × vSc) (fun (p, x, lv, t, c) av g => av = [.ref 0, .int (nI p), .int x] ∧ p < tM t ∧ (x = -2 ∨ ∃ s, s < tN t ∧ x = nI s) ∧ mIn lv t c g) (fun (p, x, lv, t, c) g o g' => o = none ∧ mF3 g g' ∧ ∀ i, i < 9 → g'.1 30 i = vVar t c p x i)
set_option maxRecDepth 100000 in
set_option maxHeartbeats 400000 in
theorem xp_X9_looks {l : Launch} {D : va_G} {cA : Nat → ClassId} {B : List (Nat × Cell)} : xm_Met l D cA B xs_M 5 yX9_looks cX9_looks 4 none xt_X9_looks := by
  have hm : xm_monos [xt_X9_seatOf, xt_X9_glowAt, xt_X9_joinsAt, xt_X9_allGlow] := ⟨(by first | exact xm_fn_mono _ _ _ | exact xm_rl_mono _ _), (by first | exact xm_fn_mono _ _ _ | exact xm_rl_mono _ _), (by first | exact xm_fn_mono _ _ _ | exact xm_rl_mono _ _), (by first | exact xm_fn_mono _ _ _ | exact xm_rl_mono _ _), trivial⟩
  refine xm_meth (own := RX9) (ks := xk_X9_looks) (C := xc_X9_looks) (Ts := [xt_X9_seatOf, xt_X9_glowAt, xt_X9_joinsAt, xt_X9_allGlow]) (by decide +kernel) rfl xm_clsok xs_M_ok xf_X9_ok xi_X9_ok xj_X9_ok (xm_lk xl_X9_358 xp_X9_seatOf (by decide) (xm_lk xl_X9_327 xp_X9_glowAt (by decide) (xm_lk xl_X9_361 xp_X9_joinsAt (by decide) (xm_lk xl_X9_364 xp_X9_allGlow (by decide) xm_lk0)))) xo_X9_looks ?_ ?_
  · rintro av g Q ⟨z, ⟨rfl, -⟩, -⟩
    exact Nat.le_of_ble_eq_true rfl
  · rintro av g Q ⟨⟨p, x, lv, t, c⟩, ⟨rfl, hp, hx, h⟩, hQ⟩
    dsimp only at hp hx h hQ
    have m6 := h.m6
    have n5 := h.n5
    have hl := h.lv
    have p6 : p < 6 := by omega
    have k6 : cS c p < 6 := by have := (h.2.1.2.1 p hp).1; omega
    obtain ⟨s1, s2, s3, s4, s5, s6, s7, s8⟩ := h.2.2.1
    obtain ⟨r1, r2, r3, r4⟩ := h.2.2.2
    have jj : vJa t c (cS c p) = vJoins t c p := rfl
    have i6 : 6 * nI lv + nI p = nI (6 * lv + p) := xn_6 lv p
    have wp := s6 p hp
    have dec : ∀ i, i < 9 → i = 0 ∨ i = 1 ∨ i = 2 ∨ i = 3 ∨ i = 4 ∨ i = 5 ∨ i = 6 ∨ i = 7 ∨ i = 8 := fun i hi => by omega
    rcases hx with rfl | ⟨s, hs, rfl⟩
    · have inn : ∀ {g1}, mF3 g g1 → mIn lv t c g1 := fun f => h.a f.a
      refine xm_run_go hm 120 ⟨(p, lv, t, c), ⟨rfl, hp, h⟩, ⟨fun z => absurd z (by decide), fun _ => ⟨0, ⟨by decide, rfl⟩, 6 * lv + p, ⟨by omega, ?_⟩, 1, ⟨by decide, rfl⟩, ⟨fun z => absurd z (by decide), fun _ => ⟨2, ⟨by decide, rfl⟩, 36, ⟨by decide, rfl⟩, 3, ⟨by decide, rfl⟩, 4, ⟨by decide, rfl⟩, (cS c p, lv, t, c), ⟨rfl, k6, inn (((((mF3.rf.p _ _).p _ _).p _ _).p _ _).p _ _)⟩, 5, ⟨by decide, rfl⟩, ⟨fun z => absurd z (by decide), fun _ => ⟨6, ⟨by decide, rfl⟩, (p, lv, t, c), ⟨rfl, p6, inn (((((((mF3.rf.p _ _).p _ _).p _ _).p _ _).p _ _).p _ _).p _ _)⟩, 0, ⟨by decide, rfl⟩, 7, ⟨by decide, rfl⟩, lv, ⟨hl, ?_⟩, 8, ⟨by decide, rfl⟩, hQ _ _ ⟨rfl, (((((((((mF3.rf.p _ _).p _ _).p _ _).p _ _).p _ _).p _ _).p _ _).p _ _).p _ _), ?_⟩⟩⟩⟩⟩⟩⟩⟩
      · rw [xg_off _ _ _ (by decide), s2]; exact i6
      · simp only [xg_off _ _ _ (show (0 : Nat) ≠ 30 by decide)]; exact s2
      · intro i hi
        simp only [xg_in, xg_off _ _ _ (show (33 : Nat) ≠ 30 by decide), xg_off _ _ _ (show (15 : Nat) ≠ 30 by decide), xg_off _ _ _ (show (10 : Nat) ≠ 30 by decide)]
        rcases dec i hi with rfl | rfl | rfl | rfl | rfl | rfl | rfl | rfl | rfl
        · rfl
        · exact wp
        · rfl
        · exact r3
        · rfl
        · exact congrArg nI jj
        · rfl
        · rfl
        · exact s3
    · have inn : ∀ {g1}, mF3 g g1 → mIn lv t c g1 := fun f => h.a f.a
      have hs5 : s < 5 := by omega
      have neg : ¬ nI s < 0 := nI_pos (by omega)
      have i5 : 5 * nI lv + nI s = nI (5 * lv + s) := xn_5 lv s
      have gl := r1 (p * 5 + s) (by omega)
      have br := (s5 s hs).2.2
      refine xm_run_go hm 120 ⟨(p, lv, t, c), ⟨rfl, hp, h⟩, ⟨fun _ => ⟨(p, s), ⟨rfl, p6, hs5⟩, 0, ⟨by decide, rfl⟩, 6 * lv + p, ⟨by omega, ?_⟩, 1, ⟨by decide, rfl⟩, ⟨fun _ => ⟨5 * lv + s, ⟨by omega, ?_⟩, 2, ⟨by decide, rfl⟩, 36, ⟨by decide, rfl⟩, 3, ⟨by decide, rfl⟩, 4, ⟨by decide, rfl⟩, (cS c p, lv, t, c), ⟨rfl, k6, inn (((((mF3.rf.p _ _).p _ _).p _ _).p _ _).p _ _)⟩, 5, ⟨by decide, rfl⟩, ⟨fun _ => ⟨6, ⟨by decide, rfl⟩, (p, lv, t, c), ⟨rfl, p6, inn (((((((mF3.rf.p _ _).p _ _).p _ _).p _ _).p _ _).p _ _).p _ _)⟩, 0, ⟨by decide, rfl⟩, 7, ⟨by decide, rfl⟩, lv, ⟨hl, ?_⟩, 8, ⟨by decide, rfl⟩, hQ _ _ ⟨rfl, (((((((((mF3.rf.p _ _).p _ _).p _ _).p _ _).p _ _).p _ _).p _ _).p _ _).p _ _), ?_⟩⟩, fun z => absurd z neg⟩⟩, fun z => absurd z neg⟩⟩, fun z => absurd z neg⟩⟩
      · rw [xg_off _ _ _ (by decide), s2]; exact i6
      · simp only [xg_off _ _ _ (show (0 : Nat) ≠ 30 by decide)]; rw [s2]; exact i5
      · simp only [xg_off _ _ _ (show (0 : Nat) ≠ 30 by decide)]; exact s2
      · intro i hi
        simp only [xg_in, xg_off _ _ _ (show (33 : Nat) ≠ 30 by decide), xg_off _ _ _ (show (15 : Nat) ≠ 30 by decide), xg_off _ _ _ (show (10 : Nat) ≠ 30 by decide), xg_off _ _ _ (show (13 : Nat) ≠ 30 by decide)]
        have cl : (nI s).toNatClampNeg = s := nI_clamp (by omega)
        rcases dec i hi with rfl | rfl | rfl | rfl | rfl | rfl | rfl | rfl | rfl
        · show g.1 33 (p * 5 + s) = if nI s < 0 then 0 else cG c (p * 5 + (nI s).toNatClampNeg)
          rw [if_neg neg, cl]; exact gl
        · exact wp
        · show g.1 13 (5 * lv + s) = if nI s < 0 then 0 else tB t (nI s).toNatClampNeg
          rw [if_neg neg, cl]; exact br
        · exact r3
        · rfl
        · exact congrArg nI jj
        · show nI s = if nI s < 0 then 0 else nI s
          rw [if_neg neg]
        · show vTot t c p - g.1 33 (p * 5 + s) = vTot t c p - (if nI s < 0 then 0 else cG c (p * 5 + (nI s).toNatClampNeg))
          rw [if_neg neg, cl, gl]
        · exact s3
def xt_X9_takesOf : xT := xm_rl (Z := Nat × Nat × Nat × vSt × vSc) (fun (p, s, lv, t, c) av g => av = [.ref 0, .int (nI p), .int (nI s)] ∧ p < tM t ∧ s < tN t ∧ mIn lv t c g) (fun (p, s, lv, t, c) g o g' => o = some (.int (vTakes t c p (nI s))) ∧ mFa g g')
set_option maxRecDepth 100000 in
set_option maxHeartbeats 400000 in
theorem xp_X9_takesOf {l : Launch} {D : va_G} {cA : Nat → ClassId} {B : List (Nat × Cell)} : xm_Met l D cA B xs_M 6 yX9_takesOf cX9_takesOf 3 (some .int) xt_X9_takesOf := by
  have hm : xm_monos [xt_X9_looks, xt_X9_lawTells, xt_X9_within] := ⟨(by first | exact xm_fn_mono _ _ _ | exact xm_rl_mono _ _), (by first | exact xm_fn_mono _ _ _ | exact xm_rl_mono _ _), (by first | exact xm_fn_mono _ _ _ | exact xm_rl_mono _ _), trivial⟩
  refine xm_meth (own := RX9) (ks := xk_X9_takesOf) (C := xc_X9_takesOf) (Ts := [xt_X9_looks, xt_X9_lawTells, xt_X9_within]) (by decide +kernel) rfl xm_clsok xs_M_ok xf_X9_ok xi_X9_ok xj_X9_ok (xm_lk xl_X9_367 xp_X9_looks (by decide) (xm_lk xl_X9_370 xp_X9_lawTells (by decide) (xm_lk xl_X9_373 xp_X9_within (by decide) xm_lk0))) xo_X9_takesOf ?_ ?_
  · rintro av g Q ⟨z, ⟨rfl, -⟩, -⟩
    exact Nat.le_of_ble_eq_true rfl
  · rintro av g Q ⟨⟨p, s, lv, t, c⟩, ⟨rfl, hp, hs, h⟩, hQ⟩
    dsimp only at hp hs h hQ
    refine xm_run_go hm 30 ⟨(p, nI s, lv, t, c), ⟨rfl, hp, Or.inr ⟨s, hs, rfl⟩, h⟩, ?_⟩
    rintro o g1 ⟨rfl, f1, v1⟩
    have i1 := h.a f1.a
    refine ⟨2, ⟨by decide, rfl⟩, (0, g1.1 30 2, lv, vVar t c p (nI s), tX t 0), ⟨rfl, by decide, h.lv, i1.l, i1.2.2.1.2.2.2.2.2.2.2 0 (by decide), (v1 2 (by decide)).symm, v1⟩, ?_⟩
    rintro o g2 ⟨rfl, f2⟩
    refine ⟨(tX t 0 (vVar t c p (nI s)), 0, 99), ⟨rfl, trivial⟩, hQ _ _ ⟨?_, f1.a.tr f2.a⟩⟩
    rw [vTakes, ← vWi_held _ (by decide)]
def xt_X9_fadesOf : xT := xm_rl (Z := Nat × Nat × Nat × vSt × vSc) (fun (p, s, lv, t, c) av g => av = [.ref 0, .int (nI p), .int (nI s)] ∧ p < tM t ∧ s < tN t ∧ mIn lv t c g) (fun (p, s, lv, t, c) g o g' => o = some (.int (vFades t c p (nI s))) ∧ mFa g g')
set_option maxRecDepth 100000 in
set_option maxHeartbeats 400000 in
theorem xp_X9_fadesOf {l : Launch} {D : va_G} {cA : Nat → ClassId} {B : List (Nat × Cell)} : xm_Met l D cA B xs_M 6 yX9_fadesOf cX9_fadesOf 3 (some .int) xt_X9_fadesOf := by
  have hm : xm_monos [xt_X9_looks, xt_X9_lawTells, xt_X9_within] := ⟨(by first | exact xm_fn_mono _ _ _ | exact xm_rl_mono _ _), (by first | exact xm_fn_mono _ _ _ | exact xm_rl_mono _ _), (by first | exact xm_fn_mono _ _ _ | exact xm_rl_mono _ _), trivial⟩
  refine xm_meth (own := RX9) (ks := xk_X9_fadesOf) (C := xc_X9_fadesOf) (Ts := [xt_X9_looks, xt_X9_lawTells, xt_X9_within]) (by decide +kernel) rfl xm_clsok xs_M_ok xf_X9_ok xi_X9_ok xj_X9_ok (xm_lk xl_X9_367 xp_X9_looks (by decide) (xm_lk xl_X9_370 xp_X9_lawTells (by decide) (xm_lk xl_X9_373 xp_X9_within (by decide) xm_lk0))) xo_X9_fadesOf ?_ ?_
  · rintro av g Q ⟨z, ⟨rfl, -⟩, -⟩
    exact Nat.le_of_ble_eq_true rfl
  · rintro av g Q ⟨⟨p, s, lv, t, c⟩, ⟨rfl, hp, hs, h⟩, hQ⟩
    dsimp only at hp hs h hQ
    refine xm_run_go hm 30 ⟨(p, nI s, lv, t, c), ⟨rfl, hp, Or.inr ⟨s, hs, rfl⟩, h⟩, ?_⟩
    rintro o g1 ⟨rfl, f1, v1⟩
    have i1 := h.a f1.a
    refine ⟨(1, 1, lv, vVar t c p (nI s), tX t 1), ⟨rfl, by decide, h.lv, i1.l, i1.2.2.1.2.2.2.2.2.2.2 1 (by decide), rfl, v1⟩, ?_⟩
    rintro o g2 ⟨rfl, f2⟩
    refine ⟨(tX t 1 (vVar t c p (nI s)), 0, 99), ⟨rfl, trivial⟩, hQ _ _ ⟨?_, f1.a.tr f2.a⟩⟩
    rw [vFades, ← vWi_held _ (by decide)]
def xt_X9_paysOf : xT := xm_rl (Z := Nat × Nat × vSt × vSc) (fun (p, lv, t, c) av g => av = [.ref 0, .int (nI p)] ∧ p < tM t ∧ mIn lv t c g) (fun (p, lv, t, c) g o g' => o = some (.int (vPays t c p)) ∧ mFa g g')
set_option maxRecDepth 100000 in
set_option maxHeartbeats 400000 in
theorem xp_X9_paysOf {l : Launch} {D : va_G} {cA : Nat → ClassId} {B : List (Nat × Cell)} : xm_Met l D cA B xs_M 6 yX9_paysOf cX9_paysOf 3 (some .int) xt_X9_paysOf := by
  have hm : xm_monos [xt_X9_pictureOf, xt_X9_looks, xt_X9_lawTells, xt_X9_within] := ⟨(by first | exact xm_fn_mono _ _ _ | exact xm_rl_mono _ _), (by first | exact xm_fn_mono _ _ _ | exact xm_rl_mono _ _), (by first | exact xm_fn_mono _ _ _ | exact xm_rl_mono _ _), (by first | exact xm_fn_mono _ _ _ | exact xm_rl_mono _ _), trivial⟩
  refine xm_meth (own := RX9) (ks := xk_X9_paysOf) (C := xc_X9_paysOf) (Ts := [xt_X9_pictureOf, xt_X9_looks, xt_X9_lawTells, xt_X9_within]) (by decide +kernel) rfl xm_clsok xs_M_ok xf_X9_ok xi_X9_ok xj_X9_ok (xm_lk xl_X9_336 xp_X9_pictureOf (by decide) (xm_lk xl_X9_367 xp_X9_looks (by decide) (xm_lk xl_X9_370 xp_X9_lawTells (by decide) (xm_lk xl_X9_373 xp_X9_within (by decide) xm_lk0)))) xo_X9_paysOf ?_ ?_
  · rintro av g Q ⟨z, ⟨rfl, -⟩, -⟩
    exact Nat.le_of_ble_eq_true rfl
  · rintro av g Q ⟨⟨p, lv, t, c⟩, ⟨rfl, hp, h⟩, hQ⟩
    dsimp only at hp h hQ
    have m6 := h.m6
    have p6 : p < 6 := by omega
    refine xm_run_go hm 40 ⟨(p, lv, t, c), ⟨rfl, p6, h⟩, ⟨fun z => ⟨(p, vPic t c p, lv, t, c), ⟨rfl, hp, vPic_or h.1 c p, h⟩, ?_⟩, fun z => hQ _ _ ⟨by rw [vPays, if_pos z], mFa.rf⟩⟩⟩
    rintro o g1 ⟨rfl, f1, v1⟩
    have i1 := h.a f1.a
    refine ⟨0, ⟨by decide, rfl⟩, (2, g1.1 30 0, lv, vVar t c p (vPic t c p), tX t 2), ⟨rfl, by decide, h.lv, i1.l, i1.2.2.1.2.2.2.2.2.2.2 2 (by decide), (v1 0 (by decide)).symm, v1⟩, ?_⟩
    rintro o g2 ⟨rfl, f2⟩
    refine ⟨(tX t 2 (vVar t c p (vPic t c p)), 0, 99), ⟨rfl, trivial⟩, hQ _ _ ⟨?_, f1.a.tr f2.a⟩⟩
    rw [vPays, if_neg (Int32.not_lt.mpr z), ← vWi_held _ (by decide)]
def xt_X9_washesOf : xT := xm_rl (Z := Nat × Nat × vSt × vSc) (fun (p, lv, t, c) av g => av = [.ref 0, .int (nI p)] ∧ p < tM t ∧ mIn lv t c g) (fun (p, lv, t, c) g o g' => o = some (.int (vWashes t c p)) ∧ mFa g g')
set_option maxRecDepth 100000 in
set_option maxHeartbeats 400000 in
theorem xp_X9_washesOf {l : Launch} {D : va_G} {cA : Nat → ClassId} {B : List (Nat × Cell)} : xm_Met l D cA B xs_M 6 yX9_washesOf cX9_washesOf 2 (some .int) xt_X9_washesOf := by
  have hm : xm_monos [xt_X9_pictureOf, xt_X9_looks, xt_X9_lawTells, xt_X9_within] := ⟨(by first | exact xm_fn_mono _ _ _ | exact xm_rl_mono _ _), (by first | exact xm_fn_mono _ _ _ | exact xm_rl_mono _ _), (by first | exact xm_fn_mono _ _ _ | exact xm_rl_mono _ _), (by first | exact xm_fn_mono _ _ _ | exact xm_rl_mono _ _), trivial⟩
  refine xm_meth (own := RX9) (ks := xk_X9_washesOf) (C := xc_X9_washesOf) (Ts := [xt_X9_pictureOf, xt_X9_looks, xt_X9_lawTells, xt_X9_within]) (by decide +kernel) rfl xm_clsok xs_M_ok xf_X9_ok xi_X9_ok xj_X9_ok (xm_lk xl_X9_336 xp_X9_pictureOf (by decide) (xm_lk xl_X9_367 xp_X9_looks (by decide) (xm_lk xl_X9_370 xp_X9_lawTells (by decide) (xm_lk xl_X9_373 xp_X9_within (by decide) xm_lk0)))) xo_X9_washesOf ?_ ?_
  · rintro av g Q ⟨z, ⟨rfl, -⟩, -⟩
    exact Nat.le_of_ble_eq_true rfl
  · rintro av g Q ⟨⟨p, lv, t, c⟩, ⟨rfl, hp, h⟩, hQ⟩
    dsimp only at hp h hQ
    have m6 := h.m6
    have p6 : p < 6 := by omega
    refine xm_run_go hm 40 ⟨(p, lv, t, c), ⟨rfl, p6, h⟩, (p, vPic t c p, lv, t, c), ⟨rfl, hp, vPic_or h.1 c p, h⟩, ?_⟩
    rintro o g1 ⟨rfl, f1, v1⟩
    have i1 := h.a f1.a
    refine ⟨(3, 0, lv, vVar t c p (vPic t c p), tX t 3), ⟨rfl, by decide, h.lv, i1.l, i1.2.2.1.2.2.2.2.2.2.2 3 (by decide), rfl, v1⟩, ?_⟩
    rintro o g2 ⟨rfl, f2⟩
    refine ⟨(tX t 3 (vVar t c p (vPic t c p)), 0, 100), ⟨rfl, trivial⟩, hQ _ _ ⟨?_, f1.a.tr f2.a⟩⟩
    rw [vWashes, ← vWi_held _ (by decide)]
def xt_X9_paysAll : xT := xm_rl (Z := Nat × vSt × vSc) (fun (lv, t, c) av g => av = [.ref 0] ∧ mIn lv t c g) (fun (lv, t, c) g o g' => o = some (.int (vSum (vPays t c) (tM t))) ∧ mFa g g')
set_option maxRecDepth 100000 in
set_option maxHeartbeats 400000 in
theorem xp_X9_paysAll {l : Launch} {D : va_G} {cA : Nat → ClassId} {B : List (Nat × Cell)} : xm_Met l D cA B xs_M 7 yX9_paysAll cX9_paysAll 3 (some .int) xt_X9_paysAll := by
  have hm : xm_monos [xt_X9_paysOf] := ⟨(by first | exact xm_fn_mono _ _ _ | exact xm_rl_mono _ _), trivial⟩
  refine xm_meth (own := RX9) (ks := xk_X9_paysAll) (C := xc_X9_paysAll) (Ts := [xt_X9_paysOf]) (by decide +kernel) rfl xm_clsok xs_M_ok xf_X9_ok xi_X9_ok xj_X9_ok (xm_lk xl_X9_376 xp_X9_paysOf (by decide) xm_lk0) xo_X9_paysAll ?_ ?_
  · rintro av g Q ⟨z, ⟨rfl, -⟩, -⟩
    exact Nat.le_of_ble_eq_true rfl
  · rintro av g Q ⟨⟨lv, t, c⟩, ⟨rfl, h⟩, hQ⟩
    dsimp only at h hQ
    have m6 := h.m6
    have hl := h.lv
    have loop : ∀ d p, p + d = tM t → ∀ v, v = vSum (vPays t c) p → ∀ g1, mFa g g1 → xm_go xs_M xk_X9_paysAll [xt_X9_paysOf] xc_X9_paysAll Q (xm_drop 4 xc_X9_paysAll) [.ref 0, .int v, .int (nI p)] [] g1 := by
      intro d
      induction d with
      | zero =>
        intro p hp v hv g1 f1
        have hp : p = tM t := by omega
        subst hp
        have i1 := h.a f1
        refine xm_run_go hm 20 ⟨lv, ⟨hl, i1.l⟩, ⟨fun _ => hQ _ _ ⟨by rw [hv], f1⟩, fun z => ?_⟩⟩
        rw [i1.m] at z
        exact absurd z (nI_nlt (Nat.le_refl _) (by omega))
      | succ d ih =>
        intro p hp v hv g1 f1
        have hpm : p < tM t := by omega
        have i1 := h.a f1
        have nx := ih (p + 1) (by omega)
        rw [nI_succ] at nx
        refine xm_run_go hm 30 ⟨lv, ⟨hl, i1.l⟩, ⟨fun z => ?_, fun _ => ⟨(p, lv, t, c), ⟨rfl, hpm, i1⟩, ?_⟩⟩⟩
        · rw [i1.m] at z
          exact absurd z (nI_ge hpm (by omega))
        · rintro o g2 ⟨rfl, f2⟩
          exact xm_cut hm (nx _ (by rw [vSum, hv]) g2 (f1.tr f2))
    exact xm_run_go hm 20 (xm_cut hm (loop (tM t) 0 (by omega) _ rfl g mFa.rf))
-- what happens
def mFb (g g' : xG) : Prop := (∀ k, k ≠ 0 → k ≠ 30 → k ≠ 31 → k ≠ 33 → k ≠ 34 → g'.1 k = g.1 k) ∧ (∀ j, j ≠ 48 → g'.1 0 j = g.1 0 j) ∧ g'.2 = g.2
theorem mFb.rf {g : xG} : mFb g g := ⟨fun _ _ _ _ _ _ => rfl, fun _ _ => rfl, rfl⟩
theorem mFb.tr {g g1 g2 : xG} (h : mFb g g1) (h2 : mFb g1 g2) : mFb g g2 := ⟨fun k a b c d e => (h2.1 k a b c d e).trans (h.1 k a b c d e), fun j a => (h2.2.1 j a).trans (h.2.1 j a), h2.2.2.trans h.2.2⟩
theorem mFa.b' {g g' : xG} (h : mFa g g') : mFb g g' := ⟨fun k a b c _ _ => h.1 k a b c, h.2⟩
theorem mFb.p {g g1 : xG} (h : mFb g g1) {k : Nat} (j : Nat) (v : Int32) (hk : k = 33 ∨ k = 34) : mFb g (xm_sI g1 k j v) := ⟨fun a h1 h2 h3 h4 h5 => (xg_off g1 j v (by omega)).trans (h.1 a h1 h2 h3 h4 h5), fun i hi => by rw [xg_off g1 j v (by omega)]; exact h.2.1 i hi, h.2.2⟩
theorem mSto.b {lv : Nat} {t : vSt} {g g' : xG} (h : mSto lv t g) (f : mFb g g') : mSto lv t g' := h.fr (f.2.1 18 (by omega)) (fun k h1 h2 => f.1 k (by omega) (by omega) (by omega) (by omega) (by omega))
theorem vHeld_min {x : Int32} (h : 0 ≤ x) : vHeld x 99 = vMin 99 x := by
  unfold vHeld
  have : 0 ≤ vMin 99 x := by unfold vMin; split; exact h; decide
  unfold vMax
  by_cases z : 0 < vMin 99 x
  · rw [if_pos z]
  · rw [if_neg z]; exact Int32.le_antisymm this (Int32.not_lt.mp z)
theorem vThrow_raw {t : vSt} {c : vSc} {p s : Nat} {g1 : xG} (ht : vTok t) (hc : vCok t c) (hp : p < tM t) (hs : s < tN t) (h : mRaw 33 c g1) : mRaw 33 (vThrow t c p s) (xm_sI g1 33 (p * 5 + s) (vWi (cG c (p * 5 + s) + vTakes t c p (nI s)) 0 99)) := by
  have m6 := ht.2.1
  have n5 := ht.1
  refine ⟨fun i hi => ?_, fun k hk => ?_, ?_, ?_⟩
  · rw [xg_in]
    show _ = if i = p * 5 + s then vMin 99 (cG c (p * 5 + s) + vTakes t c p (nI s)) else cG c i
    by_cases z : i = p * 5 + s
    · rw [if_pos z, if_pos z, vWi_held _ (by decide), vHeld_min]
      have a := xi_in (hc.2.2.2.1 (p * 5 + s) (by omega)).1 (hc.2.2.2.1 (p * 5 + s) (by omega)).2
      have b' := vHeld_in (tX t 0 (vVar t c p (nI s))) 99 (by decide)
      have b := xi_in b'.1 b'.2
      have e := xi_add (x := cG c (p * 5 + s)) (y := vTakes t c p (nI s)) rfl rfl (by unfold vTakes; omega) (by unfold vTakes; omega)
      rw [xi_le, e]
      have : (0 : Int32).toInt = 0 := by decide
      rw [this]
      unfold vTakes
      omega
    · rw [if_neg z, if_neg z]; exact h.1 i hi
  · rw [xg_in, if_neg (by omega)]; exact h.2.1 k hk
  · rw [xg_in, if_neg (by omega)]; exact h.2.2.1
  · rw [xg_in, if_neg (by omega)]; exact h.2.2.2
def xt_X9_throwsUpon : xT := xm_rl (Z := Nat × Nat × Nat × vSt × vSc) (fun (p, s, lv, t, c) av g => av = [.ref 0, .int (nI p), .int (nI s)] ∧ p < tM t ∧ s < tN t ∧ mIn lv t c g) (fun (p, s, lv, t, c) g o g' => o = none ∧ mIn lv t (vThrow t c p s) g' ∧ mFb g g')
set_option maxRecDepth 100000 in
set_option maxHeartbeats 400000 in
theorem xp_X9_throwsUpon {l : Launch} {D : va_G} {cA : Nat → ClassId} {B : List (Nat × Cell)} : xm_Met l D cA B xs_M 7 yX9_throwsUpon cX9_throwsUpon 3 none xt_X9_throwsUpon := by
  have hm : xm_monos [xt_X9_glowAt, xt_X9_takesOf, xt_X9_within] := ⟨(by first | exact xm_fn_mono _ _ _ | exact xm_rl_mono _ _), (by first | exact xm_fn_mono _ _ _ | exact xm_rl_mono _ _), (by first | exact xm_fn_mono _ _ _ | exact xm_rl_mono _ _), trivial⟩
  refine xm_meth (own := RX9) (ks := xk_X9_throwsUpon) (C := xc_X9_throwsUpon) (Ts := [xt_X9_glowAt, xt_X9_takesOf, xt_X9_within]) (by decide +kernel) rfl xm_clsok xs_M_ok xf_X9_ok xi_X9_ok xj_X9_ok (xm_lk xl_X9_327 xp_X9_glowAt (by decide) (xm_lk xl_X9_379 xp_X9_takesOf (by decide) (xm_lk xl_X9_373 xp_X9_within (by decide) xm_lk0))) xo_X9_throwsUpon ?_ ?_
  · rintro av g Q ⟨z, ⟨rfl, -⟩, -⟩
    exact Nat.le_of_ble_eq_true rfl
  · rintro av g Q ⟨⟨p, s, lv, t, c⟩, ⟨rfl, hp, hs, h⟩, hQ⟩
    dsimp only at hp hs h hQ
    have m6 := h.m6
    have n5 := h.n5
    have p6 : p < 6 := by omega
    have s5 : s < 5 := by omega
    refine xm_run_go hm 40 ⟨(p, s), ⟨rfl, p6, s5⟩, (p, s, lv, t, c), ⟨rfl, hp, hs, h⟩, ?_⟩
    rintro o g1 ⟨rfl, f1⟩
    have i1 := h.a f1
    refine ⟨(g.1 33 (p * 5 + s) + vTakes t c p (nI s), 0, 99), ⟨rfl, trivial⟩, p * 5 + s, ⟨by omega, ?_⟩, hQ _ _ ⟨rfl, ⟨h.1, vThrow_ok h.1 h.2.1 hp hs, i1.2.2.1.b (mFb.rf.p _ _ (by omega)), ?_⟩, f1.b'.p _ _ (by omega)⟩⟩
    · rw [xn_5, Nat.mul_comm]
    · rw [h.2.2.2.1 (p * 5 + s) (by omega)]
      exact vThrow_raw h.1 h.2.1 hp hs i1.2.2.2
def xt_X9_washesOff : xT := xm_rl (Z := Nat) (fun p av g => av = [.ref 0, .int (nI p)] ∧ p < 6) (fun p g o g' => o = none ∧ (∀ k, k ≠ 33 → g'.1 k = g.1 k) ∧ g'.2 = g.2 ∧ ∀ i, g'.1 33 i = if p * 5 ≤ i ∧ i < p * 5 + 5 then g.1 33 i / 2 else g.1 33 i)
set_option maxRecDepth 100000 in
set_option maxHeartbeats 400000 in
theorem xp_X9_washesOff {l : Launch} {D : va_G} {cA : Nat → ClassId} {B : List (Nat × Cell)} : xm_Met l D cA B xs_M 0 yX9_washesOff cX9_washesOff 3 none xt_X9_washesOff := by
  have hm : xm_monos [] := xm_m0
  refine xm_meth (own := RX9) (ks := xk_X9_washesOff) (C := xc_X9_washesOff) (Ts := []) (by decide +kernel) rfl xm_clsok xs_M_ok xf_X9_ok xi_X9_ok xj_X9_ok xm_lk0 xo_X9_washesOff ?_ ?_
  · rintro av g Q ⟨z, ⟨rfl, -⟩, -⟩
    exact Nat.le_of_ble_eq_true rfl
  · rintro av g Q ⟨p, ⟨rfl, hp⟩, hQ⟩
    dsimp only at hp hQ
    have loop : ∀ d s, s + d = 5 → ∀ g1, (∀ k, k ≠ 33 → g1.1 k = g.1 k) → g1.2 = g.2 → (∀ i, g1.1 33 i = if p * 5 ≤ i ∧ i < p * 5 + s then g.1 33 i / 2 else g.1 33 i) → xm_go xs_M xk_X9_washesOff [] xc_X9_washesOff Q (xm_drop 2 xc_X9_washesOff) [.ref 0, .int (nI p), .int (nI s)] [] g1 := by
      intro d
      induction d with
      | zero =>
        intro s hs g1 f1 f2 f3
        have hs : s = 5 := by omega
        subst hs
        exact xm_run_go hm 20 ⟨fun _ => hQ _ _ ⟨rfl, f1, f2, f3⟩, fun z => absurd z (by decide)⟩
      | succ d ih =>
        intro s hs g1 f1 f2 f3
        have nx := ih (s + 1) (by omega)
        rw [nI_succ] at nx
        have ix : 5 * nI p + nI s = nI (p * 5 + s) := by rw [xn_5, Nat.mul_comm]
        refine xm_run_go hm 30 ⟨fun z => absurd z (nI_ge (b := 5) (by omega) (by omega)), fun _ => ⟨p * 5 + s, ⟨by omega, ix⟩, by decide, p * 5 + s, ⟨by omega, ix⟩, xm_cut hm (nx _ (fun k hk => (xg_off _ _ _ hk).trans (f1 k hk)) f2 (fun i => ?_))⟩⟩
        rw [xg_in]
        by_cases z : i = p * 5 + s
        · rw [if_pos z, z, f3, if_neg (by omega), if_pos (by omega)]
        · rw [if_neg z, f3]
          by_cases y : p * 5 ≤ i ∧ i < p * 5 + s
          · rw [if_pos y, if_pos (by omega)]
          · rw [if_neg y, if_neg (by omega)]
    exact xm_run_go hm 20 (xm_cut hm (loop 5 0 rfl g (fun _ _ => rfl) rfl (fun i => by rw [if_neg (by omega)])))
def xt_X9_doesWash : xT := xm_rl (Z := Nat × Nat × vSt × vSc) (fun (p, lv, t, c) av g => av = [.ref 0, .int (nI p)] ∧ p < tM t ∧ mIn lv t c g) (fun (p, lv, t, c) g o g' => o = some (.int (vB (vLot (g.1 0 51) (8 * cK c + nI p) < vWashes t c p))) ∧ mFa g g')
set_option maxRecDepth 100000 in
set_option maxHeartbeats 400000 in
theorem xp_X9_doesWash {l : Launch} {D : va_G} {cA : Nat → ClassId} {B : List (Nat × Cell)} : xm_Met l D cA B xs_M 7 yX9_doesWash cX9_doesWash 2 (some .boolean) xt_X9_doesWash := by
  have hm : xm_monos [xt_X9_lotOf, xt_X9_washesOf] := ⟨(by first | exact xm_fn_mono _ _ _ | exact xm_rl_mono _ _), (by first | exact xm_fn_mono _ _ _ | exact xm_rl_mono _ _), trivial⟩
  refine xm_meth (own := RX9) (ks := xk_X9_doesWash) (C := xc_X9_doesWash) (Ts := [xt_X9_lotOf, xt_X9_washesOf]) (by decide +kernel) rfl xm_clsok xs_M_ok xf_X9_ok xi_X9_ok xj_X9_ok (xm_lk xl_X9_382 xp_X9_lotOf (by decide) (xm_lk xl_X9_385 xp_X9_washesOf (by decide) xm_lk0)) xo_X9_doesWash ?_ ?_
  · rintro av g Q ⟨z, ⟨rfl, -⟩, -⟩
    exact Nat.le_of_ble_eq_true rfl
  · rintro av g Q ⟨⟨p, lv, t, c⟩, ⟨rfl, hp, h⟩, hQ⟩
    dsimp only at hp h hQ
    have ek := h.2.2.2.2.2.1
    refine xm_run_go hm 40 ⟨36, ⟨by decide, rfl⟩, 8 * g.1 33 36 + nI p, ⟨rfl, trivial⟩, (p, lv, t, c), ⟨rfl, hp, h⟩, ?_⟩
    rintro o g1 ⟨rfl, f1⟩
    refine ⟨fun z => ⟨Or.inl rfl, hQ _ _ ⟨?_, f1⟩⟩, fun z => ⟨Or.inr rfl, hQ _ _ ⟨?_, f1⟩⟩⟩
    · rw [ek] at z
      rw [vB_f (Int32.not_lt.mpr z)]
    · rw [ek] at z
      rw [vB_t z]
def xt_X9_washBits : xT := xm_rl (Z := Nat × vSt × vSc) (fun (lv, t, c) av g => av = [.ref 0] ∧ mIn lv t c g) (fun (lv, t, c) g o g' => o = some (.int (vWashers t c (g.1 0 51))) ∧ mFa g g')
set_option maxRecDepth 100000 in
set_option maxHeartbeats 400000 in
theorem xp_X9_washBits {l : Launch} {D : va_G} {cA : Nat → ClassId} {B : List (Nat × Cell)} : xm_Met l D cA B xs_M 8 yX9_washBits cX9_washBits 3 (some .int) xt_X9_washBits := by
  have hm : xm_monos [xt_X9_doesWash] := ⟨(by first | exact xm_fn_mono _ _ _ | exact xm_rl_mono _ _), trivial⟩
  refine xm_meth (own := RX9) (ks := xk_X9_washBits) (C := xc_X9_washBits) (Ts := [xt_X9_doesWash]) (by decide +kernel) rfl xm_clsok xs_M_ok xf_X9_ok xi_X9_ok xj_X9_ok (xm_lk xl_X9_388 xp_X9_doesWash (by decide) xm_lk0) xo_X9_washBits ?_ ?_
  · rintro av g Q ⟨z, ⟨rfl, -⟩, -⟩
    exact Nat.le_of_ble_eq_true rfl
  · rintro av g Q ⟨⟨lv, t, c⟩, ⟨rfl, h⟩, hQ⟩
    dsimp only at h hQ
    have m6 := h.m6
    have hl := h.lv
    have loop : ∀ d p, p + d = tM t → ∀ v, v = vBits (fun p => vLot (g.1 0 51) (8 * cK c + nI p) < vWashes t c p) p → ∀ g1, mFa g g1 → xm_go xs_M xk_X9_washBits [xt_X9_doesWash] xc_X9_washBits Q (xm_drop 4 xc_X9_washBits) [.ref 0, .int v, .int (nI p)] [] g1 := by
      intro d
      induction d with
      | zero =>
        intro p hp v hv g1 f1
        have hp : p = tM t := by omega
        subst hp
        have i1 := h.a f1
        refine xm_run_go hm 20 ⟨lv, ⟨hl, i1.l⟩, ⟨fun _ => hQ _ _ ⟨by rw [hv]; rfl, f1⟩, fun z => ?_⟩⟩
        rw [i1.m] at z
        exact absurd z (nI_nlt (Nat.le_refl _) (by omega))
      | succ d ih =>
        intro p hp v hv g1 f1
        have hpm : p < tM t := by omega
        have i1 := h.a f1
        have e51 := f1.2.1 51 (by decide)
        have nx := ih (p + 1) (by omega)
        rw [nI_succ] at nx
        refine xm_run_go hm 30 ⟨lv, ⟨hl, i1.l⟩, ⟨fun z => ?_, fun _ => ⟨(p, lv, t, c), ⟨rfl, hpm, i1⟩, ?_⟩⟩⟩
        · rw [i1.m] at z
          exact absurd z (nI_ge hpm (by omega))
        · rintro o g2 ⟨rfl, f2⟩
          refine ⟨fun z => xm_cut hm (nx _ ?_ g2 (f1.tr f2)), fun z => xm_cut hm (nx _ ?_ g2 (f1.tr f2))⟩
          · rw [e51] at z
            rw [vBits_f (fun y => by rw [vB_t y] at z; exact absurd z (by decide)), hv]
          · rw [e51] at z
            rw [vBits_t (Classical.byContradiction fun y => z (vB_f y)), hv]
    exact xm_run_go hm 20 (xm_cut hm (loop (tM t) 0 (by omega) _ rfl g mFa.rf))
