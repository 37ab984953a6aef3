/-- a scene stands in its cells -/
def xIn (b : Nat) (t : vSt) (c : vSc) (g : xG) : Prop := (b = 11 ∨ b = 20) ∧ vTok t ∧ xSto 29 t g ∧ xScn b t c g
theorem xIn.fr {b : Nat} {t : vSt} {c : vSc} {g g' : xG} (h : xIn b t c g) (hf : xFr (b + 7) (b + 8) g g') : xIn b t c g' :=
  ⟨h.1, h.2.1, h.2.2.1.fr (fun k h1 h2 => hf.2 k (by have := h.1; omega)), h.2.2.2.fr hf.1 (fun k h1 h2 => hf.2 k (by omega))⟩
theorem xIn.f8 {b : Nat} {t : vSt} {c : vSc} {g g' : xG} (h : xIn b t c g) (hf : xFr (b + 8) (b + 8) g g') : xIn b t c g' := h.fr (hf.up (by omega) (by omega))
theorem xIn.st {b : Nat} {t : vSt} {c : vSc} {g : xG} (h : xIn b t c g) : g.2.2 b 10 = 29 := h.2.2.2.1.1
theorem xIn.n {b : Nat} {t : vSt} {c : vSc} {g : xG} (h : xIn b t c g) : g.1 29 8 = nI (tN t) := h.2.2.1.1
theorem xIn.m {b : Nat} {t : vSt} {c : vSc} {g : xG} (h : xIn b t c g) : g.1 29 9 = nI (tM t) := h.2.2.1.2.1
def xt_X3_takes : xT := xm_rl (Z := Nat × Nat × Nat × vSt × vSc) (fun (b, p, s, t, c) av g => av = [.ref b, .int (nI p), .int (nI s)] ∧ p < tM t ∧ s < tN t ∧ xIn b t c g) (fun (b, p, s, t, c) g o g' => o = some (.int (vTakes t c p (nI s))) ∧ xFr (b + 8) (b + 8) g g')
set_option maxRecDepth 100000 in
set_option maxHeartbeats 4000000 in
theorem xp_X3_takes {l : Launch} {D : va_G} {cA : Nat → ClassId} {B : List (Nat × Cell)} : xm_Met l D cA B xs_X 3 yX3_takes cX3_takes 3 (some .int) xt_X3_takes := by
  have hm : xm_monos [xt_X3_lawOf, xt_X3_held] := ⟨(by first | exact xm_fn_mono _ _ _ | exact xm_rl_mono _ _), (by first | exact xm_fn_mono _ _ _ | exact xm_rl_mono _ _), trivial⟩
  refine xm_meth (own := RX3) (ks := xk_X3_takes) (C := xc_X3_takes) (Ts := [xt_X3_lawOf, xt_X3_held]) (by decide +kernel) rfl xm_clsok xs_X_ok xf_X3_ok xi_X3_ok xj_X3_ok (xm_lk xl_X3_101 xp_X3_lawOf (by decide) (xm_lk xl_X3_105 xp_X3_held (by decide) xm_lk0)) xo_X3_takes ?_ ?_
  · rintro av g Q ⟨z, ⟨rfl, -⟩, -⟩
    exact Nat.le_of_ble_eq_true rfl
  · rintro av g Q ⟨⟨b, p, s, t, c⟩, ⟨rfl, hp, hs, h⟩, hQ⟩
    have h4 : (0 : Nat) < 4 := by decide
    have hb := h.1
    rcases hb with rfl | rfl
    all_goals
      refine xm_run_go hm 20 ⟨(_, 0, p, nI s, t, c), ⟨rfl, ?_, h4, hp, Or.inr ⟨s, hs, rfl⟩, h.2.1, h.2.2.1, h.2.2.2⟩, ?_⟩
      · first | exact Or.inl rfl | exact Or.inr rfl
      · rintro o g1 ⟨rfl, hf⟩
        exact ⟨(_, 99), ⟨rfl, trivial⟩, hQ _ _ ⟨rfl, hf⟩⟩
def xt_X3_fades : xT := xm_rl (Z := Nat × Nat × Nat × vSt × vSc) (fun (b, p, s, t, c) av g => av = [.ref b, .int (nI p), .int (nI s)] ∧ p < tM t ∧ s < tN t ∧ xIn b t c g) (fun (b, p, s, t, c) g o g' => o = some (.int (vFades t c p (nI s))) ∧ xFr (b + 8) (b + 8) g g')
set_option maxRecDepth 100000 in
set_option maxHeartbeats 4000000 in
theorem xp_X3_fades {l : Launch} {D : va_G} {cA : Nat → ClassId} {B : List (Nat × Cell)} : xm_Met l D cA B xs_X 3 yX3_fades cX3_fades 3 (some .int) xt_X3_fades := by
  have hm : xm_monos [xt_X3_lawOf, xt_X3_held] := ⟨(by first | exact xm_fn_mono _ _ _ | exact xm_rl_mono _ _), (by first | exact xm_fn_mono _ _ _ | exact xm_rl_mono _ _), trivial⟩
  refine xm_meth (own := RX3) (ks := xk_X3_fades) (C := xc_X3_fades) (Ts := [xt_X3_lawOf, xt_X3_held]) (by decide +kernel) rfl xm_clsok xs_X_ok xf_X3_ok xi_X3_ok xj_X3_ok (xm_lk xl_X3_101 xp_X3_lawOf (by decide) (xm_lk xl_X3_105 xp_X3_held (by decide) xm_lk0)) xo_X3_fades ?_ ?_
  · rintro av g Q ⟨z, ⟨rfl, -⟩, -⟩
    exact Nat.le_of_ble_eq_true rfl
  · rintro av g Q ⟨⟨b, p, s, t, c⟩, ⟨rfl, hp, hs, h⟩, hQ⟩
    have h4 : (1 : Nat) < 4 := by decide
    have hb := h.1
    rcases hb with rfl | rfl
    all_goals
      refine xm_run_go hm 20 ⟨(_, 1, p, nI s, t, c), ⟨rfl, ?_, h4, hp, Or.inr ⟨s, hs, rfl⟩, h.2.1, h.2.2.1, h.2.2.2⟩, ?_⟩
      · first | exact Or.inl rfl | exact Or.inr rfl
      · rintro o g1 ⟨rfl, hf⟩
        exact ⟨(_, 99), ⟨rfl, trivial⟩, hQ _ _ ⟨rfl, hf⟩⟩
theorem vPic_sl {t : vSt} (ht : vTok t) (c : vSc) (p : Nat) : vSl t (vPic t c p) := by
  rcases vPic_or ht c p with h | ⟨s, h1, h2⟩
  · left; rw [h]; decide
  · right; exact ⟨s, h1, h2⟩
def xt_X3_pays : xT := xm_rl (Z := Nat × Nat × vSt × vSc) (fun (b, p, t, c) av g => av = [.ref b, .int (nI p)] ∧ p < tM t ∧ xIn b t c g) (fun (b, p, t, c) g o g' => o = some (.int (vPays t c p)) ∧ xFr (b + 8) (b + 8) g g')
set_option maxRecDepth 100000 in
set_option maxHeartbeats 4000000 in
theorem xp_X3_pays {l : Launch} {D : va_G} {cA : Nat → ClassId} {B : List (Nat × Cell)} : xm_Met l D cA B xs_X 3 yX3_pays cX3_pays 3 (some .int) xt_X3_pays := by
  have hm : xm_monos [xt_X3_lawOf, xt_X3_held] := ⟨(by first | exact xm_fn_mono _ _ _ | exact xm_rl_mono _ _), (by first | exact xm_fn_mono _ _ _ | exact xm_rl_mono _ _), trivial⟩
  refine xm_meth (own := RX3) (ks := xk_X3_pays) (C := xc_X3_pays) (Ts := [xt_X3_lawOf, xt_X3_held]) (by decide +kernel) rfl xm_clsok xs_X_ok xf_X3_ok xi_X3_ok xj_X3_ok (xm_lk xl_X3_101 xp_X3_lawOf (by decide) (xm_lk xl_X3_105 xp_X3_held (by decide) xm_lk0)) xo_X3_pays ?_ ?_
  · rintro av g Q ⟨z, ⟨rfl, -⟩, -⟩
    exact Nat.le_of_ble_eq_true rfl
  · rintro av g Q ⟨⟨b, p, t, c⟩, ⟨rfl, hp, h⟩, hQ⟩
    have h4 : (2 : Nat) < 4 := by decide
    have hm6 := h.2.1.2.1
    have hp6 : p < 6 := by omega
    have hb := h.1
    have e := (h.2.2.2.2 p hp).2.1
    rcases hb with rfl | rfl
    all_goals
      refine xm_run_go hm 30 ⟨p, ⟨hp6, rfl⟩, ⟨fun h0 => ?_, fun h0 => hQ _ _ ⟨?_, xFr.rf⟩⟩⟩
      · refine ⟨(_, 2, p, vPic t c p, t, c), ⟨?_, ?_, h4, hp, vPic_sl h.2.1 c p, h.2.1, h.2.2.1, h.2.2.2⟩, ?_⟩
        · rw [e]; rfl
        · first | exact Or.inl rfl | exact Or.inr rfl
        · rintro o g1 ⟨rfl, hf⟩
          refine ⟨(_, 99), ⟨rfl, trivial⟩, hQ _ _ ⟨?_, hf⟩⟩
          rw [e] at h0
          rw [vPays, if_neg (Int32.not_lt.mpr h0)]
      · rw [e] at h0
        rw [vPays, if_pos h0]
def xt_X3_washes : xT := xm_rl (Z := Nat × Nat × vSt × vSc) (fun (b, p, t, c) av g => av = [.ref b, .int (nI p)] ∧ p < tM t ∧ xIn b t c g) (fun (b, p, t, c) g o g' => o = some (.int (vWashes t c p)) ∧ xFr (b + 8) (b + 8) g g')
set_option maxRecDepth 100000 in
set_option maxHeartbeats 4000000 in
theorem xp_X3_washes {l : Launch} {D : va_G} {cA : Nat → ClassId} {B : List (Nat × Cell)} : xm_Met l D cA B xs_X 3 yX3_washes cX3_washes 2 (some .int) xt_X3_washes := by
  have hm : xm_monos [xt_X3_lawOf, xt_X3_held] := ⟨(by first | exact xm_fn_mono _ _ _ | exact xm_rl_mono _ _), (by first | exact xm_fn_mono _ _ _ | exact xm_rl_mono _ _), trivial⟩
  refine xm_meth (own := RX3) (ks := xk_X3_washes) (C := xc_X3_washes) (Ts := [xt_X3_lawOf, xt_X3_held]) (by decide +kernel) rfl xm_clsok xs_X_ok xf_X3_ok xi_X3_ok xj_X3_ok (xm_lk xl_X3_101 xp_X3_lawOf (by decide) (xm_lk xl_X3_105 xp_X3_held (by decide) xm_lk0)) xo_X3_washes ?_ ?_
  · rintro av g Q ⟨z, ⟨rfl, -⟩, -⟩
    exact Nat.le_of_ble_eq_true rfl
  · rintro av g Q ⟨⟨b, p, t, c⟩, ⟨rfl, hp, h⟩, hQ⟩
    have h4 : (3 : Nat) < 4 := by decide
    have hm6 := h.2.1.2.1
    have hp6 : p < 6 := by omega
    have hb := h.1
    have e := (h.2.2.2.2 p hp).2.1
    rcases hb with rfl | rfl
    all_goals
      refine xm_run_go hm 30 ⟨p, ⟨hp6, rfl⟩, ⟨(_, 3, p, vPic t c p, t, c), ⟨?_, ?_, h4, hp, vPic_sl h.2.1 c p, h.2.1, h.2.2.1, h.2.2.2⟩, ?_⟩⟩
      · rw [e]; rfl
      · first | exact Or.inl rfl | exact Or.inr rfl
      · rintro o g1 ⟨rfl, hf⟩
        exact ⟨(_, 100), ⟨rfl, trivial⟩, hQ _ _ ⟨rfl, hf⟩⟩
-- sums and bits
def vSum (f : Nat → Int32) : Nat → Int32
  | 0 => 0
  | n + 1 => vSum f n + f n
noncomputable def vBits (P : Nat → Prop) : Nat → Int32
  | 0 => 0
  | n + 1 => @ite _ (P n) (Classical.propDecidable _) (vBits P n ||| (1 <<< (nI n &&& 31))) (vBits P n)
theorem vBits_t {P : Nat → Prop} {n : Nat} (h : P n) : vBits P (n + 1) = vBits P n ||| (1 <<< (nI n &&& 31)) := by simp [vBits, h]
theorem vBits_f {P : Nat → Prop} {n : Nat} (h : ¬ P n) : vBits P (n + 1) = vBits P n := by simp [vBits, h]
def xt_X3_allPays : xT := xm_rl (Z := Nat × vSt × vSc) (fun (b, t, c) av g => av = [.ref b] ∧ xIn b t c g) (fun (b, t, c) g o g' => o = some (.int (vSum (vPays t c) (tM t))) ∧ xFr (b + 8) (b + 8) g g')
set_option maxRecDepth 100000 in
set_option maxHeartbeats 4000000 in
theorem xp_X3_allPays {l : Launch} {D : va_G} {cA : Nat → ClassId} {B : List (Nat × Cell)} : xm_Met l D cA B xs_X 4 yX3_allPays cX3_allPays 3 (some .int) xt_X3_allPays := by
  have hm : xm_monos [xt_X3_pays] := ⟨(by first | exact xm_fn_mono _ _ _ | exact xm_rl_mono _ _), trivial⟩
  refine xm_meth (own := RX3) (ks := xk_X3_allPays) (C := xc_X3_allPays) (Ts := [xt_X3_pays]) (by decide +kernel) rfl xm_clsok xs_X_ok xf_X3_ok xi_X3_ok xj_X3_ok (xm_lk xl_X3_165 xp_X3_pays (by decide) xm_lk0) xo_X3_allPays ?_ ?_
  · rintro av g Q ⟨z, ⟨rfl, -⟩, -⟩
    exact Nat.le_of_ble_eq_true rfl
  · rintro av g Q ⟨⟨b, t, c⟩, ⟨rfl, h⟩, hQ⟩
    dsimp only at h hQ
    have hb := h.1
    have hm6 := h.2.1.2.1
    have loop : ∀ d k, k + d = tM t → ∀ g1, xFr (b + 8) (b + 8) g g1 → xm_go xs_X xk_X3_allPays [xt_X3_pays] xc_X3_allPays Q (xm_drop 4 xc_X3_allPays) [.ref b, .int (vSum (vPays t c) k), .int (nI k)] [] g1 := by
      intro d
      induction d with
      | zero =>
        intro k hk g1 hf
        have hk : k = tM t := by omega
        subst hk
        have h1 := h.f8 hf
        have fin := hQ _ _ ⟨rfl, hf⟩
        rcases hb with rfl | rfl
        all_goals
          refine xm_run_go hm 20 ⟨h1.st, ⟨fun _ => fin, fun q => ?_⟩⟩
          rw [h1.m] at q
          exact absurd q (nI_nlt (Nat.le_refl _) (by omega))
      | succ d ih =>
        intro k hk g1 hf
        have h1 := h.f8 hf
        have hkm : k < tM t := by omega
        have nx := fun g2 (h2 : xFr (b + 8) (b + 8) g g2) => ih (k + 1) (by omega) g2 h2
        rw [nI_succ] at nx
        rcases hb with rfl | rfl
        all_goals
          refine xm_run_go hm 20 ⟨h1.st, ⟨fun q => ?_, fun _ => ⟨(_, k, t, c), ⟨rfl, hkm, h1⟩, ?_⟩⟩⟩
          · rw [h1.m] at q
            exact absurd q (nI_ge hkm (by omega))
          · rintro o g2 ⟨rfl, hf2⟩
            exact xm_cut hm (nx g2 (hf.tr hf2))
    exact xm_run_go hm 10 (xm_cut hm (loop (tM t) 0 (by omega) g xFr.rf))
def vMix (h it : Int32) : Int32 := ((h ^^^ it) * 1103515245 + 12345) ^^^ (((h ^^^ it) * 1103515245 + 12345).toUInt32 >>> ((15 : Int32).toUInt32 &&& Int32.toUInt32 31)).toInt32
def vLot (seed which : Int32) : Int32 := ((vMix (vMix seed 205) which).toUInt32 >>> ((1 : Int32).toUInt32 &&& Int32.toUInt32 31)).toInt32 - ((vMix (vMix seed 205) which).toUInt32 >>> ((1 : Int32).toUInt32 &&& Int32.toUInt32 31)).toInt32 / 100 * 100
def xt_X3_mix : xT := xm_fn (Z := Int32 × Int32) (fun (x, y) av _ => av = [.int x, .int y] ∧ True) (fun (x, y) _ => some (.int (vMix x y))) (fun _ g => g)
set_option maxRecDepth 100000 in
set_option maxHeartbeats 4000000 in
theorem xp_X3_mix {l : Launch} {D : va_G} {cA : Nat → ClassId} {B : List (Nat × Cell)} : xm_Met l D cA B xs_X 0 yX3_mix cX3_mix 3 (some .int) xt_X3_mix := by
  have hm : xm_monos [] := xm_m0
  refine xm_meth (own := RX3) (ks := xk_X3_mix) (C := xc_X3_mix) (Ts := []) (by decide +kernel) rfl xm_clsok xs_X_ok xf_X3_ok xi_X3_ok xj_X3_ok xm_lk0 xo_X3_mix ?_ ?_
  · rintro av g Q ⟨z, ⟨rfl, -⟩, -⟩
    exact Nat.le_of_ble_eq_true rfl
  · rintro av g Q ⟨⟨x, y⟩, ⟨rfl, -⟩, hQ⟩
    exact xm_run_go hm 20 hQ
def xt_X3_lotOfHundred : xT := xm_fn (Z := Int32 × Int32) (fun (x, y) av _ => av = [.int x, .int y] ∧ True) (fun (x, y) _ => some (.int (vLot x y))) (fun _ g => g)
set_option maxRecDepth 100000 in
set_option maxHeartbeats 4000000 in
theorem xp_X3_lotOfHundred {l : Launch} {D : va_G} {cA : Nat → ClassId} {B : List (Nat × Cell)} : xm_Met l D cA B xs_X 1 yX3_lotOfHundred cX3_lotOfHundred 2 (some .int) xt_X3_lotOfHundred := by
  have hm : xm_monos [xt_X3_mix] := ⟨(by first | exact xm_fn_mono _ _ _ | exact xm_rl_mono _ _), trivial⟩
  refine xm_meth (own := RX3) (ks := xk_X3_lotOfHundred) (C := xc_X3_lotOfHundred) (Ts := [xt_X3_mix]) (by decide +kernel) rfl xm_clsok xs_X_ok xf_X3_ok xi_X3_ok xj_X3_ok (xm_lk xl_X3_161 xp_X3_mix (by decide) xm_lk0) xo_X3_lotOfHundred ?_ ?_
  · rintro av g Q ⟨z, ⟨rfl, -⟩, -⟩
    exact Nat.le_of_ble_eq_true rfl
  · rintro av g Q ⟨⟨x, y⟩, ⟨rfl, -⟩, hQ⟩
    exact xm_run_go hm 20 ⟨(x, 205), ⟨rfl, trivial⟩, (_, y), ⟨rfl, trivial⟩, by decide, hQ⟩
noncomputable def vWashers (t : vSt) (c : vSc) (seed : Int32) : Int32 := vBits (fun p => vLot seed (8 * cK c + nI p) < vWashes t c p) (tM t)
def xt_X3_washers : xT := xm_rl (Z := Nat × Int32 × vSt × vSc) (fun (b, e, t, c) av g => av = [.ref b, .int e] ∧ xIn b t c g) (fun (b, e, t, c) g o g' => o = some (.int (vWashers t c e)) ∧ xFr (b + 8) (b + 8) g g')
set_option maxRecDepth 100000 in
set_option maxHeartbeats 4000000 in
theorem xp_X3_washers {l : Launch} {D : va_G} {cA : Nat → ClassId} {B : List (Nat × Cell)} : xm_Met l D cA B xs_X 4 yX3_washers cX3_washers 4 (some .int) xt_X3_washers := by
  have hm : xm_monos [xt_X3_lotOfHundred, xt_X3_washes] := ⟨(by first | exact xm_fn_mono _ _ _ | exact xm_rl_mono _ _), (by first | exact xm_fn_mono _ _ _ | exact xm_rl_mono _ _), trivial⟩
  refine xm_meth (own := RX3) (ks := xk_X3_washers) (C := xc_X3_washers) (Ts := [xt_X3_lotOfHundred, xt_X3_washes]) (by decide +kernel) rfl xm_clsok xs_X_ok xf_X3_ok xi_X3_ok xj_X3_ok (xm_lk xl_X3_155 xp_X3_lotOfHundred (by decide) (xm_lk xl_X3_158 xp_X3_washes (by decide) xm_lk0)) xo_X3_washers ?_ ?_
  · rintro av g Q ⟨z, ⟨rfl, -⟩, -⟩
    exact Nat.le_of_ble_eq_true rfl
  · rintro av g Q ⟨⟨b, sd, t, c⟩, ⟨rfl, h⟩, hQ⟩
    dsimp only at h hQ
    have hb := h.1
    have hm6 := h.2.1.2.1
    unfold vWashers at hQ
    have loop : ∀ d k, k + d = tM t → ∀ g1, xFr (b + 8) (b + 8) g g1 → xm_go xs_X xk_X3_washers [xt_X3_lotOfHundred, xt_X3_washes] xc_X3_washers Q (xm_drop 4 xc_X3_washers) [.ref b, .int sd, .int (vBits (fun p => vLot sd (8 * cK c + nI p) < vWashes t c p) k), .int (nI k)] [] g1 := by
      intro d
      induction d with
      | zero =>
        intro k hk g1 hf
        have hk : k = tM t := by omega
        subst hk
        have h1 := h.f8 hf
        have fin := hQ _ _ ⟨rfl, hf⟩
        rcases hb with rfl | rfl
        all_goals
          refine xm_run_go hm 20 ⟨h1.st, ⟨fun _ => fin, fun q => ?_⟩⟩
          rw [h1.m] at q
          exact absurd q (nI_nlt (Nat.le_refl _) (by omega))
      | succ d ih =>
        intro k hk g1 hf
        have h1 := h.f8 hf
        have hkm : k < tM t := by omega
        have nx := fun g2 (h2 : xFr (b + 8) (b + 8) g g2) => ih (k + 1) (by omega) g2 h2
        rw [nI_succ] at nx
        have ew := h1.2.2.2.1.2.2.2.1
        rcases hb with rfl | rfl
        all_goals
          refine xm_run_go hm 40 ⟨h1.st, ⟨fun q => ?_, fun _ => ⟨(_, _), ⟨rfl, trivial⟩, ⟨(_, k, t, c), ⟨rfl, hkm, h1⟩, ?_⟩⟩⟩⟩
          · rw [h1.m] at q
            exact absurd q (nI_ge hkm (by omega))
          · rintro o g2 ⟨rfl, hf2⟩
            refine ⟨fun q => xm_cut hm ?_, fun q => xm_cut hm ?_⟩
            · rw [ew] at q
              have := nx g2 (hf.tr hf2)
              rw [vBits_f (Int32.not_lt.mpr q)] at this
              exact this
            · rw [ew] at q
              have := nx g2 (hf.tr hf2)
              rw [vBits_t q] at this
              exact this
    exact xm_run_go hm 10 (xm_cut hm (loop (tM t) 0 (by omega) g xFr.rf))
