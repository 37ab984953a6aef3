-- rows
theorem vMx_ar {w : Nat → Nat} : ∀ {n : Nat}, 0 < vMx w n → vAr w n < n ∧ w (vAr w n) = vMx w n
  | 0, h => absurd h (by simp [vMx])
  | n + 1, h => by
    unfold vMx vAr at *
    by_cases z : vMx w n < w n
    · rw [if_pos z, if_pos z]; exact ⟨by omega, rfl⟩
    · rw [if_neg z] at h ⊢
      rw [if_neg z]
      have := vMx_ar h
      exact ⟨by omega, this.2⟩
theorem vBp_len (nx : Nat → Nat) (m : Nat) : ∀ f L u, (vBp nx m f L u).length = f
  | 0, _, _ => rfl
  | f + 1, L, u => by rw [vBp, List.length_cons, vBp_len]
theorem vLp_len (nx : Nat → Nat) (m : Nat) : ∀ f L u, (vLp nx m f L u).length = vLg nx m f L u
  | 0, _, _ => rfl
  | f + 1, L, u => by
    rw [vLp]
    by_cases z : vLg nx m (f + 1) L u = 0
    · rw [if_pos z, z]; rfl
    · rw [if_neg z, List.length_cons, vLp_len]
      have z1 : 0 < vMx (fun p => if vCf nx L u p then 1 + vLg nx m f p (u ||| 2 ^ p) else 0) m := by
        have : vLg nx m (f + 1) L u = vMx (fun p => if vCf nx L u p then 1 + vLg nx m f p (u ||| 2 ^ p) else 0) m := rfl
        omega
      have z2 := (vMx_ar z1).2
      have z3 : vLg nx m (f + 1) L u = vMx (fun p => if vCf nx L u p then 1 + vLg nx m f p (u ||| 2 ^ p) else 0) m := rfl
      rw [z3, ← z2]
      rw [← z2] at z1
      by_cases y : vCf nx L u (vAr (fun p => if vCf nx L u p then 1 + vLg nx m f p (u ||| 2 ^ p) else 0) m) = true
      · rw [if_pos y]; omega
      · rw [if_neg y] at z1; omega
theorem xLs.getD {g : xG} {k : Nat} {ls : List Nat} {i : Nat} (h : xLs g k ls) (hi : i < ls.length) : g.1 k i = nI (ls.getD i 0) := by
  refine h i _ ?_
  rw [List.getD_eq_getElem?_getD, List.getElem?_eq_getElem hi]; rfl
theorem xRows.Rw {m sh : Nat} {nx : Nat → Nat} {g g' : xG} (h : xRows m sh nx g) (r : xRw g g') : xRows m sh nx g' := h.fr (r.2.2 4 (by omega)) (r.2.2 5 (by omega)) (r.2.1 51 (by omega) (by omega) (by omega))
def xt_X8_bestRow : xT := xm_rl (Z := vS × Int32) (fun (σ, i) av g => av = [.ref 0, .int i] ∧ xTop σ g) (fun (σ, i) g o g' => o = some (.int (aBestRow σ i)) ∧ xTop σ g')
set_option maxRecDepth 100000 in
set_option maxHeartbeats 400000 in
theorem xp_X8_bestRow {l : Launch} {D : va_G} {cA : Nat → ClassId} {B : List (Nat × Cell)} : xm_Met l D cA B xs_X 13 yX8_bestRow cX8_bestRow 2 (some .int) xt_X8_bestRow := by
  have hm : xm_monos [xt_X8_isPerson, xt_X2_study, xt_X2_findBest] := ⟨(by first | exact xm_fn_mono _ _ _ | exact xm_rl_mono _ _), (by first | exact xm_fn_mono _ _ _ | exact xm_rl_mono _ _), (by first | exact xm_fn_mono _ _ _ | exact xm_rl_mono _ _), trivial⟩
  refine xm_meth (own := RX8) (ks := xk_X8_bestRow) (C := xc_X8_bestRow) (Ts := [xt_X8_isPerson, xt_X2_study, xt_X2_findBest]) (by decide +kernel) rfl xm_clsok xs_X_ok xf_X8_ok xi_X8_ok xj_X8_ok (xm_lk xl_X8_128 xp_X8_isPerson (by decide) (xm_lk xl_X8_207 xp_X2_study (by decide) (xm_lk xl_X8_210 xp_X2_findBest (by decide) xm_lk0))) xo_X8_bestRow ?_ ?_
  · rintro av g Q ⟨z, ⟨rfl, -⟩, -⟩
    exact Nat.le_of_ble_eq_true rfl
  · rintro av g Q ⟨⟨σ, i⟩, ⟨rfl, h⟩, hQ⟩
    dsimp only at h hQ
    have m6 := h.m6
    by_cases hi : i = -1
    · subst hi
      refine xm_run_go hm 60 ⟨fun _ => ⟨(sT σ, sC σ), ⟨rfl, h.i⟩, ?_⟩, fun z => absurd rfl z⟩
      rintro o g1 ⟨rfl, r1, f1⟩
      refine ⟨(tM (sT σ), vSh (sT σ) (sC σ), vNx (sT σ) (sC σ)), ⟨rfl, r1⟩, ?_⟩
      rintro o g2 ⟨rfl, r2, e2, l2⟩
      exact ⟨fun z => absurd rfl z, fun _ => hQ _ _ ⟨by rw [aBestRow, if_pos rfl, e2], h.Q ((f1.Q (by omega)).tr r2.Q)⟩⟩
    · rcases vDo_c (m := tM (sT σ)) i (by omega) with hp | ⟨p, hp, rfl⟩
      · have fin := hQ (some (.int (-1))) g ⟨by rw [aBestRow, if_neg hi, vDo_n hp], h⟩
        refine xm_run_go hm 60 ⟨fun z => absurd z hi, fun _ => ⟨(i, tM (sT σ)), ⟨rfl, h.m⟩, ⟨fun z => ?_, fun _ => fin⟩⟩⟩
        exact absurd (vIs_n hp) z
      · have z1 := vIs_y hp (by omega : tM (sT σ) < 2 ^ 31)
        refine xm_run_go hm 60 ⟨fun z => absurd z hi, fun _ => ⟨(nI p, tM (sT σ)), ⟨rfl, h.m⟩, ⟨fun _ => ⟨(sT σ, sC σ), ⟨rfl, h.i⟩, ?_⟩, fun z => ?_⟩⟩⟩
        · rintro o g1 ⟨rfl, r1, f1⟩
          refine ⟨(tM (sT σ), vSh (sT σ) (sC σ), vNx (sT σ) (sC σ)), ⟨rfl, r1⟩, ?_⟩
          rintro o g2 ⟨rfl, r2, e2, l2⟩
          refine ⟨fun _ => ⟨p, ⟨by omega, rfl⟩, hQ _ _ ⟨?_, h.Q ((f1.Q (by omega)).tr r2.Q)⟩⟩, fun z => absurd z hi⟩
          rw [aBestRow, if_neg hi, vDo_y hp (by omega), l2.getD (by rw [vBp_len]; exact hp)]
        · rw [z1] at z; exact absurd z (by decide)
def xt_X8_fullRows : xT := xm_rl (Z := vS) (fun σ av g => av = [.ref 0] ∧ xTop σ g) (fun σ g o g' => o = some (.int (aFullRows σ)) ∧ xTop σ g')
set_option maxRecDepth 100000 in
set_option maxHeartbeats 400000 in
theorem xp_X8_fullRows {l : Launch} {D : va_G} {cA : Nat → ClassId} {B : List (Nat × Cell)} : xm_Met l D cA B xs_X 12 yX8_fullRows cX8_fullRows 1 (some .int) xt_X8_fullRows := by
  have hm : xm_monos [xt_X2_study, xt_X2_countFull] := ⟨(by first | exact xm_fn_mono _ _ _ | exact xm_rl_mono _ _), (by first | exact xm_fn_mono _ _ _ | exact xm_rl_mono _ _), trivial⟩
  refine xm_meth (own := RX8) (ks := xk_X8_fullRows) (C := xc_X8_fullRows) (Ts := [xt_X2_study, xt_X2_countFull]) (by decide +kernel) rfl xm_clsok xs_X_ok xf_X8_ok xi_X8_ok xj_X8_ok (xm_lk xl_X8_207 xp_X2_study (by decide) (xm_lk xl_X8_219 xp_X2_countFull (by decide) xm_lk0)) xo_X8_fullRows ?_ ?_
  · rintro av g Q ⟨z, ⟨rfl, -⟩, -⟩
    exact Nat.le_of_ble_eq_true rfl
  · rintro av g Q ⟨σ, ⟨rfl, h⟩, hQ⟩
    dsimp only at h hQ
    refine xm_run_go hm 60 ⟨(sT σ, sC σ), ⟨rfl, h.i⟩, ?_⟩
    rintro o g1 ⟨rfl, r1, f1⟩
    refine ⟨(tM (sT σ), vSh (sT σ) (sC σ), vNx (sT σ) (sC σ)), ⟨rfl, r1⟩, ?_⟩
    rintro o g2 ⟨rfl, r2, e2, e3⟩
    exact hQ _ _ ⟨by rw [aFullRows, e2], h.Q ((f1.Q (by omega)).tr r2.Q)⟩
def xt_X8_rings : xT := xm_rl (Z := vS) (fun σ av g => av = [.ref 0] ∧ xTop σ g) (fun σ g o g' => o = some (.int (aRings σ)) ∧ xTop σ g')
set_option maxRecDepth 100000 in
set_option maxHeartbeats 400000 in
theorem xp_X8_rings {l : Launch} {D : va_G} {cA : Nat → ClassId} {B : List (Nat × Cell)} : xm_Met l D cA B xs_X 12 yX8_rings cX8_rings 1 (some .int) xt_X8_rings := by
  have hm : xm_monos [xt_X2_study, xt_X2_countFull] := ⟨(by first | exact xm_fn_mono _ _ _ | exact xm_rl_mono _ _), (by first | exact xm_fn_mono _ _ _ | exact xm_rl_mono _ _), trivial⟩
  refine xm_meth (own := RX8) (ks := xk_X8_rings) (C := xc_X8_rings) (Ts := [xt_X2_study, xt_X2_countFull]) (by decide +kernel) rfl xm_clsok xs_X_ok xf_X8_ok xi_X8_ok xj_X8_ok (xm_lk xl_X8_207 xp_X2_study (by decide) (xm_lk xl_X8_219 xp_X2_countFull (by decide) xm_lk0)) xo_X8_rings ?_ ?_
  · rintro av g Q ⟨z, ⟨rfl, -⟩, -⟩
    exact Nat.le_of_ble_eq_true rfl
  · rintro av g Q ⟨σ, ⟨rfl, h⟩, hQ⟩
    dsimp only at h hQ
    refine xm_run_go hm 60 ⟨(sT σ, sC σ), ⟨rfl, h.i⟩, ?_⟩
    rintro o g1 ⟨rfl, r1, f1⟩
    refine ⟨(tM (sT σ), vSh (sT σ) (sC σ), vNx (sT σ) (sC σ)), ⟨rfl, r1⟩, ?_⟩
    rintro o g2 ⟨rfl, r2, e2, e3⟩
    exact hQ _ _ ⟨by rw [aRings, e3], h.Q ((f1.Q (by omega)).tr r2.Q)⟩
def xt_X8_longest : xT := xm_rl (Z := vS × Int32) (fun (σ, i) av g => av = [.ref 0, .int i] ∧ xTop σ g) (fun (σ, i) g o g' => o = some (.int (aLongest σ i)) ∧ xTop σ g')
set_option maxRecDepth 100000 in
set_option maxHeartbeats 400000 in
theorem xp_X8_longest {l : Launch} {D : va_G} {cA : Nat → ClassId} {B : List (Nat × Cell)} : xm_Met l D cA B xs_X 13 yX8_longest cX8_longest 2 (some .int) xt_X8_longest := by
  have hm : xm_monos [xt_X2_study, xt_X2_findLongest, xt_X8_isIn] := ⟨(by first | exact xm_fn_mono _ _ _ | exact xm_rl_mono _ _), (by first | exact xm_fn_mono _ _ _ | exact xm_rl_mono _ _), (by first | exact xm_fn_mono _ _ _ | exact xm_rl_mono _ _), trivial⟩
  refine xm_meth (own := RX8) (ks := xk_X8_longest) (C := xc_X8_longest) (Ts := [xt_X2_study, xt_X2_findLongest, xt_X8_isIn]) (by decide +kernel) rfl xm_clsok xs_X_ok xf_X8_ok xi_X8_ok xj_X8_ok (xm_lk xl_X8_207 xp_X2_study (by decide) (xm_lk xl_X8_228 xp_X2_findLongest (by decide) (xm_lk xl_X8_189 xp_X8_isIn (by decide) xm_lk0))) xo_X8_longest ?_ ?_
  · rintro av g Q ⟨z, ⟨rfl, -⟩, -⟩
    exact Nat.le_of_ble_eq_true rfl
  · rintro av g Q ⟨⟨σ, i⟩, ⟨rfl, h⟩, hQ⟩
    dsimp only at h hQ
    refine xm_run_go hm 60 ⟨(sT σ, sC σ), ⟨rfl, h.i⟩, ?_⟩
    rintro o g1 ⟨rfl, r1, f1⟩
    refine ⟨(tM (sT σ), vSh (sT σ) (sC σ), vNx (sT σ) (sC σ)), ⟨rfl, r1⟩, ?_⟩
    rintro o g2 ⟨rfl, r2, e2, e6, l2⟩
    have h2 := h.Q ((f1.Q (by omega)).tr r2.Q)
    have l3 := vLp_len (vNx (sT σ) (sC σ)) (tM (sT σ)) (tM (sT σ)) 7 0
    unfold aLongest at hQ
    generalize vLg (vNx (sT σ) (sC σ)) (tM (sT σ)) (tM (sT σ)) 7 0 = lg at e2 e6 l3 hQ
    by_cases hi : i = -1
    · subst hi
      exact ⟨fun z => absurd rfl z, fun _ => hQ _ _ ⟨by rw [if_pos rfl, e2], h2⟩⟩
    · have is : ∀ x : Int32, (if 0 ≤ x ∧ x ≤ g2.1 49 0 - 1 then (1 : Int32) else 0) = vIs lg x := fun x => by
        rw [e2]
        unfold vIs
        rcases Nat.eq_zero_or_pos lg with q | q
        · rw [q, if_neg (by rintro ⟨a, b⟩; exact absurd (Int32.le_trans a b) (by decide)), if_neg (by rintro ⟨a, b⟩; exact absurd b (Int32.not_lt.mpr a))]
        · obtain ⟨k, rfl⟩ : ∃ k, lg = k + 1 := ⟨lg - 1, by omega⟩
          rw [nI_pred]
          by_cases y : 0 ≤ x ∧ x < nI (k + 1)
          · rw [if_pos y, if_pos ((vR_is x (by omega)).mpr y)]
          · rw [if_neg y, if_neg (fun z => y ((vR_is x (by omega)).mp z))]
      rcases vDo_c (m := lg) i e6 with hp | ⟨p, hp, rfl⟩
      · refine ⟨fun _ => ⟨(i, 0, g2.1 49 0 - 1), ⟨rfl, trivial⟩, ⟨fun _ => hQ _ _ ⟨by rw [if_neg hi, vDo_n hp], h2⟩, fun z => ?_⟩⟩, fun z => absurd z hi⟩
        rw [is, vIs_n hp] at z; exact absurd rfl z
      · refine ⟨fun _ => ⟨(nI p, 0, g2.1 49 0 - 1), ⟨rfl, trivial⟩, ⟨fun z => ?_, fun _ => ⟨p, ⟨by omega, rfl⟩, hQ _ _ ⟨?_, h2⟩⟩⟩⟩, fun z => absurd z hi⟩
        · rw [is, vIs_y hp (by omega)] at z; exact absurd z (by decide)
        · rw [if_neg hi, vDo_y hp (by omega), l2.getD (by rw [l3]; exact hp)]
def xt_X8_way : xT := xm_rl (Z := vS × Int32 × Int32) (fun (σ, p, s) av g => av = [.ref 0, .int p, .int s] ∧ xTop σ g) (fun (σ, p, s) g o g' => o = some (.int (aWay σ p s)) ∧ xTop σ g')
set_option maxRecDepth 100000 in
set_option maxHeartbeats 400000 in
theorem xp_X8_way {l : Launch} {D : va_G} {cA : Nat → ClassId} {B : List (Nat × Cell)} : xm_Met l D cA B xs_X 3 yX8_way cX8_way 3 (some .int) xt_X8_way := by
  have hm : xm_monos [xt_X8_isPerson, xt_X2_study, xt_X2_steps] := ⟨(by first | exact xm_fn_mono _ _ _ | exact xm_rl_mono _ _), (by first | exact xm_fn_mono _ _ _ | exact xm_rl_mono _ _), (by first | exact xm_fn_mono _ _ _ | exact xm_rl_mono _ _), trivial⟩
  refine xm_meth (own := RX8) (ks := xk_X8_way) (C := xc_X8_way) (Ts := [xt_X8_isPerson, xt_X2_study, xt_X2_steps]) (by decide +kernel) rfl xm_clsok xs_X_ok xf_X8_ok xi_X8_ok xj_X8_ok (xm_lk xl_X8_128 xp_X8_isPerson (by decide) (xm_lk xl_X8_207 xp_X2_study (by decide) (xm_lk xl_X8_231 xp_X2_steps (by decide) xm_lk0))) xo_X8_way ?_ ?_
  · rintro av g Q ⟨z, ⟨rfl, -⟩, -⟩
    exact Nat.le_of_ble_eq_true rfl
  · rintro av g Q ⟨⟨σ, p, s⟩, ⟨rfl, h⟩, hQ⟩
    dsimp only at h hQ
    have m6 := h.m6
    rcases vDo_c (m := tM (sT σ)) p (by omega) with hp | ⟨p, hp, rfl⟩
    · have fin := hQ (some (.int (-1))) g ⟨by rw [aWay, vDo_n hp], h⟩
      refine xm_run_go hm 30 ⟨(p, tM (sT σ)), ⟨rfl, h.m⟩, ⟨fun _ => fin, fun z => ?_⟩⟩
      exact absurd (vIs_n hp) z
    · have z1 := vIs_y hp (by omega : tM (sT σ) < 2 ^ 31)
      rcases vDo_c (m := tM (sT σ)) s (by omega) with hs | ⟨s, hs, rfl⟩
      · have fin := hQ (some (.int (-1))) g ⟨by rw [aWay, vDo_y hp (by omega), vDo_n hs], h⟩
        refine xm_run_go hm 30 ⟨(nI p, tM (sT σ)), ⟨rfl, h.m⟩, ⟨fun _ => fin, fun _ => ⟨(s, tM (sT σ)), ⟨rfl, h.m⟩, ⟨fun z => ?_, fun _ => fin⟩⟩⟩⟩
        exact absurd (vIs_n hs) z
      · have z2 := vIs_y hs (by omega : tM (sT σ) < 2 ^ 31)
        have p6 : p < 6 := by omega
        have s6 : s < 6 := by omega
        refine xm_run_go hm 40 ⟨(nI p, tM (sT σ)), ⟨rfl, h.m⟩, ⟨fun z => ?_, fun _ => ⟨(nI s, tM (sT σ)), ⟨rfl, h.m⟩, ⟨fun _ => ⟨(sT σ, sC σ), ⟨rfl, h.i⟩, ?_⟩, fun z => ?_⟩⟩⟩⟩
        · rw [z1] at z; exact absurd z (by decide)
        · rintro o g1 ⟨rfl, r1, f1⟩
          exact ⟨(p, s, tM (sT σ), vSh (sT σ) (sC σ), vNx (sT σ) (sC σ)), ⟨rfl, p6, s6, r1⟩, hQ _ _ ⟨by rw [aWay, vDo_y hp (by omega), vDo_y hs (by omega)], h.Q (f1.Q (by omega))⟩⟩
        · rw [z2] at z; exact absurd z (by decide)
def xt_X8_mend : xT := xm_rl (Z := vS × Int32) (fun (σ, i) av g => av = [.ref 0, .int i] ∧ xTop σ g) (fun (σ, i) g o g' => o = some (.int (aMend σ i)) ∧ xTop σ g')
set_option maxRecDepth 100000 in
set_option maxHeartbeats 400000 in
theorem xp_X8_mend {l : Launch} {D : va_G} {cA : Nat → ClassId} {B : List (Nat × Cell)} : xm_Met l D cA B xs_X 4 yX8_mend cX8_mend 2 (some .int) xt_X8_mend := by
  have hm : xm_monos [xt_X8_isPerson, xt_X2_mended] := ⟨(by first | exact xm_fn_mono _ _ _ | exact xm_rl_mono _ _), (by first | exact xm_fn_mono _ _ _ | exact xm_rl_mono _ _), trivial⟩
  refine xm_meth (own := RX8) (ks := xk_X8_mend) (C := xc_X8_mend) (Ts := [xt_X8_isPerson, xt_X2_mended]) (by decide +kernel) rfl xm_clsok xs_X_ok xf_X8_ok xi_X8_ok xj_X8_ok (xm_lk xl_X8_128 xp_X8_isPerson (by decide) (xm_lk xl_X8_234 xp_X2_mended (by decide) xm_lk0)) xo_X8_mend ?_ ?_
  · rintro av g Q ⟨z, ⟨rfl, -⟩, -⟩
    exact Nat.le_of_ble_eq_true rfl
  · rintro av g Q ⟨⟨σ, i⟩, ⟨rfl, h⟩, hQ⟩
    dsimp only at h hQ
    have m6 := h.m6
    by_cases hi : i = -1
    · subst hi
      refine xm_run_go hm 60 ⟨fun _ => ⟨(-1, sT σ, sC σ), ⟨rfl, h.i, h.c, Or.inl rfl⟩, ?_⟩, fun z => absurd rfl z⟩
      rintro o g1 ⟨rfl, f1⟩
      exact hQ _ _ ⟨by rw [aMend, if_pos rfl], h.Q (f1.Q (by omega))⟩
    · rcases vDo_c (m := tM (sT σ)) i (by omega) with hp | ⟨p, hp, rfl⟩
      · have fin := hQ (some (.int (-1))) g ⟨by rw [aMend, if_neg hi, vDo_n hp], h⟩
        refine xm_run_go hm 60 ⟨fun z => absurd z hi, fun _ => ⟨(i, tM (sT σ)), ⟨rfl, h.m⟩, ⟨fun z => ?_, fun _ => fin⟩⟩⟩
        exact absurd (vIs_n hp) z
      · have z1 := vIs_y hp (by omega : tM (sT σ) < 2 ^ 31)
        refine xm_run_go hm 60 ⟨fun z => absurd z hi, fun _ => ⟨(nI p, tM (sT σ)), ⟨rfl, h.m⟩, ⟨fun _ => ⟨(nI p, sT σ, sC σ), ⟨rfl, h.i, h.c, Or.inr ⟨p, hp, rfl⟩⟩, ?_⟩, fun z => ?_⟩⟩⟩
        · rintro o g1 ⟨rfl, f1⟩
          exact hQ _ _ ⟨by rw [aMend, if_neg hi, vDo_y hp (by omega)], h.Q (f1.Q (by omega))⟩
        · rw [z1] at z; exact absurd z (by decide)
def xt_X8_game : xT := xm_rl (Z := vS × Int32) (fun (σ, w) av g => av = [.ref 0, .int w] ∧ xTop σ g) (fun (σ, w) g o g' => o = some (.int (aGame σ w)) ∧ xTop σ g')
set_option maxRecDepth 100000 in
set_option maxHeartbeats 400000 in
theorem xp_X8_game {l : Launch} {D : va_G} {cA : Nat → ClassId} {B : List (Nat × Cell)} : xm_Met l D cA B xs_X 11 yX8_game cX8_game 3 (some .int) xt_X8_game := by
  have hm : xm_monos [xt_X8_isIn, xt_X2_study, xt_X2_winningStart] := ⟨(by first | exact xm_fn_mono _ _ _ | exact xm_rl_mono _ _), (by first | exact xm_fn_mono _ _ _ | exact xm_rl_mono _ _), (by first | exact xm_fn_mono _ _ _ | exact xm_rl_mono _ _), trivial⟩
  refine xm_meth (own := RX8) (ks := xk_X8_game) (C := xc_X8_game) (Ts := [xt_X8_isIn, xt_X2_study, xt_X2_winningStart]) (by decide +kernel) rfl xm_clsok xs_X_ok xf_X8_ok xi_X8_ok xj_X8_ok (xm_lk xl_X8_189 xp_X8_isIn (by decide) (xm_lk xl_X8_207 xp_X2_study (by decide) (xm_lk xl_X8_238 xp_X2_winningStart (by decide) xm_lk0))) xo_X8_game ?_ ?_
  · rintro av g Q ⟨z, ⟨rfl, -⟩, -⟩
    exact Nat.le_of_ble_eq_true rfl
  · rintro av g Q ⟨⟨σ, w⟩, ⟨rfl, h⟩, hQ⟩
    dsimp only at h hQ
    rcases vDo_or (m := 2) w (by omega) with hv | ⟨w, hv, rfl⟩
    · have fin := hQ (some (.int (-1))) g ⟨by rw [aGame, if_neg (fun e => hv (by rw [e]; decide)), if_neg (fun e => hv (by rw [e]; decide))], h⟩
      refine xm_run_go hm 30 ⟨(w, 0, 1), ⟨rfl, trivial⟩, ⟨fun z => ?_, fun _ => fin⟩⟩
      exact absurd (vIn_n (k := 1) rfl (by omega) hv) z
    · have z2 := vIn_y (k := 1) (hi := 1) rfl (by omega) hv
      refine xm_run_go hm 40 ⟨(nI w, 0, 1), ⟨rfl, trivial⟩, ⟨fun _ => ⟨(sT σ, sC σ), ⟨rfl, h.i⟩, ?_⟩, fun z => ?_⟩⟩
      · rintro o g1 ⟨rfl, r1, f1⟩
        have h1 := h.Q (f1.Q (by omega))
        refine ⟨(tM (sT σ), vSh (sT σ) (sC σ), vNx (sT σ) (sC σ)), ⟨rfl, r1⟩, ⟨fun z => ?_, fun z => hQ _ _ ⟨by rw [aGame, if_pos z], h1⟩⟩⟩
        have w0 : w = 0 := by
          have : w ≠ 1 := fun e => z (by rw [e]; rfl)
          omega
        subst w0
        exact ⟨fun y => hQ _ _ ⟨by rw [aGame, if_neg z, if_pos (show nI 0 = 0 from rfl), if_neg y], h1⟩, fun y => hQ _ _ ⟨by rw [aGame, if_neg z, if_pos (show nI 0 = 0 from rfl), if_pos y], h1⟩⟩
      · rw [z2] at z; exact absurd z (by decide)
def xt_X8_lonely : xT := xm_rl (Z := vS) (fun σ av g => av = [.ref 0] ∧ xTop σ g) (fun σ g o g' => o = some (.int (aLonely σ)) ∧ xTop σ g')
set_option maxRecDepth 100000 in
set_option maxHeartbeats 400000 in
theorem xp_X8_lonely {l : Launch} {D : va_G} {cA : Nat → ClassId} {B : List (Nat × Cell)} : xm_Met l D cA B xs_X 2 yX8_lonely cX8_lonely 1 (some .int) xt_X8_lonely := by
  have hm : xm_monos [xt_X2_study, xt_X2_lonelyOnes] := ⟨(by first | exact xm_fn_mono _ _ _ | exact xm_rl_mono _ _), (by first | exact xm_fn_mono _ _ _ | exact xm_rl_mono _ _), trivial⟩
  refine xm_meth (own := RX8) (ks := xk_X8_lonely) (C := xc_X8_lonely) (Ts := [xt_X2_study, xt_X2_lonelyOnes]) (by decide +kernel) rfl xm_clsok xs_X_ok xf_X8_ok xi_X8_ok xj_X8_ok (xm_lk xl_X8_207 xp_X2_study (by decide) (xm_lk xl_X8_259 xp_X2_lonelyOnes (by decide) xm_lk0)) xo_X8_lonely ?_ ?_
  · rintro av g Q ⟨z, ⟨rfl, -⟩, -⟩
    exact Nat.le_of_ble_eq_true rfl
  · rintro av g Q ⟨σ, ⟨rfl, h⟩, hQ⟩
    dsimp only at h hQ
    refine xm_run_go hm 60 ⟨(sT σ, sC σ), ⟨rfl, h.i⟩, ?_⟩
    rintro o g1 ⟨rfl, r1, f1⟩
    exact ⟨(tM (sT σ), vSh (sT σ) (sC σ), vNx (sT σ) (sC σ)), ⟨rfl, r1⟩, hQ _ _ ⟨rfl, h.Q (f1.Q (by omega))⟩⟩
def xt_X8_allMeetings : xT := xm_rl (Z := vS) (fun σ av g => av = [.ref 0] ∧ xTop σ g) (fun σ g o g' => o = some (.int (vSum (fun p => nI (ub_ct (vNx (sT σ) (sC σ) p))) (tM (sT σ)))) ∧ xTop σ g')
set_option maxRecDepth 100000 in
set_option maxHeartbeats 400000 in
theorem xp_X8_allMeetings {l : Launch} {D : va_G} {cA : Nat → ClassId} {B : List (Nat × Cell)} : xm_Met l D cA B xs_X 2 yX8_allMeetings cX8_allMeetings 1 (some .int) xt_X8_allMeetings := by
  have hm : xm_monos [xt_X2_study, xt_X2_meetings] := ⟨(by first | exact xm_fn_mono _ _ _ | exact xm_rl_mono _ _), (by first | exact xm_fn_mono _ _ _ | exact xm_rl_mono _ _), trivial⟩
  refine xm_meth (own := RX8) (ks := xk_X8_allMeetings) (C := xc_X8_allMeetings) (Ts := [xt_X2_study, xt_X2_meetings]) (by decide +kernel) rfl xm_clsok xs_X_ok xf_X8_ok xi_X8_ok xj_X8_ok (xm_lk xl_X8_207 xp_X2_study (by decide) (xm_lk xl_X8_325 xp_X2_meetings (by decide) xm_lk0)) xo_X8_allMeetings ?_ ?_
  · rintro av g Q ⟨z, ⟨rfl, -⟩, -⟩
    exact Nat.le_of_ble_eq_true rfl
  · rintro av g Q ⟨σ, ⟨rfl, h⟩, hQ⟩
    dsimp only at h hQ
    refine xm_run_go hm 60 ⟨(sT σ, sC σ), ⟨rfl, h.i⟩, ?_⟩
    rintro o g1 ⟨rfl, r1, f1⟩
    exact ⟨(tM (sT σ), vSh (sT σ) (sC σ), vNx (sT σ) (sC σ)), ⟨rfl, r1⟩, hQ _ _ ⟨rfl, h.Q (f1.Q (by omega))⟩⟩
