-- which picture one had
theorem mTp.told {lv : Nat} {σ : vS} {d : vTold} {g g' : xG} (h : mTp lv σ g) (f1 : ∀ k, k ≠ 0 → (k < 39 ∨ 41 < k) → g'.1 k = g.1 k) (f2 : ∀ j, j ≠ 59 → g'.1 0 j = g.1 0 j) (f3 : g'.2 = g.2) (hd : d.1 ≤ 20) (ht : mTold d g') : mTp lv (uD σ d) g' := by
  obtain ⟨h1, h2, h3, h4, h5, h6, h7, h8⟩ := h
  exact ⟨⟨h1.1, h1.2.1, h1.2.2.1, h1.2.2.2.1, h1.2.2.2.2.1, h1.2.2.2.2.2.1, hd⟩, h2.fr (f2 18 (by decide)) (fun k a b => f1 k (by omega) (by omega)), h3.fr (f1 32 (by decide) (by omega)), h4.fr (f2 2 (by decide)) (f1 1 (by decide) (by omega)), (f2 17 (by decide)).trans h5, h6.fr (f2 54 (by decide)) (f1 35 (by decide) (by omega)), ht, h8.fr (f1 42 (by decide) (by omega)) (f1 43 (by decide) (by omega)) (by rw [f3])⟩
def xt_X9_tell : xT := xm_rl (Z := vS × Int32 × Int32 × Bool) (fun (σ, m, v, b) av g => av = [.ref 0, .int m, .int v, .int (if b then 1 else 0)] ∧ mTop σ g) (fun (σ, m, v, b) g o g' => o = some (.int (aTell σ m v)) ∧ mTop (sTell σ m v b) g')
set_option maxRecDepth 100000 in
set_option maxHeartbeats 400000 in
theorem xp_X9_tell {l : Launch} {D : va_G} {cA : Nat → ClassId} {B : List (Nat × Cell)} : xm_Met l D cA B xs_M 2 yX9_tell cX9_tell 4 (some .int) xt_X9_tell := by
  have hm : xm_monos [xt_X9_in, xt_X9_isMark] := ⟨(by first | exact xm_fn_mono _ _ _ | exact xm_rl_mono _ _), (by first | exact xm_fn_mono _ _ _ | exact xm_rl_mono _ _), trivial⟩
  refine xm_meth (own := RX9) (ks := xk_X9_tell) (C := xc_X9_tell) (Ts := [xt_X9_in, xt_X9_isMark]) (by decide +kernel) rfl xm_clsok xs_M_ok xf_X9_ok xi_X9_ok xj_X9_ok (xm_lk xl_X9_307 xp_X9_in (by decide) (xm_lk xl_X9_469 xp_X9_isMark (by decide) xm_lk0)) xo_X9_tell ?_ ?_
  · rintro av g Q ⟨z, ⟨rfl, -⟩, -⟩
    exact Nat.le_of_ble_eq_true rfl
  · rintro av g Q ⟨⟨σ, m, v, b⟩, ⟨rfl, ⟨lv, h⟩⟩, hQ⟩
    dsimp only at h hQ
    have td := h.2.2.2.2.2.2.1
    have t20 := h.1.2.2.2.2.2.2
    have n20 : (sD σ).1 = 20 ↔ g.1 0 59 = 20 := by rw [td.1]; exact (nI_eq (b := 20) (by omega) (by decide)).symm
    by_cases hd : (sD σ).1 = 20
    · have same : sTell σ m v b = σ := by
        unfold sTell
        have e : ∀ m v, uD σ (vTell (sD σ) m v b) = σ := fun m v => by rw [vTell, if_pos hd]; rfl
        unfold vDo
        split
        · split
          · exact e _ _
          · rfl
        · rfl
      have ans : aTell σ m v = -1 := by
        unfold aTell vDo
        rw [if_pos hd]
        split
        · split <;> rfl
        · rfl
      have fin := hQ (some (.int (-1))) g ⟨by rw [ans], lv, by rw [same]; exact h⟩
      exact xm_run_go hm 30 ⟨fun _ => fin, fun z => absurd (n20.mp hd) z⟩
    have nd : ¬ g.1 0 59 = 20 := fun z => hd (n20.mpr z)
    rcases vDo_or (m := 4) m (by omega) with hp | ⟨m, hp, rfl⟩
    · have fin := hQ (some (.int (-1))) g ⟨by rw [aTell, vDo_n hp], lv, by rw [sTell, vDo_n hp]; exact h⟩
      refine xm_run_go hm 30 ⟨fun z => absurd z nd, fun _ => ⟨(m, 0, 3), ⟨rfl, trivial⟩, ⟨fun _ => fin, fun z => ?_⟩⟩⟩
      exact absurd (vIn_n (k := 3) rfl (by omega) hp) z
    · have z1 := vIn_y (k := 3) (hi := 3) rfl (by omega) hp
      rcases vDo_or (m := 21) v (by omega) with hv | ⟨v, hv, rfl⟩
      · have fin := hQ (some (.int (-1))) g ⟨by rw [aTell, vDo_y hp (by omega), vDo_n hv], lv, by rw [sTell, vDo_y hp (by omega), vDo_n hv]; exact h⟩
        refine xm_run_go hm 30 ⟨fun z => absurd z nd, fun _ => ⟨(nI m, 0, 3), ⟨rfl, trivial⟩, ⟨fun _ => fin, fun _ => ⟨v, ⟨rfl, trivial⟩, ⟨fun z => ?_, fun _ => fin⟩⟩⟩⟩⟩
        exact absurd (vIs_n hv) z
      · have z2 := vIs_y hv (by decide)
        have hl : (sD σ).1 < 20 := by omega
        refine xm_run_go hm 60 ⟨fun z => absurd z nd, fun _ => ⟨(nI m, 0, 3), ⟨rfl, trivial⟩, ⟨fun z => ?_, fun _ => ⟨nI v, ⟨rfl, trivial⟩, ⟨fun _ => ⟨(sD σ).1, ⟨hl, td.1⟩, (sD σ).1, ⟨hl, ?_⟩, (sD σ).1, ⟨hl, ?_⟩, hQ _ _ ⟨?_, lv, ?_⟩⟩, fun z => ?_⟩⟩⟩⟩⟩
        · rw [z1] at z; exact absurd z (by decide)
        · rw [xg_off _ _ _ (by decide)]; exact td.1
        · rw [xg_off _ _ _ (by decide), xg_off _ _ _ (by decide)]; exact ⟨td.1, by cases b; exact Or.inl rfl; exact Or.inr rfl⟩
        · rw [aTell, vDo_y hp (by omega), vDo_y hv (by omega), if_neg hd, xg_in, if_pos rfl, xg_off _ _ _ (by decide), xg_off _ _ _ (by decide), xg_off _ _ _ (by decide), td.1, Int32.add_sub_cancel]
        · rw [sTell, vDo_y hp (by omega), vDo_y hv (by omega), vTell, if_neg hd]
          refine h.told (fun k a b => ?_) (fun j hj => ?_) rfl (show (sD σ).1 + 1 ≤ 20 by omega) ⟨?_, fun i hi => ?_⟩
          · rw [xg_off _ _ _ a, xg_off _ _ _ (by omega), xg_off _ _ _ (by omega), xg_off _ _ _ (by omega)]
          · rw [xg_in, if_neg hj, xg_off _ _ _ (by decide), xg_off _ _ _ (by decide), xg_off _ _ _ (by decide)]
          · rw [xg_in, if_pos rfl, xg_off _ _ _ (by decide), xg_off _ _ _ (by decide), xg_off _ _ _ (by decide), td.1, nI_1]
          · dsimp only at hi ⊢
            rw [xg_off _ _ _ (by decide), xg_off _ _ _ (by decide), xg_off _ _ _ (by decide), xg_in]
            rw [xg_off _ _ _ (by decide), xg_off _ _ _ (by decide), xg_in]
            rw [xg_off _ _ _ (by decide), xg_off _ _ _ (by decide), xg_in]
            rw [xg_off _ _ _ (by decide), xg_off _ _ _ (by decide)]
            by_cases z : i = (sD σ).1
            · simp only [if_pos z]
              exact ⟨trivial, hp, trivial, trivial⟩
            · simp only [if_neg z]
              exact td.2 i (by omega)
        · rw [z2] at z; exact absurd z (by decide)
def xt_X9_forget : xT := xm_rl (Z := vS) (fun σ av g => av = [.ref 0] ∧ mTop σ g) (fun σ g o g' => o = some (.int (aForget σ)) ∧ mTop (sForget σ) g')
set_option maxRecDepth 100000 in
set_option maxHeartbeats 400000 in
theorem xp_X9_forget {l : Launch} {D : va_G} {cA : Nat → ClassId} {B : List (Nat × Cell)} : xm_Met l D cA B xs_M 0 yX9_forget cX9_forget 2 (some .int) xt_X9_forget := by
  have hm : xm_monos [] := xm_m0
  refine xm_meth (own := RX9) (ks := xk_X9_forget) (C := xc_X9_forget) (Ts := []) (by decide +kernel) rfl xm_clsok xs_M_ok xf_X9_ok xi_X9_ok xj_X9_ok xm_lk0 xo_X9_forget ?_ ?_
  · rintro av g Q ⟨z, ⟨rfl, -⟩, -⟩
    exact Nat.le_of_ble_eq_true rfl
  · rintro av g Q ⟨σ, ⟨rfl, ⟨lv, h⟩⟩, hQ⟩
    dsimp only at h hQ
    refine xm_run_go hm 30 (hQ _ _ ⟨?_, lv, ?_⟩)
    · rw [aForget, h.2.2.2.2.2.2.1.1]
    · exact h.told (fun k a b => xg_off _ _ _ a) (fun j hj => by rw [xg_in, if_neg hj]) rfl (Nat.zero_le _) ⟨by rw [xg_in, if_pos rfl]; rfl, fun i hi => absurd hi (Nat.not_lt_zero _)⟩
def xt_X9_markOf : xT := xm_fn (Z := Nat × Nat × Nat × vSt × vSc) (fun (s, k, lv, t, c) av g => av = [.ref 0, .int (nI s), .int (nI k)] ∧ s < tN t ∧ k < 4 ∧ mIn lv t c g) (fun (s, k, lv, t, c) _ => some (.int (vMark t c s k))) (fun _ g => g)
set_option maxRecDepth 100000 in
set_option maxHeartbeats 400000 in
theorem xp_X9_markOf {l : Launch} {D : va_G} {cA : Nat → ClassId} {B : List (Nat × Cell)} : xm_Met l D cA B xs_M 3 yX9_markOf cX9_markOf 3 (some .int) xt_X9_markOf := by
  have hm : xm_monos [xt_X9_leftAt, xt_X9_rightAt, xt_X9_shownOn, xt_X9_bits] := ⟨(by first | exact xm_fn_mono _ _ _ | exact xm_rl_mono _ _), (by first | exact xm_fn_mono _ _ _ | exact xm_rl_mono _ _), (by first | exact xm_fn_mono _ _ _ | exact xm_rl_mono _ _), (by first | exact xm_fn_mono _ _ _ | exact xm_rl_mono _ _), trivial⟩
  refine xm_meth (own := RX9) (ks := xk_X9_markOf) (C := xc_X9_markOf) (Ts := [xt_X9_leftAt, xt_X9_rightAt, xt_X9_shownOn, xt_X9_bits]) (by decide +kernel) rfl xm_clsok xs_M_ok xf_X9_ok xi_X9_ok xj_X9_ok (xm_lk xl_X9_333 xp_X9_leftAt (by decide) (xm_lk xl_X9_330 xp_X9_rightAt (by decide) (xm_lk xl_X9_409 xp_X9_shownOn (by decide) (xm_lk xl_X9_472 xp_X9_bits (by decide) xm_lk0)))) xo_X9_markOf ?_ ?_
  · rintro av g Q ⟨z, ⟨rfl, -⟩, -⟩
    exact Nat.le_of_ble_eq_true rfl
  · rintro av g Q ⟨⟨s, k, lv, t, c⟩, ⟨rfl, hs, hk, h⟩, hQ⟩
    dsimp only at hs hk h hQ
    have n5 := h.n5
    have m6 := h.m6
    have hl := h.lv
    have lit : ∀ i, i < 100 → nI k = nI i → k = i := fun i hi h => (nI_eq (by omega) (by omega)).mp h
    have e3 := (h.2.2.1.2.2.2.2.1 s hs).2.2
    have ev : vShow t c (nI s) = nI (uB (fun p => vPic t c p = nI s) (tM t)) := by rw [vShow, vBits_u m6]
    have ea : [Value.int (vShow t c (nI s))] = [Value.int (nI (uB (fun p => vPic t c p = nI s) (tM t)))] := by rw [ev]
    refine xm_run_go hm 40 ⟨fun z0 => ⟨fun z1 => ⟨fun z2 => ⟨(nI s, lv, t, c), ⟨rfl, h⟩, uB (fun p => vPic t c p = nI s) (tM t), ⟨ea, uB_lt m6⟩, xq_i hQ ?_⟩, fun z2 => ⟨5 * lv + s, ⟨by omega, ?_⟩, xq_i hQ ?_⟩⟩, fun z1 => ⟨(s, lv, t), ⟨rfl, hs, h.1, h.2.2.1⟩, xq_i hQ ?_⟩⟩, fun z0 => ⟨(s, lv, t), ⟨rfl, hs, h.1, h.2.2.1⟩, xq_i hQ ?_⟩⟩
    · have a0 : k ≠ 0 := fun e => z0 (by rw [e]; rfl)
      have a1 : k ≠ 1 := fun e => z1 (by rw [e]; rfl)
      have a2 : k ≠ 2 := fun e => z2 (by rw [e]; rfl)
      have : k = 3 := by omega
      subst this; rfl
    · rw [h.l, xn_5]
    · have := lit 2 (by omega) z2; subst this; exact e3
    · have := lit 1 (by omega) z1; subst this; rfl
    · have := lit 0 (by omega) z0; subst this; rfl
def xt_X9_whichBits : xT := xm_rl (Z := Nat × Nat × vS) (fun (k, lv, σ) av g => av = [.ref 0, .int (nI k)] ∧ k ≤ (sD σ).1 ∧ mTp lv σ g) (fun (k, lv, σ) g o g' => o = some (.int (nI (vWhich (sT σ) (sC σ) (sD σ) k))) ∧ mIn lv (sT σ) (sC σ) g' ∧ mFq g g')
set_option maxRecDepth 100000 in
set_option maxHeartbeats 400000 in
theorem xp_X9_whichBits {l : Launch} {D : va_G} {cA : Nat → ClassId} {B : List (Nat × Cell)} : xm_Met l D cA B xs_M 4 yX9_whichBits cX9_whichBits 6 (some .int) xt_X9_whichBits := by
  have hm : xm_monos [xt_X9_copies, xt_X9_markOf] := ⟨(by first | exact xm_fn_mono _ _ _ | exact xm_rl_mono _ _), (by first | exact xm_fn_mono _ _ _ | exact xm_rl_mono _ _), trivial⟩
  refine xm_meth (own := RX9) (ks := xk_X9_whichBits) (C := xc_X9_whichBits) (Ts := [xt_X9_copies, xt_X9_markOf]) (by decide +kernel) rfl xm_clsok xs_M_ok xf_X9_ok xi_X9_ok xj_X9_ok (xm_lk xl_X9_320 xp_X9_copies (by decide) (xm_lk xl_X9_475 xp_X9_markOf (by decide) xm_lk0)) xo_X9_whichBits ?_ ?_
  · rintro av g Q ⟨z, ⟨rfl, -⟩, -⟩
    exact Nat.le_of_ble_eq_true rfl
  · rintro av g Q ⟨⟨k, lv, σ⟩, ⟨rfl, hk, h⟩, hQ⟩
    dsimp only at hk h hQ
    have n5 := h.n5
    have hl := h.lv
    have t20 := h.1.2.2.2.2.2.2
    refine xm_run_go hm 30 ⟨(lv, σ), ⟨rfl, h⟩, ?_⟩
    rintro o g1 ⟨rfl, i1, f1, -, -⟩
    have h1 := h.q f1
    have td := h1.2.2.2.2.2.2.1
    unfold vWhich at hQ
    generalize hC : (fun s i => ((sD σ).2.2.1 i ≤ vMark (sT σ) (sC σ) s ((sD σ).2.1 i) ↔ (sD σ).2.2.2 i = true)) = C
    have hC' : ∀ s i, C s i ↔ ((sD σ).2.2.1 i ≤ vMark (sT σ) (sC σ) s ((sD σ).2.1 i) ↔ (sD σ).2.2.2 i = true) := fun s i => by rw [← hC]
    have hP : (fun s => ∀ i, i < k → ((sD σ).2.2.1 i ≤ vMark (sT σ) (sC σ) s ((sD σ).2.1 i) ↔ (sD σ).2.2.2 i = true)) = fun s => ∀ i, i < k → C s i := by rw [← hC]
    rw [hP] at hQ
    have vs : ∀ s j, (∀ i, i < j + 1 → C s i) ↔ (∀ i, i < j → C s i) ∧ C s j := fun s j => by
      constructor
      · intro q; exact ⟨fun i hi => q i (by omega), q j (by omega)⟩
      · intro q i hi
        by_cases z : i = j
        · rw [z]; exact q.2
        · exact q.1 i (by omega)
    have inner : ∀ s, s < tN (sT σ) → (∀ v2, v2 = nI (uB (fun s => ∀ i, i < k → C s i) (s + 1)) → ∀ w4 w5, xm_go xs_M xk_X9_whichBits [xt_X9_copies, xt_X9_markOf] xc_X9_whichBits Q (xm_drop 6 xc_X9_whichBits) [.ref 0, .int (nI k), .int v2, .int (nI s + 1), w4, w5] [] g1) →
        ∀ d j, j + d = k → ∀ v2 v4, v2 = nI (uB (fun s => ∀ i, i < k → C s i) s) → v4 = vB (∀ i, i < j → C s i) → xm_go xs_M xk_X9_whichBits [xt_X9_copies, xt_X9_markOf] xc_X9_whichBits Q (xm_drop 17 xc_X9_whichBits) [.ref 0, .int (nI k), .int v2, .int (nI s), .int v4, .int (nI j)] [] g1 := by
      intro s hs hout d
      induction d with
      | zero =>
        intro j hj v2 v4 e2 e4
        have hj : j = k := by omega
        subst hj
        refine xm_run_go hm 30 ⟨fun _ => ⟨fun z => xm_cut hm (hout _ ?_ _ _), fun z => xm_cut hm (hout _ ?_ _ _)⟩, fun z => absurd z (nI_nlt (Nat.le_refl _) (by omega))⟩
        · rw [uB_f (fun y => by rw [e4, vB_t y] at z; exact absurd z (by decide)), e2]
        · rw [uB_t (Classical.byContradiction fun y => by rw [e4, vB_f y] at z; exact absurd rfl z), e2, ub_or1 _ (uB_lt (by omega)) s (by omega)]
      | succ d ih =>
        intro j hj v2 v4 e2 e4
        have hjk : j < k := by omega
        obtain ⟨a1, a2, a3, a4⟩ := td.2 j (by omega)
        have nx := ih (j + 1) (by omega)
        rw [nI_succ] at nx
        have ea : [Value.ref 0, .int (nI s), .int (g1.1 39 j)] = [Value.ref 0, .int (nI s), .int (nI ((sD σ).2.1 j))] := by rw [a1]
        have j20 : j < 20 := by omega
        have yes : C s j → v4 = vB (∀ i, i < j + 1 → C s i) := fun q => by
          rw [e4]
          exact congrArg vB (propext ((vs s j).trans ⟨fun z => z.1, fun z => ⟨z, q⟩⟩).symm)
        have no : ¬ C s j → (0 : Int32) = vB (∀ i, i < j + 1 → C s i) := fun q => by rw [vB_f (fun z => q ((vs s j).mp z).2)]
        have b0 : (if (sD σ).2.2.2 j then (1 : Int32) else 0) = 0 ↔ ¬ (sD σ).2.2.2 j = true := by cases (sD σ).2.2.2 j <;> simp
        have b1 : (if (sD σ).2.2.2 j then (1 : Int32) else 0) = 1 ↔ (sD σ).2.2.2 j = true := by cases (sD σ).2.2.2 j <;> simp
        refine xm_run_go hm 60 ⟨fun z => absurd z (nI_ge hjk (by omega)), fun _ => ⟨j, ⟨j20, rfl⟩, (s, (sD σ).2.1 j, lv, sT σ, sC σ), ⟨ea, hs, a2, i1⟩, j, ⟨j20, rfl⟩, ⟨fun z => ⟨j, ⟨j20, rfl⟩, ⟨fun y => xm_cut hm (nx _ _ e2 (yes ?_)), fun y => xm_cut hm (nx _ _ e2 (no ?_))⟩⟩, fun z => ⟨j, ⟨j20, rfl⟩, ⟨fun y => xm_cut hm (nx _ _ e2 (yes ?_)), fun y => xm_cut hm (nx _ _ e2 (no ?_))⟩⟩⟩⟩⟩
        · rw [a3] at z
          rw [a4] at y
          rw [hC']
          exact ⟨fun x => absurd x (Int32.not_le.mpr z), fun x => absurd x (b0.mp y.symm)⟩
        · rw [a3] at z
          rw [a4] at y
          rw [hC']
          exact fun q => y (b0.mpr (fun x => Int32.not_le.mpr z (q.mpr x))).symm
        · rw [a3] at z
          rw [a4] at y
          rw [hC']
          exact ⟨fun _ => b1.mp y.symm, fun _ => z⟩
        · rw [a3] at z
          rw [a4] at y
          rw [hC']
          exact fun q => y (b1.mpr (q.mp z)).symm
    have outer : ∀ d s, s + d = tN (sT σ) → ∀ v2, v2 = nI (uB (fun s => ∀ i, i < k → C s i) s) → ∀ w4 w5, xm_go xs_M xk_X9_whichBits [xt_X9_copies, xt_X9_markOf] xc_X9_whichBits Q (xm_drop 6 xc_X9_whichBits) [.ref 0, .int (nI k), .int v2, .int (nI s), w4, w5] [] g1 := by
      intro d
      induction d with
      | zero =>
        intro s hs v2 e2 w4 w5
        have hs : s = tN (sT σ) := by omega
        subst hs
        refine xm_run_go hm 30 ⟨lv, ⟨hl, h1.l⟩, ⟨fun _ => hQ _ _ ⟨by rw [e2], i1, f1⟩, fun z => ?_⟩⟩
        rw [h1.n] at z
        exact absurd z (nI_nlt (Nat.le_refl _) (by omega))
      | succ d ih =>
        intro s hs v2 e2 w4 w5
        have hsn : s < tN (sT σ) := by omega
        have nx := ih (s + 1) (by omega)
        rw [nI_succ] at nx
        refine xm_run_go hm 30 ⟨lv, ⟨hl, h1.l⟩, ⟨fun z => ?_, fun _ => xm_cut hm (inner s hsn nx k 0 (by omega) _ _ e2 ?_)⟩⟩
        · rw [h1.n] at z
          exact absurd z (nI_ge hsn (by omega))
        · rw [vB_t (fun i hi => absurd hi (by omega))]
    exact xm_cut hm (outer (tN (sT σ)) 0 (by omega) _ rfl _ _)
def xt_X9_which : xT := xm_rl (Z := vS × Int32 × Int32) (fun (σ, k, w) av g => av = [.ref 0, .int k, .int w] ∧ mTop σ g) (fun (σ, k, w) g o g' => o = some (.int (aWhich σ k w)) ∧ mTop σ g')
set_option maxRecDepth 100000 in
set_option maxHeartbeats 400000 in
theorem xp_X9_which {l : Launch} {D : va_G} {cA : Nat → ClassId} {B : List (Nat × Cell)} : xm_Met l D cA B xs_M 5 yX9_which cX9_which 4 (some .int) xt_X9_which := by
  have hm : xm_monos [xt_X9_in, xt_X9_whichBits, xt_X9_bits] := ⟨(by first | exact xm_fn_mono _ _ _ | exact xm_rl_mono _ _), (by first | exact xm_fn_mono _ _ _ | exact xm_rl_mono _ _), (by first | exact xm_fn_mono _ _ _ | exact xm_rl_mono _ _), trivial⟩
  refine xm_meth (own := RX9) (ks := xk_X9_which) (C := xc_X9_which) (Ts := [xt_X9_in, xt_X9_whichBits, xt_X9_bits]) (by decide +kernel) rfl xm_clsok xs_M_ok xf_X9_ok xi_X9_ok xj_X9_ok (xm_lk xl_X9_307 xp_X9_in (by decide) (xm_lk xl_X9_478 xp_X9_whichBits (by decide) (xm_lk xl_X9_472 xp_X9_bits (by decide) xm_lk0))) xo_X9_which ?_ ?_
  · rintro av g Q ⟨z, ⟨rfl, -⟩, -⟩
    exact Nat.le_of_ble_eq_true rfl
  · rintro av g Q ⟨⟨σ, k, w⟩, ⟨rfl, ⟨lv, h⟩⟩, hQ⟩
    dsimp only at h hQ
    have td := h.2.2.2.2.2.2.1
    have t2 := h.1.2.2.2.2.2.2
    rcases vDo_or (m := (sD σ).1 + 1) k (by omega) with hp | ⟨k, hp, rfl⟩
    · have fin := hQ (some (.int (-1))) g ⟨by rw [aWhich, vDo_n hp], lv, h⟩
      refine xm_run_go hm 30 ⟨(k, 0, g.1 0 59), ⟨rfl, trivial⟩, ⟨fun _ => fin, fun z => ?_⟩⟩
      exact absurd (vIn_n (k := (sD σ).1) td.1 (by omega) hp) z
    · have z1 := vIn_y (k := (sD σ).1) (hi := g.1 0 59) td.1 (by omega) hp
      have lw := vWhich_lt h.1.1 (sC σ) (sD σ) k
      rcases vDo_or (m := 2) w (by omega) with hv | ⟨w, hv, rfl⟩
      · have fin := hQ (some (.int (-1))) g ⟨by rw [aWhich, vDo_y hp (by omega), if_neg (fun e => hv (by rw [e]; decide)), if_neg (fun e => hv (by rw [e]; decide))], lv, h⟩
        refine xm_run_go hm 30 ⟨(nI k, 0, g.1 0 59), ⟨rfl, trivial⟩, ⟨fun _ => fin, fun _ => ⟨(w, 0, 1), ⟨rfl, trivial⟩, ⟨fun z => ?_, fun _ => fin⟩⟩⟩⟩
        exact absurd (vIn_n (k := 1) rfl (by omega) hv) z
      · have z2 := vIn_y (k := 1) (hi := 1) rfl (by omega) hv
        refine xm_run_go hm 40 ⟨(nI k, 0, g.1 0 59), ⟨rfl, trivial⟩, ⟨fun z => ?_, fun _ => ⟨(nI w, 0, 1), ⟨rfl, trivial⟩, ⟨fun _ => ⟨(k, lv, σ), ⟨rfl, by show k ≤ (sD σ).1; omega, h⟩, ?_⟩, fun z => ?_⟩⟩⟩⟩
        · rw [z1] at z; exact absurd z (by decide)
        · rintro o g1 ⟨rfl, i1, f1⟩
          refine ⟨fun z => hQ _ _ ⟨?_, lv, h.q f1⟩, fun z => ⟨vWhich (sT σ) (sC σ) (sD σ) k, ⟨rfl, lw⟩, hQ _ _ ⟨?_, lv, h.q f1⟩⟩⟩
          · have : w = 1 := by
              have : w ≠ 0 := fun e => z (by rw [e]; rfl)
              omega
            subst this
            rw [aWhich, vDo_y hp (by omega), if_neg z, if_pos (show nI 1 = 1 from rfl)]
          · rw [aWhich, vDo_y hp (by omega), if_pos z]
        · rw [z2] at z; exact absurd z (by decide)
theorem ub_ct_split : ∀ a, a < 64 → ∀ b, b < 64 → ub_ct a = ub_ct (a &&& b) + ub_ct (a &&& (63 ^^^ b)) := by decide +kernel
theorem ub_ct_0 : ∀ a, a < 64 → (ub_ct a = 0 ↔ a = 0) := by decide +kernel
theorem ub_ct_5 : ∀ a, a < 32 → ub_ct a ≤ 5 := by decide +kernel
theorem uB_lt2 {P : Nat → Prop} : ∀ {n : Nat}, uB P n < 2 ^ n
  | 0 => by simp [uB]
  | n + 1 => by
    have ih := uB_lt2 (P := P) (n := n)
    by_cases h : P n
    · rw [uB_t h]
      exact Nat.or_lt_two_pow (Nat.lt_trans ih (Nat.pow_lt_pow_right (by omega) (by omega))) (Nat.pow_lt_pow_right (by omega) (by omega))
    · rw [uB_f h]; exact Nat.lt_trans ih (Nat.pow_lt_pow_right (by omega) (by omega))
theorem vSn_ext (f : Nat → Nat) {n : Nat} : ∀ d, (∀ k, n ≤ k → k < n + d → f k = 0) → vSn f (n + d) = vSn f n
  | 0, _ => rfl
  | d + 1, h => by
    show vSn f (n + d) + f (n + d) = _
    rw [h (n + d) (by omega) (by omega), Nat.add_zero, vSn_ext f d (fun k h1 h2 => h k h1 (by omega))]
def xt_X9_look : xT := xm_rl (Z := vS × Int32 × Int32) (fun (σ, k, w) av g => av = [.ref 0, .int k, .int w] ∧ mTop σ g) (fun (σ, k, w) g o g' => o = some (.int (aLook σ k w)) ∧ mTop σ g')
set_option maxRecDepth 100000 in
set_option maxHeartbeats 400000 in
theorem xp_X9_look {l : Launch} {D : va_G} {cA : Nat → ClassId} {B : List (Nat × Cell)} : xm_Met l D cA B xs_M 5 yX9_look cX9_look 10 (some .int) xt_X9_look := by
  have hm : xm_monos [xt_X9_in, xt_X9_isMark, xt_X9_whichBits, xt_X9_bits, xt_X9_markOf] := ⟨(by first | exact xm_fn_mono _ _ _ | exact xm_rl_mono _ _), (by first | exact xm_fn_mono _ _ _ | exact xm_rl_mono _ _), (by first | exact xm_fn_mono _ _ _ | exact xm_rl_mono _ _), (by first | exact xm_fn_mono _ _ _ | exact xm_rl_mono _ _), (by first | exact xm_fn_mono _ _ _ | exact xm_rl_mono _ _), trivial⟩
  refine xm_meth (own := RX9) (ks := xk_X9_look) (C := xc_X9_look) (Ts := [xt_X9_in, xt_X9_isMark, xt_X9_whichBits, xt_X9_bits, xt_X9_markOf]) (by decide +kernel) rfl xm_clsok xs_M_ok xf_X9_ok xi_X9_ok xj_X9_ok (xm_lk xl_X9_307 xp_X9_in (by decide) (xm_lk xl_X9_469 xp_X9_isMark (by decide) (xm_lk xl_X9_478 xp_X9_whichBits (by decide) (xm_lk xl_X9_472 xp_X9_bits (by decide) (xm_lk xl_X9_475 xp_X9_markOf (by decide) xm_lk0))))) xo_X9_look ?_ ?_
  · rintro av g Q ⟨z, ⟨rfl, -⟩, -⟩
    exact Nat.le_of_ble_eq_true rfl
  · rintro av g Q ⟨⟨σ, k, v⟩, ⟨rfl, ⟨lv, h⟩⟩, hQ⟩
    dsimp only at h hQ
    have td := h.2.2.2.2.2.2.1
    have t2 := h.1.2.2.2.2.2.2
    have n5 := h.n5
    have hl := h.lv
    rcases vDo_or (m := (sD σ).1 + 1) k (by omega) with hp | ⟨k, hp, rfl⟩
    · have fin := hQ (some (.int (-1))) g ⟨by rw [aLook, vDo_n hp], lv, h⟩
      refine xm_run_go hm 30 ⟨(k, 0, g.1 0 59), ⟨rfl, trivial⟩, ⟨fun _ => fin, fun z => ?_⟩⟩
      exact absurd (vIn_n (k := (sD σ).1) td.1 (by omega) hp) z
    have z1 := vIn_y (k := (sD σ).1) (hi := g.1 0 59) td.1 (by omega) hp
    rcases vDo_or (m := 21) v (by omega) with hv | ⟨v, hv, rfl⟩
    · have fin := hQ (some (.int (-1))) g ⟨by rw [aLook, vDo_y hp (by omega), vDo_n hv], lv, h⟩
      refine xm_run_go hm 30 ⟨(nI k, 0, g.1 0 59), ⟨rfl, trivial⟩, ⟨fun _ => fin, fun _ => ⟨v, ⟨rfl, trivial⟩, ⟨fun z => ?_, fun _ => fin⟩⟩⟩⟩
      exact absurd (vIs_n hv) z
    have z2 := vIs_y hv (by decide)
    refine xm_run_go hm 40 ⟨(nI k, 0, g.1 0 59), ⟨rfl, trivial⟩, ⟨fun z => ?_, fun _ => ⟨nI v, ⟨rfl, trivial⟩, ⟨fun _ => ⟨(k, lv, σ), ⟨rfl, by show k ≤ (sD σ).1; omega, h⟩, ?_⟩, fun z => ?_⟩⟩⟩⟩
    · rw [z1] at z; exact absurd z (by decide)
    · rintro o g1 ⟨rfl, i1, f1⟩
      have h1 := h.q f1
      have lu32 : vWhich (sT σ) (sC σ) (sD σ) k < 32 := by
        have : vWhich (sT σ) (sC σ) (sD σ) k < 2 ^ tN (sT σ) := uB_lt2
        have : 2 ^ tN (sT σ) ≤ 2 ^ 5 := Nat.pow_le_pow_right (by omega) n5
        omega
      unfold aLook vLook at hQ
      rw [vDo_y hp (by omega), vDo_y hv (by omega)] at hQ
      have sub : ∀ s, (vWhich (sT σ) (sC σ) (sD σ) k).testBit s = true → s < tN (sT σ) := fun s q => (uB_bit.mp q).1
      generalize vWhich (sT σ) (sC σ) (sD σ) k = u at hQ lu32 sub
      have lu : u < 64 := by omega
      have c5 := ub_ct_5 u lu32
      have lr : ∀ i, vReach (sT σ) (sC σ) i (nI v) < 64 := fun i => vReach_lt h.1.1 (sC σ) i (nI v)
      have hw : ∀ i, vWorse (sT σ) (sC σ) (nI v) u i ≤ 5 := fun i => by
        have := ub_ct_split u lu _ (lr i)
        unfold vWorse
        exact Nat.max_le.mpr ⟨by omega, by omega⟩
      have hsp : ∀ i, ub_ct u = ub_ct (u &&& vReach (sT σ) (sC σ) i (nI v)) + ub_ct (u &&& (63 ^^^ vReach (sT σ) (sC σ) i (nI v))) := fun i => ub_ct_split u lu _ (lr i)
      have cnt : ∀ i, vSn (fun s => if (u &&& vReach (sT σ) (sC σ) i (nI v)).testBit s then 1 else 0) (tN (sT σ)) = ub_ct (u &&& vReach (sT σ) (sC σ) i (nI v)) := fun i => by
        rw [← ub_ct_vSn]
        have e := vSn_ext (fun s => if (u &&& vReach (sT σ) (sC σ) i (nI v)).testBit s then 1 else 0) (n := tN (sT σ)) (6 - tN (sT σ)) (fun s q1 q2 => by
          rw [if_neg (fun z => by
            rw [Nat.testBit_and, Bool.and_eq_true] at z
            have := sub s z.1
            omega)])
        rw [show tN (sT σ) + (6 - tN (sT σ)) = 6 by omega] at e
        exact e.symm
      have bit : ∀ i s, (u &&& vReach (sT σ) (sC σ) i (nI v)).testBit s = true ↔ (u.testBit s = true ∧ nI v ≤ vMark (sT σ) (sC σ) s i) := fun i s => by
        rw [Nat.testBit_and, Bool.and_eq_true]
        constructor
        · intro q; exact ⟨q.1, (uB_bit.mp q.2).2⟩
        · intro q; exact ⟨q.1, uB_bit.mpr ⟨sub s q.1, q.2⟩⟩
      have b6 : ∀ s, s < 6 → ((nI u >>> (nI s &&& 31)) &&& 1 = 1 ↔ u.testBit s = true) := fun s hs => by
        rw [ub_bit u lu s hs]
        split
        · rename_i q; exact ⟨fun _ => q, fun _ => rfl⟩
        · rename_i q; exact ⟨fun y => absurd y (by decide), fun y => absurd y q⟩
      have inner : ∀ i, i < 4 → ∀ x5 x6, (∀ n, n = ub_ct (u &&& vReach (sT σ) (sC σ) i (nI v)) → ∀ w9, xm_go xs_M xk_X9_look [xt_X9_in, xt_X9_isMark, xt_X9_whichBits, xt_X9_bits, xt_X9_markOf] xc_X9_look Q (xm_drop 56 xc_X9_look) [.ref 0, .int (nI k), .int (nI v), .int (nI u), .int (nI (ub_ct u)), .int x5, .int x6, .int (nI i), .int (nI n), w9] [] g1) →
          ∀ d s, s + d = tN (sT σ) → ∀ n, n = vSn (fun s => if (u &&& vReach (sT σ) (sC σ) i (nI v)).testBit s then 1 else 0) s → xm_go xs_M xk_X9_look [xt_X9_in, xt_X9_isMark, xt_X9_whichBits, xt_X9_bits, xt_X9_markOf] xc_X9_look Q (xm_drop 33 xc_X9_look) [.ref 0, .int (nI k), .int (nI v), .int (nI u), .int (nI (ub_ct u)), .int x5, .int x6, .int (nI i), .int (nI n), .int (nI s)] [] g1 := by
        intro i hi x5 x6 hout d
        induction d with
        | zero =>
          intro s hs n hn
          have hs : s = tN (sT σ) := by omega
          subst hs
          rw [cnt] at hn
          refine xm_run_go hm 7 ⟨lv, ⟨hl, h1.l⟩, ⟨fun _ => ?_, fun z => ?_⟩⟩
          · exact hout n hn _
          · rw [h1.n] at z
            exact absurd z (nI_nlt (Nat.le_refl _) (by omega))
        | succ d ih =>
          intro s hs n hn
          have hsn : s < tN (sT σ) := by omega
          have nx := ih (s + 1) (by omega)
          rw [nI_succ] at nx
          have yes : u.testBit s = true → nI v ≤ vMark (sT σ) (sC σ) s i → n + 1 = vSn (fun s => if (u &&& vReach (sT σ) (sC σ) i (nI v)).testBit s then 1 else 0) (s + 1) := fun q1 q2 => by
            rw [vSn, if_pos ((bit i s).mpr ⟨q1, q2⟩), hn]
          have no : ¬ (u.testBit s = true ∧ nI v ≤ vMark (sT σ) (sC σ) s i) → n = vSn (fun s => if (u &&& vReach (sT σ) (sC σ) i (nI v)).testBit s then 1 else 0) (s + 1) := fun q => by
            rw [vSn, if_neg (fun z => q ((bit i s).mp z)), hn, Nat.add_zero]
          refine xm_run_go hm 60 ⟨lv, ⟨hl, h1.l⟩, ⟨fun z => ?_, fun _ => ⟨fun z => xm_cut hm (nx _ (no (fun q => z ((b6 s (by omega)).mpr q.1)))), fun z => ⟨(s, i, lv, sT σ, sC σ), ⟨rfl, hsn, hi, i1⟩, ⟨fun y => xm_cut hm (nx _ (no (fun q => Int32.not_le.mpr y q.2))), fun y => ?_⟩⟩⟩⟩⟩
          · rw [h1.n] at z
            exact absurd z (nI_ge hsn (by omega))
          · have := nx _ (yes ((b6 s (by omega)).mp z) y)
            rw [nI_succ] at this
            exact xm_cut hm this
      by_cases u0 : u = 0
      · rw [if_pos u0] at hQ
        have c0 : ub_ct u = 0 := (ub_ct_0 u lu).mpr u0
        refine ⟨u, ⟨rfl, lu⟩, xm_cut hm (xm_run_go hm 30 ⟨fun z => absurd z (by decide), fun _ => ⟨fun _ => hQ _ _ ⟨rfl, lv, h1⟩, fun z => ?_⟩⟩)⟩
        rw [c0] at z; exact absurd z (by decide)
      rw [if_neg u0] at hQ
      have cpos : 0 < ub_ct u := Nat.pos_of_ne_zero (fun z => u0 ((ub_ct_0 u lu).mp z))
      have call : ∀ i, i ≤ 4 → ∀ x5 x6, ((i = 0 ∧ x5 = -2) ∨ (0 < i ∧ x5 = nI (vLk (vWorse (sT σ) (sC σ) (nI v) u) i).1 ∧ x6 = nI (vLk (vWorse (sT σ) (sC σ) (nI v) u) i).2)) → (0 ≤ x5 → 0 < i ∧ x5 = nI (vLk (vWorse (sT σ) (sC σ) (nI v) u) i).1 ∧ x6 = nI (vLk (vWorse (sT σ) (sC σ) (nI v) u) i).2) ∧ (x5 < 0 → i = 0) := fun i hi x5 x6 hx => by
        have vl : ∀ j, (vLk (vWorse (sT σ) (sC σ) (nI v) u) j).1 < j + 1 := fun j => by
          induction j with
          | zero => exact Nat.lt_succ_self _
          | succ j ih =>
            unfold vLk
            split
            · exact Nat.lt_succ_of_lt (Nat.lt_succ_self _)
            · exact Nat.lt_succ_of_lt ih
        rcases hx with ⟨a, b⟩ | ⟨a, b, c⟩
        · exact ⟨fun z => by rw [b] at z; exact absurd z (by decide), fun _ => a⟩
        · exact ⟨fun _ => ⟨a, b, c⟩, fun z => by rw [b] at z; exact absurd z (nI_pos (by have := vl i; omega))⟩
      have outer : ∀ d i, i + d = 4 → ∀ x5 x6, ((i = 0 ∧ x5 = -2) ∨ (0 < i ∧ x5 = nI (vLk (vWorse (sT σ) (sC σ) (nI v) u) i).1 ∧ x6 = nI (vLk (vWorse (sT σ) (sC σ) (nI v) u) i).2)) → ∀ w8 w9, xm_go xs_M xk_X9_look [xt_X9_in, xt_X9_isMark, xt_X9_whichBits, xt_X9_bits, xt_X9_markOf] xc_X9_look Q (xm_drop 24 xc_X9_look) [.ref 0, .int (nI k), .int (nI v), .int (nI u), .int (nI (ub_ct u)), .int x5, .int x6, .int (nI i), w8, w9] [] g1 := by
        intro d
        induction d with
        | zero =>
          intro i hi x5 x6 hx w8 w9
          have hi : i = 4 := by omega
          subst hi
          refine xm_run_go hm 30 ⟨fun _ => hQ _ _ ⟨?_, lv, h1⟩, fun z => absurd z (by decide)⟩
          rcases hx with ⟨a, -⟩ | ⟨-, b, -⟩
          · exact absurd a (by decide)
          · rw [b]
        | succ d ih =>
          intro i hi x5 x6 hx w8 w9
          have hi4 : i < 4 := by omega
          obtain ⟨c1, c2⟩ := call i (by omega) x5 x6 hx
          have nx := ih (i + 1) (by omega)
          rw [nI_succ] at nx
          have wi := hw i
          have vle := vLk_le (vWorse (sT σ) (sC σ) (nI v) u) i
          have tail : ∀ n, n = ub_ct (u &&& vReach (sT σ) (sC σ) i (nI v)) → ∀ w9, xm_go xs_M xk_X9_look [xt_X9_in, xt_X9_isMark, xt_X9_whichBits, xt_X9_bits, xt_X9_markOf] xc_X9_look Q (xm_drop 56 xc_X9_look) [.ref 0, .int (nI k), .int (nI v), .int (nI u), .int (nI (ub_ct u)), .int x5, .int x6, .int (nI i), .int (nI n), w9] [] g1 := by
            intro n hn w9
            have sp := hsp i
            have dif : nI (ub_ct u) - nI n = nI (ub_ct (u &&& (63 ^^^ vReach (sT σ) (sC σ) i (nI v)))) := by
              rw [sp, ← nI_add, ← hn, xn_back]
            have set : ∀ x9, x9 = nI (vWorse (sT σ) (sC σ) (nI v) u i) → (x5 < 0 ∨ x9 < x6) → 0 < i + 1 ∧ nI i = nI (vLk (vWorse (sT σ) (sC σ) (nI v) u) (i + 1)).1 ∧ x9 = nI (vLk (vWorse (sT σ) (sC σ) (nI v) u) (i + 1)).2 := fun x9 h9 hh => by
              have lt : vWorse (sT σ) (sC σ) (nI v) u i < (vLk (vWorse (sT σ) (sC σ) (nI v) u) i).2 := by
                rcases Int32.lt_or_le x5 0 with q | q
                · rw [c2 q]
                  have := hw 0
                  show _ < 6
                  omega
                · rcases hh with hh | hh
                  · exact absurd hh (Int32.not_lt.mpr q)
                  · rw [h9, (c1 q).2.2] at hh
                    exact (nI_ltI (by omega) (by omega)).mp hh
              rw [vLk, if_pos lt]
              exact ⟨by omega, rfl, h9⟩
            have keep : ∀ x9, x9 = nI (vWorse (sT σ) (sC σ) (nI v) u i) → 0 ≤ x5 → x6 ≤ x9 → 0 < i + 1 ∧ x5 = nI (vLk (vWorse (sT σ) (sC σ) (nI v) u) (i + 1)).1 ∧ x6 = nI (vLk (vWorse (sT σ) (sC σ) (nI v) u) (i + 1)).2 := fun x9 h9 q hh => by
              obtain ⟨d1, d2, d3⟩ := c1 q
              rw [h9, d3] at hh
              have := (nI_leI (by omega) (by omega)).mp hh
              rw [vLk, if_neg (by omega)]
              exact ⟨by omega, d2, d3⟩
            have w1 : nI (ub_ct u) - nI n < nI n → nI n = nI (vWorse (sT σ) (sC σ) (nI v) u i) := fun z => by
              rw [dif] at z
              have := (nI_ltI (by omega) (by omega)).mp z
              unfold vWorse
              rw [← hn, Nat.max_eq_left (by omega)]
            have w2 : nI n ≤ nI (ub_ct u) - nI n → nI (ub_ct u) - nI n = nI (vWorse (sT σ) (sC σ) (nI v) u i) := fun z => by
              rw [dif] at z
              have := (nI_leI (by omega) (by omega)).mp z
              unfold vWorse
              rw [dif, ← hn, Nat.max_eq_right (by omega)]
            exact xm_run_go hm 40 ⟨fun z => ⟨fun y => xm_cut hm (nx _ _ (Or.inr (set _ (w2 z) (Or.inl y))) _ _), fun y => ⟨fun x => xm_cut hm (nx _ _ (Or.inr (set _ (w2 z) (Or.inr x))) _ _), fun x => xm_cut hm (nx _ _ (Or.inr (keep _ (w2 z) y x)) _ _)⟩⟩, fun z => ⟨fun y => xm_cut hm (nx _ _ (Or.inr (set _ (w1 z) (Or.inl y))) _ _), fun y => ⟨fun x => xm_cut hm (nx _ _ (Or.inr (set _ (w1 z) (Or.inr x))) _ _), fun x => xm_cut hm (nx _ _ (Or.inr (keep _ (w1 z) y x)) _ _)⟩⟩⟩
          refine xm_run_go hm 30 ⟨fun z => absurd z (nI_ge (b := 4) hi4 (by omega)), fun _ => ⟨fun z => ?_, fun _ => xm_cut hm (inner i hi4 x5 x6 tail (tN (sT σ)) 0 (by omega) 0 rfl)⟩⟩
          exact absurd z (nI_nle cpos (by omega))
      exact ⟨u, ⟨rfl, lu⟩, xm_cut hm (outer 4 0 rfl _ _ (Or.inl ⟨rfl, rfl⟩) _ _)⟩
    · rw [z2] at z; exact absurd z (by decide)
