-- sums and bits of a scene
theorem vSum_cong {f f' : Nat → Int32} : ∀ {n : Nat}, (∀ k, k < n → f k = f' k) → vSum f n = vSum f' n
  | 0, _ => rfl
  | n + 1, h => by simp only [vSum, vSum_cong (n := n) (fun k hk => h k (by omega)), h n (by omega)]
theorem vBits_cong {f f' : Nat → Prop} : ∀ {n : Nat}, (∀ k, k < n → (f k ↔ f' k)) → vBits f n = vBits f' n
  | 0, _ => rfl
  | n + 1, h => by
    have ih := vBits_cong (n := n) (fun k hk => h k (by omega))
    by_cases q : f n
    · rw [vBits_t q, vBits_t ((h n (by omega)).mp q), ih]
    · rw [vBits_f q, vBits_f (fun z => q ((h n (by omega)).mpr z)), ih]
noncomputable def vRowJoins (t : vSt) (c : vSc) : Int32 := vSum (fun p => nI (vJoins t c p)) (tM t) / 2
def xt_X3_rowJoins : xT := xm_fn (Z := Nat × vSt × vSc) (fun (b, t, c) av g => av = [.ref b] ∧ xIn b t c g) (fun (b, t, c) _ => some (.int (vRowJoins t c))) (fun _ g => g)
set_option maxRecDepth 100000 in
set_option maxHeartbeats 4000000 in
theorem xp_X3_rowJoins {l : Launch} {D : va_G} {cA : Nat → ClassId} {B : List (Nat × Cell)} : xm_Met l D cA B xs_X 0 yX3_rowJoins cX3_rowJoins 3 (some .int) xt_X3_rowJoins := by
  have hm : xm_monos [] := xm_m0
  refine xm_meth (own := RX3) (ks := xk_X3_rowJoins) (C := xc_X3_rowJoins) (Ts := []) (by decide +kernel) rfl xm_clsok xs_X_ok xf_X3_ok xi_X3_ok xj_X3_ok xm_lk0 xo_X3_rowJoins ?_ ?_
  · rintro av g Q ⟨z, ⟨rfl, -⟩, -⟩
    exact Nat.le_of_ble_eq_true rfl
  · rintro av g Q ⟨⟨b, t, c⟩, ⟨rfl, h⟩, hQ⟩
    dsimp only at h hQ
    have hb := h.1
    have hm6 := h.2.1.2.1
    have loop : ∀ d k, k + d = tM t → xm_go xs_X xk_X3_rowJoins [] xc_X3_rowJoins Q (xm_drop 4 xc_X3_rowJoins) [.ref b, .int (vSum (fun p => nI (vJoins t c p)) k), .int (nI k)] [] g := by
      intro d
      induction d with
      | zero =>
        intro k hk
        have hk : k = tM t := by omega
        subst hk
        rcases hb with rfl | rfl
        all_goals
          refine xm_run_go hm 20 ⟨h.st, ⟨fun _ => ⟨by decide, hQ⟩, fun q => ?_⟩⟩
          rw [h.m] at q
          exact absurd q (nI_nlt (Nat.le_refl _) (by omega))
      | succ d ih =>
        intro k hk
        have hkm : k < tM t := by omega
        have e := (h.2.2.2.2 k hkm).2.2.2
        have nx := ih (k + 1) (by omega)
        rw [nI_succ] at nx
        simp only [vSum, ← e] at nx
        rcases hb with rfl | rfl
        all_goals
          refine xm_run_go hm 20 ⟨h.st, ⟨fun q => ?_, fun _ => ⟨k, ⟨by omega, rfl⟩, xm_cut hm nx⟩⟩⟩
          rw [h.m] at q
          exact absurd q (nI_ge hkm (by omega))
    exact xm_run_go hm 10 (xm_cut hm (loop (tM t) 0 (by omega)))
def xt_X3_allGlows : xT := xm_fn (Z := Nat × vSt × vSc) (fun (b, t, c) av g => av = [.ref b] ∧ xIn b t c g) (fun (b, t, c) _ => some (.int (vSum (vTot t c) (tM t)))) (fun _ g => g)
set_option maxRecDepth 100000 in
set_option maxHeartbeats 4000000 in
theorem xp_X3_allGlows {l : Launch} {D : va_G} {cA : Nat → ClassId} {B : List (Nat × Cell)} : xm_Met l D cA B xs_X 0 yX3_allGlows cX3_allGlows 3 (some .int) xt_X3_allGlows := by
  have hm : xm_monos [] := xm_m0
  refine xm_meth (own := RX3) (ks := xk_X3_allGlows) (C := xc_X3_allGlows) (Ts := []) (by decide +kernel) rfl xm_clsok xs_X_ok xf_X3_ok xi_X3_ok xj_X3_ok xm_lk0 xo_X3_allGlows ?_ ?_
  · rintro av g Q ⟨z, ⟨rfl, -⟩, -⟩
    exact Nat.le_of_ble_eq_true rfl
  · rintro av g Q ⟨⟨b, t, c⟩, ⟨rfl, h⟩, hQ⟩
    dsimp only at h hQ
    have hb := h.1
    have hm6 := h.2.1.2.1
    have loop : ∀ d k, k + d = tM t → xm_go xs_X xk_X3_allGlows [] xc_X3_allGlows Q (xm_drop 4 xc_X3_allGlows) [.ref b, .int (vSum (vTot t c) k), .int (nI k)] [] g := by
      intro d
      induction d with
      | zero =>
        intro k hk
        have hk : k = tM t := by omega
        subst hk
        rcases hb with rfl | rfl
        all_goals
          refine xm_run_go hm 20 ⟨h.st, ⟨fun _ => hQ, fun q => ?_⟩⟩
          rw [h.m] at q
          exact absurd q (nI_nlt (Nat.le_refl _) (by omega))
      | succ d ih =>
        intro k hk
        have hkm : k < tM t := by omega
        have e := (h.2.2.2.2 k hkm).2.2.1
        have nx := ih (k + 1) (by omega)
        rw [nI_succ] at nx
        simp only [vSum, ← e] at nx
        rcases hb with rfl | rfl
        all_goals
          refine xm_run_go hm 20 ⟨h.st, ⟨fun q => ?_, fun _ => ⟨k, ⟨by omega, rfl⟩, xm_cut hm nx⟩⟩⟩
          rw [h.m] at q
          exact absurd q (nI_ge hkm (by omega))
    exact xm_run_go hm 10 (xm_cut hm (loop (tM t) 0 (by omega)))
/-- whose picture it is -/
noncomputable def vShow (t : vSt) (c : vSc) (s : Int32) : Int32 := vBits (fun p => vPic t c p = s) (tM t)
def xt_X3_showing : xT := xm_fn (Z := Nat × Int32 × vSt × vSc) (fun (b, s, t, c) av g => av = [.ref b, .int s] ∧ xIn b t c g) (fun (b, s, t, c) _ => some (.int (vShow t c s))) (fun _ g => g)
set_option maxRecDepth 100000 in
set_option maxHeartbeats 4000000 in
theorem xp_X3_showing {l : Launch} {D : va_G} {cA : Nat → ClassId} {B : List (Nat × Cell)} : xm_Met l D cA B xs_X 0 yX3_showing cX3_showing 4 (some .int) xt_X3_showing := by
  have hm : xm_monos [] := xm_m0
  refine xm_meth (own := RX3) (ks := xk_X3_showing) (C := xc_X3_showing) (Ts := []) (by decide +kernel) rfl xm_clsok xs_X_ok xf_X3_ok xi_X3_ok xj_X3_ok xm_lk0 xo_X3_showing ?_ ?_
  · rintro av g Q ⟨z, ⟨rfl, -⟩, -⟩
    exact Nat.le_of_ble_eq_true rfl
  · rintro av g Q ⟨⟨b, s, t, c⟩, ⟨rfl, h⟩, hQ⟩
    dsimp only at h hQ
    have hb := h.1
    have hm6 := h.2.1.2.1
    have loop : ∀ d k, k + d = tM t → xm_go xs_X xk_X3_showing [] xc_X3_showing Q (xm_drop 4 xc_X3_showing) [.ref b, .int s, .int (vBits (fun p => vPic t c p = s) k), .int (nI k)] [] g := by
      intro d
      induction d with
      | zero =>
        intro k hk
        have hk : k = tM t := by omega
        subst hk
        rcases hb with rfl | rfl
        all_goals
          refine xm_run_go hm 20 ⟨h.st, ⟨fun _ => hQ, fun q => ?_⟩⟩
          rw [h.m] at q
          exact absurd q (nI_nlt (Nat.le_refl _) (by omega))
      | succ d ih =>
        intro k hk
        have hkm : k < tM t := by omega
        have e := (h.2.2.2.2 k hkm).2.1
        have nx := ih (k + 1) (by omega)
        rw [nI_succ] at nx
        rcases hb with rfl | rfl
        all_goals
          refine xm_run_go hm 30 ⟨h.st, ⟨fun q => ?_, fun _ => ⟨k, ⟨by omega, rfl⟩, ⟨fun q => xm_cut hm ?_, fun q => xm_cut hm ?_⟩⟩⟩⟩
          · rw [h.m] at q
            exact absurd q (nI_ge hkm (by omega))
          · rw [e] at q
            rw [vBits_f q] at nx; exact nx
          · rw [e] at q
            rw [vBits_t q] at nx; exact nx
    exact xm_run_go hm 10 (xm_cut hm (loop (tM t) 0 (by omega)))
def xt_X3_plainOnes : xT := xm_fn (Z := Nat × vSt × vSc) (fun (b, t, c) av g => av = [.ref b] ∧ xIn b t c g) (fun (b, t, c) _ => some (.int (vShow t c (-2)))) (fun _ g => g)
set_option maxRecDepth 100000 in
set_option maxHeartbeats 4000000 in
theorem xp_X3_plainOnes {l : Launch} {D : va_G} {cA : Nat → ClassId} {B : List (Nat × Cell)} : xm_Met l D cA B xs_X 1 yX3_plainOnes cX3_plainOnes 1 (some .int) xt_X3_plainOnes := by
  have hm : xm_monos [xt_X3_showing] := ⟨(by first | exact xm_fn_mono _ _ _ | exact xm_rl_mono _ _), trivial⟩
  refine xm_meth (own := RX3) (ks := xk_X3_plainOnes) (C := xc_X3_plainOnes) (Ts := [xt_X3_showing]) (by decide +kernel) rfl xm_clsok xs_X_ok xf_X3_ok xi_X3_ok xj_X3_ok (xm_lk xl_X3_168 xp_X3_showing (by decide) xm_lk0) xo_X3_plainOnes ?_ ?_
  · rintro av g Q ⟨z, ⟨rfl, -⟩, -⟩
    exact Nat.le_of_ble_eq_true rfl
  · rintro av g Q ⟨⟨b, t, c⟩, ⟨rfl, h⟩, hQ⟩
    dsimp only at h hQ
    have hb := h.1
    rcases hb with rfl | rfl
    all_goals
      exact xm_run_go hm 10 ⟨(_, -2, t, c), ⟨rfl, h⟩, hQ⟩
def xt_X3_pictures : xT := xm_fn (Z := Nat × vSt × vSc) (fun (b, t, c) av g => av = [.ref b] ∧ xIn b t c g) (fun (b, t, c) _ => some (.int (vBits (fun s => ¬ vShow t c (nI s) = 0) (tN t)))) (fun _ g => g)
set_option maxRecDepth 100000 in
set_option maxHeartbeats 4000000 in
theorem xp_X3_pictures {l : Launch} {D : va_G} {cA : Nat → ClassId} {B : List (Nat × Cell)} : xm_Met l D cA B xs_X 1 yX3_pictures cX3_pictures 3 (some .int) xt_X3_pictures := by
  have hm : xm_monos [xt_X3_showing] := ⟨(by first | exact xm_fn_mono _ _ _ | exact xm_rl_mono _ _), trivial⟩
  refine xm_meth (own := RX3) (ks := xk_X3_pictures) (C := xc_X3_pictures) (Ts := [xt_X3_showing]) (by decide +kernel) rfl xm_clsok xs_X_ok xf_X3_ok xi_X3_ok xj_X3_ok (xm_lk xl_X3_168 xp_X3_showing (by decide) xm_lk0) xo_X3_pictures ?_ ?_
  · rintro av g Q ⟨z, ⟨rfl, -⟩, -⟩
    exact Nat.le_of_ble_eq_true rfl
  · rintro av g Q ⟨⟨b, t, c⟩, ⟨rfl, h⟩, hQ⟩
    dsimp only at h hQ
    have hb := h.1
    have hn5 := h.2.1.1
    have loop : ∀ d k, k + d = tN t → xm_go xs_X xk_X3_pictures [xt_X3_showing] xc_X3_pictures Q (xm_drop 4 xc_X3_pictures) [.ref b, .int (vBits (fun s => ¬ vShow t c (nI s) = 0) k), .int (nI k)] [] g := by
      intro d
      induction d with
      | zero =>
        intro k hk
        have hk : k = tN t := by omega
        subst hk
        rcases hb with rfl | rfl
        all_goals
          refine xm_run_go hm 20 ⟨h.st, ⟨fun _ => hQ, fun q => ?_⟩⟩
          rw [h.n] at q
          exact absurd q (nI_nlt (Nat.le_refl _) (by omega))
      | succ d ih =>
        intro k hk
        have hkm : k < tN t := by omega
        have nx := ih (k + 1) (by omega)
        rw [nI_succ] at nx
        rcases hb with rfl | rfl
        all_goals
          refine xm_run_go hm 30 ⟨h.st, ⟨fun q => ?_, fun _ => ⟨(_, nI k, t, c), ⟨rfl, h⟩, ⟨fun q => xm_cut hm ?_, fun q => xm_cut hm ?_⟩⟩⟩⟩
          · rw [h.n] at q
            exact absurd q (nI_ge hkm (by omega))
          · rw [vBits_f (fun z => z q)] at nx; exact nx
          · rw [vBits_t q] at nx; exact nx
    exact xm_run_go hm 10 (xm_cut hm (loop (tN t) 0 (by omega)))
def xt_X3_twiceJoined : xT := xm_fn (Z := Nat × vSt × vSc) (fun (b, t, c) av g => av = [.ref b] ∧ xIn b t c g) (fun (b, t, c) _ => some (.int (vBits (fun p => nI (vJoins t c p) = 2) (tM t)))) (fun _ g => g)
set_option maxRecDepth 100000 in
set_option maxHeartbeats 4000000 in
theorem xp_X3_twiceJoined {l : Launch} {D : va_G} {cA : Nat → ClassId} {B : List (Nat × Cell)} : xm_Met l D cA B xs_X 0 yX3_twiceJoined cX3_twiceJoined 3 (some .int) xt_X3_twiceJoined := by
  have hm : xm_monos [] := xm_m0
  refine xm_meth (own := RX3) (ks := xk_X3_twiceJoined) (C := xc_X3_twiceJoined) (Ts := []) (by decide +kernel) rfl xm_clsok xs_X_ok xf_X3_ok xi_X3_ok xj_X3_ok xm_lk0 xo_X3_twiceJoined ?_ ?_
  · rintro av g Q ⟨z, ⟨rfl, -⟩, -⟩
    exact Nat.le_of_ble_eq_true rfl
  · rintro av g Q ⟨⟨b, t, c⟩, ⟨rfl, h⟩, hQ⟩
    dsimp only at h hQ
    have hb := h.1
    have hm6 := h.2.1.2.1
    have loop : ∀ d k, k + d = tM t → xm_go xs_X xk_X3_twiceJoined [] xc_X3_twiceJoined Q (xm_drop 4 xc_X3_twiceJoined) [.ref b, .int (vBits (fun p => nI (vJoins t c p) = 2) k), .int (nI k)] [] g := by
      intro d
      induction d with
      | zero =>
        intro k hk
        have hk : k = tM t := by omega
        subst hk
        rcases hb with rfl | rfl
        all_goals
          refine xm_run_go hm 20 ⟨h.st, ⟨fun _ => hQ, fun q => ?_⟩⟩
          rw [h.m] at q
          exact absurd q (nI_nlt (Nat.le_refl _) (by omega))
      | succ d ih =>
        intro k hk
        have hkm : k < tM t := by omega
        have e := (h.2.2.2.2 k hkm).2.2.2
        have nx := ih (k + 1) (by omega)
        rw [nI_succ] at nx
        rcases hb with rfl | rfl
        all_goals
          refine xm_run_go hm 30 ⟨h.st, ⟨fun q => ?_, fun _ => ⟨k, ⟨by omega, rfl⟩, ⟨fun q => xm_cut hm ?_, fun q => xm_cut hm ?_⟩⟩⟩⟩
          · rw [h.m] at q
            exact absurd q (nI_ge hkm (by omega))
          · rw [e] at q
            rw [vBits_f q] at nx; exact nx
          · rw [e] at q
            rw [vBits_t q] at nx; exact nx
    exact xm_run_go hm 10 (xm_cut hm (loop (tM t) 0 (by omega)))
theorem vShine_pic {t : vSt} (ht : vTok t) (c : vSc) (p : Nat) : (vPic t c p = -2 ∧ vShine t c p = 0) ∨ ∃ s, s < tN t ∧ vPic t c p = nI s ∧ vShine t c p = cG c (p * 5 + s) := by
  rcases vPk_pic (fun s => cG c (p * 5 + s)) (tN t) (by have := ht.1; omega) with h | ⟨s, h1, h2, h3, -⟩
  · exact Or.inl h
  · exact Or.inr ⟨s, h1, h2, h3⟩
def xt_X3_shine : xT := xm_fn (Z := Nat × Nat × vSt × vSc) (fun (b, p, t, c) av g => av = [.ref b, .int (nI p)] ∧ p < tM t ∧ xIn b t c g) (fun (b, p, t, c) _ => some (.int (vShine t c p))) (fun _ g => g)
set_option maxRecDepth 100000 in
set_option maxHeartbeats 4000000 in
theorem xp_X3_shine {l : Launch} {D : va_G} {cA : Nat → ClassId} {B : List (Nat × Cell)} : xm_Met l D cA B xs_X 1 yX3_shine cX3_shine 3 (some .int) xt_X3_shine := by
  have hm : xm_monos [xt_X3_cell] := ⟨(by first | exact xm_fn_mono _ _ _ | exact xm_rl_mono _ _), trivial⟩
  refine xm_meth (own := RX3) (ks := xk_X3_shine) (C := xc_X3_shine) (Ts := [xt_X3_cell]) (by decide +kernel) rfl xm_clsok xs_X_ok xf_X3_ok xi_X3_ok xj_X3_ok (xm_lk xl_X3_91 xp_X3_cell (by decide) xm_lk0) xo_X3_shine ?_ ?_
  · rintro av g Q ⟨z, ⟨rfl, -⟩, -⟩
    exact Nat.le_of_ble_eq_true rfl
  · rintro av g Q ⟨⟨b, p, t, c⟩, ⟨rfl, hp, h⟩, hQ⟩
    dsimp only at h hQ
    have hb := h.1
    have hn5 := h.2.1.1
    have hm6 := h.2.1.2.1
    have hp6 : p < 6 := by omega
    have e := (h.2.2.2.2 p hp).2.1
    rcases vShine_pic h.2.1 c p with ⟨h1, h2⟩ | ⟨s, h0, h1, h2⟩
    · rw [h2] at hQ
      rcases hb with rfl | rfl
      all_goals
        refine xm_run_go hm 20 ⟨p, ⟨hp6, rfl⟩, ⟨fun q => ?_, fun _ => hQ⟩⟩
        rw [e, h1] at q
        exact absurd q (by decide)
    · have e3 := h.2.2.2.1.2.1 (p * 5 + s) (by omega)
      rw [h2, ← e3] at hQ
      have e4 : g.1 (b + 4) p = nI s := e.trans h1
      rcases hb with rfl | rfl
      all_goals
        refine xm_run_go hm 20 ⟨p, ⟨hp6, rfl⟩, ⟨fun _ => ⟨(nI p, nI s), ⟨?_, trivial⟩, p * 5 + s, ⟨by omega, xn_cell p s⟩, hQ⟩, fun q => ?_⟩⟩
        · rw [e4]
        · rw [e4] at q
          exact absurd q (nI_pos (by omega))
