-- the longest row
def mRl (nx : Nat → Nat) (m : Nat) (u L : Nat) : Nat := vLg nx m (vMs u m) L u
theorem vCf_in {nx : Nat → Nat} {L u p : Nat} (h : vCf nx L u p = true) : u.testBit p = false := by
  unfold vCf at h
  cases hb : u.testBit p with
  | false => rfl
  | true => rw [hb] at h; simp at h
theorem mRl_rec (nx : Nat → Nat) {m u L : Nat} : vMx (fun p => if vCf nx L u p then 1 + mRl nx m (u ||| 2 ^ p) p else 0) m = mRl nx m u L := by
  unfold mRl
  cases hf : vMs u m with
  | zero =>
    rw [vMx_zero (fun p hp => by
      have := vMs_zero hf p hp
      rw [vCf, this]; rfl), vLg]
  | succ f =>
    rw [vLg]
    refine vMx_cong fun p hp => ?_
    cases hc : vCf nx L u p with
    | false => rfl
    | true =>
      have e := vMs_in hp (vCf_in hc)
      have e2 : vMs (u ||| 2 ^ p) m = f := by omega
      rw [e2]
theorem vLg_le (nx : Nat → Nat) (m : Nat) : ∀ f L u, vLg nx m f L u ≤ f
  | 0, _, _ => Nat.le_refl _
  | f + 1, L, u => by
    rw [vLg]
    refine vMx_le fun k hk => ?_
    have := vLg_le nx m f k (u ||| 2 ^ k)
    split <;> omega
theorem vMs_le (u : Nat) : ∀ k, vMs u k ≤ k
  | 0 => Nat.le_refl _
  | k + 1 => by
    have := vMs_le u k
    unfold vMs
    split <;> omega
theorem mRl_le (nx : Nat → Nat) {m u L : Nat} (hm : m ≤ 6) : mRl nx m u L ≤ 6 := by
  unfold mRl
  have := vLg_le nx m (vMs u m) L u
  have := vMs_le u m
  omega
def xt_X9_fillsLong : xT := xm_rl (Z := Nat × vS) (fun (lv, σ) av g => av = [.ref 0] ∧ mTp lv σ g) (fun (lv, σ) g o g' => o = none ∧ mFq g g' ∧ mDq lv (tM (sT σ)) (vNx (sT σ) (sC σ)) g' ∧ mTb (mRl (vNx (sT σ) (sC σ)) (tM (sT σ))) 1 (tM (sT σ)) g')
set_option maxRecDepth 100000 in
set_option maxHeartbeats 400000 in
theorem xp_X9_fillsLong {l : Launch} {D : va_G} {cA : Nat → ClassId} {B : List (Nat × Cell)} : xm_Met l D cA B xs_M 4 yX9_fillsLong cX9_fillsLong 6 none xt_X9_fillsLong := by
  have hm : xm_monos [xt_X9_fillsJoins, xt_X9_all, xt_X9_isLeft, xt_X9_restWith] := ⟨(by first | exact xm_fn_mono _ _ _ | exact xm_rl_mono _ _), (by first | exact xm_fn_mono _ _ _ | exact xm_rl_mono _ _), (by first | exact xm_fn_mono _ _ _ | exact xm_rl_mono _ _), (by first | exact xm_fn_mono _ _ _ | exact xm_rl_mono _ _), trivial⟩
  refine xm_meth (own := RX9) (ks := xk_X9_fillsLong) (C := xc_X9_fillsLong) (Ts := [xt_X9_fillsJoins, xt_X9_all, xt_X9_isLeft, xt_X9_restWith]) (by decide +kernel) rfl xm_clsok xs_M_ok xf_X9_ok xi_X9_ok xj_X9_ok (xm_lk xl_X9_427 xp_X9_fillsJoins (by decide) (xm_lk xl_X9_430 xp_X9_all (by decide) (xm_lk xl_X9_433 xp_X9_isLeft (by decide) (xm_lk xl_X9_436 xp_X9_restWith (by decide) xm_lk0)))) xo_X9_fillsLong ?_ ?_
  · rintro av g Q ⟨z, ⟨rfl, -⟩, -⟩
    exact Nat.le_of_ble_eq_true rfl
  · rintro av g Q ⟨⟨lv, σ⟩, ⟨rfl, h⟩, hQ⟩
    dsimp only at h hQ
    have m6 := h.m6
    have hl := h.lv
    refine xm_run_go hm 20 ⟨(lv, σ), ⟨rfl, h⟩, ?_⟩
    rintro o g0 ⟨rfl, i0, f0, d0, -, -⟩
    generalize tM (sT σ) = m at hQ m6 d0
    generalize vNx (sT σ) (sC σ) = nx at hQ d0
    have p64 := p2_le m6
    have p0 := p2_pos m
    refine ⟨(lv, m, nx), ⟨rfl, d0⟩, ?_⟩
    have inner : ∀ u, 0 < u → u < 2 ^ m → ∀ L, L < m → ∀ g1, mF37 g0 g1 → mTb (mRl nx m) (u + 1) m g1 → (∀ x, x = nI (mRl nx m u L) → ∀ w4 w5, xm_go xs_M xk_X9_fillsLong [xt_X9_fillsJoins, xt_X9_all, xt_X9_isLeft, xt_X9_restWith] xc_X9_fillsLong Q (xm_drop 57 xc_X9_fillsLong) [.ref 0, .int (nI u), .int (nI L), .int x, w4, w5] [] g1) →
        ∀ d p, p + d = m → ∀ x, x = nI (vMx (fun p => if vCf nx L u p then 1 + mRl nx m (u ||| 2 ^ p) p else 0) p) → ∀ w5, xm_go xs_M xk_X9_fillsLong [xt_X9_fillsJoins, xt_X9_all, xt_X9_isLeft, xt_X9_restWith] xc_X9_fillsLong Q (xm_drop 20 xc_X9_fillsLong) [.ref 0, .int (nI u), .int (nI L), .int x, .int (nI p), w5] [] g1 := by
      intro u u0 hu L hL g1 f1 tb hout d
      have d1 := d0.f f1
      have u64 : u < 64 := by omega
      induction d with
      | zero =>
        intro p hp x hx w5
        have hp : p = m := by omega
        subst hp
        rw [mRl_rec] at hx
        refine xm_run_go hm 7 ⟨lv, ⟨hl, d1.l⟩, ⟨fun _ => hout x hx _ _, fun z => ?_⟩⟩
        rw [d1.m] at z
        exact absurd z (nI_nlt (Nat.le_refl _) (by omega))
      | succ d ih =>
        intro p hp x hx w5
        have pm : p < m := by omega
        have p6 : p < 6 := by omega
        have lp : L * 1 + p < 36 := by omega
        have bd : ∀ n, n ≤ 100 → vMx (fun p => if vCf nx L u p then 1 + mRl nx m (u ||| 2 ^ p) p else 0) n ≤ 7 := fun n hn => vMx_le (fun k hk => by
          have := mRl_le nx (m := m) (u := u ||| 2 ^ k) (L := k) m6
          split <;> omega)
        have nx1 := ih (p + 1) (by omega)
        rw [nI_succ] at nx1
        have step : ∀ v n, v = nI n → n = (if vCf nx L u p then 1 + mRl nx m (u ||| 2 ^ p) p else 0) → (v ≤ x → x = nI (vMx (fun p => if vCf nx L u p then 1 + mRl nx m (u ||| 2 ^ p) p else 0) (p + 1))) ∧ (x < v → v = nI (vMx (fun p => if vCf nx L u p then 1 + mRl nx m (u ||| 2 ^ p) p else 0) (p + 1))) := fun v n hv hn => by
          have b1 := bd p (by omega)
          have b2 := bd (p + 1) (by omega)
          rw [vMx, ← hn] at b2 ⊢
          constructor
          · intro z
            rw [hv, hx] at z
            have n7 : n < 2 ^ 31 := by
              have := mRl_le nx (m := m) (u := u ||| 2 ^ p) (L := p) m6
              rw [hn]
              split <;> omega
            have := (nI_leI n7 (by omega)).mp z
            rw [if_neg (by omega)]; exact hx
          · intro z
            rw [hv, hx] at z
            have n7 : n < 2 ^ 31 := by
              have := mRl_le nx (m := m) (u := u ||| 2 ^ p) (L := p) m6
              rw [hn]
              split <;> omega
            have := (nI_ltI (by omega) n7).mp z
            rw [if_pos this]; exact hv
        have j1 := vJn_le nx L p
        have jv := d1.j hL p6
        have ix : 6 * nI L + nI p = nI (6 * L + p) := xn_6 L p
        have L7 : decide (L = 7) = false := decide_eq_false (by omega)
        have cf0 : vJn nx L p = 0 → vCf nx L u p = false := fun z => by
          unfold vJn at z
          unfold vCf
          rw [decide_eq_true (show L ≠ 7 by omega), Bool.true_and] at z
          rw [L7, Bool.false_or]
          cases hh : (nx L).testBit p with
          | false => rw [Bool.and_false]
          | true => rw [hh] at z; simp at z
        have cf1 : vJn nx L p = 1 → u.testBit p = false → vCf nx L u p = true := fun z y => by
          unfold vJn at z
          unfold vCf
          rw [decide_eq_true (show L ≠ 7 by omega), Bool.true_and] at z
          rw [L7, Bool.false_or, y]
          cases hh : (nx L).testBit p with
          | false => rw [hh] at z; simp at z
          | true => rfl
        cases hb : u.testBit p with
        | true =>
          have nl : vLeft m u p = false := by rw [vLeft, hb]; simp
          obtain ⟨s1, s2⟩ := step 0 0 rfl (by rw [vCf, hb]; rfl)
          refine xm_run_go hm 60 ⟨lv, ⟨hl, d1.l⟩, ⟨fun z => ?_, fun _ => ⟨(p, u, lv, m, nx), ⟨rfl, p6, u64, d1⟩, ⟨fun _ => ⟨fun z => xm_cut hm (nx1 _ (s1 z) _), fun z => xm_cut hm (nx1 _ (s2 z) _)⟩, fun z => ?_⟩⟩⟩⟩
          · rw [d1.m] at z
            exact absurd z (nI_ge pm (by omega))
          · rw [nl] at z; exact absurd rfl z
        | false =>
          have yl : vLeft m u p = true := by rw [vLeft, hb, decide_eq_true pm]; rfl
          have tv : g1.1 37 (6 * (u ||| 2 ^ p) + p) = nI (mRl nx m (u ||| 2 ^ p) p) := tb _ (ub_or_gt hb) (ub_or_lt2 hu pm) p pm
          refine xm_run_go hm 80 ⟨lv, ⟨hl, d1.l⟩, ⟨fun z => ?_, fun _ => ⟨(p, u, lv, m, nx), ⟨rfl, p6, u64, d1⟩, ⟨fun z => ?_, fun _ => ⟨6 * L + p, ⟨by omega, ix⟩, ⟨fun y => ?_, fun y => ⟨(u, p), ⟨rfl, p6, u64⟩, ?_⟩⟩⟩⟩⟩⟩⟩
          · rw [d1.m] at z
            exact absurd z (nI_ge pm (by omega))
          · rw [yl] at z; exact absurd z (by decide)
          · have jz : vJn nx L p = 0 := by
              rw [jv] at y
              exact (nI_eq (b := 0) (by omega) (by omega)).mp y
            obtain ⟨s1, s2⟩ := step 0 0 rfl (by rw [cf0 jz]; rfl)
            exact ⟨fun z => xm_cut hm (nx1 _ (s1 z) _), fun z => xm_cut hm (nx1 _ (s2 z) _)⟩
          · have jz : vJn nx L p = 1 := by
              have : vJn nx L p ≠ 0 := fun e => y (by rw [jv, e]; rfl)
              omega
            obtain ⟨s1, s2⟩ := step (1 + g1.1 37 (6 * (u ||| 2 ^ p) + p)) (1 + mRl nx m (u ||| 2 ^ p) p) (by rw [tv, ← nI_add]; rfl) (by rw [cf1 jz hb]; rfl)
            exact ⟨fun z => xm_cut hm (nx1 _ (s1 z) _), fun z => xm_cut hm (nx1 _ (s2 z) _)⟩
    have middle : ∀ u, 0 < u → u < 2 ^ m → (∀ g1, mF37 g0 g1 → mTb (mRl nx m) u m g1 → ∀ w2 w3 w4 w5, xm_go xs_M xk_X9_fillsLong [xt_X9_fillsJoins, xt_X9_all, xt_X9_isLeft, xt_X9_restWith] xc_X9_fillsLong Q (xm_drop 5 xc_X9_fillsLong) [.ref 0, .int (nI u + -1), w2, w3, w4, w5] [] g1) →
        ∀ d L, L + d = m → ∀ g1, mF37 g0 g1 → mTb (mRl nx m) (u + 1) m g1 → (∀ L', L' < L → g1.1 37 (6 * u + L') = nI (mRl nx m u L')) → ∀ w3 w4 w5, xm_go xs_M xk_X9_fillsLong [xt_X9_fillsJoins, xt_X9_all, xt_X9_isLeft, xt_X9_restWith] xc_X9_fillsLong Q (xm_drop 9 xc_X9_fillsLong) [.ref 0, .int (nI u), .int (nI L), w3, w4, w5] [] g1 := by
      intro u u0 hu hout d
      induction d with
      | zero =>
        intro L hL g1 f1 tb dn w3 w4 w5
        have hL : L = m := by omega
        subst hL
        have d1 := d0.f f1
        refine xm_run_go hm 30 ⟨lv, ⟨hl, d1.l⟩, ⟨fun _ => xm_cut hm (hout g1 f1 (fun v hv1 hv2 L' hL' => ?_) _ _ _ _), fun z => ?_⟩⟩
        · by_cases z : v = u
          · rw [z]; exact dn L' hL'
          · exact tb v (by omega) hv2 L' hL'
        · rw [d1.m] at z
          exact absurd z (nI_nlt (Nat.le_refl _) (by omega))
      | succ d ih =>
        intro L hL g1 f1 tb dn w3 w4 w5
        have d1 := d0.f f1
        have Lm : L < m := by omega
        have nx1 := ih (L + 1) (by omega)
        rw [nI_succ] at nx1
        have ix : 6 * nI u + nI L = nI (6 * u + L) := xn_6 u L
        refine xm_run_go hm 30 ⟨lv, ⟨hl, d1.l⟩, ⟨fun z => ?_, fun _ => xm_cut hm (inner u u0 hu L Lm g1 f1 tb (fun x hx w4 w5 => ?_) m 0 (by omega) _ rfl _)⟩⟩
        · rw [d1.m] at z
          exact absurd z (nI_ge Lm (by omega))
        · refine xm_run_go hm 20 ⟨6 * u + L, ⟨by omega, ix⟩, xm_cut hm (nx1 _ (f1.p _ _) (fun v hv1 hv2 L' hL' => ?_) (fun L' hL' => ?_) _ _ _)⟩
          · rw [xg_in, if_neg (by omega)]; exact tb v hv1 hv2 L' hL'
          · rw [xg_in]
            by_cases z : L' = L
            · rw [if_pos (by omega), z]; exact hx
            · rw [if_neg (by omega)]; exact dn L' (by omega)
    have outer : ∀ u, u < 2 ^ m → ∀ g1, mF37 g0 g1 → mTb (mRl nx m) (u + 1) m g1 → ∀ x, x = nI u → ∀ w2 w3 w4 w5, xm_go xs_M xk_X9_fillsLong [xt_X9_fillsJoins, xt_X9_all, xt_X9_isLeft, xt_X9_restWith] xc_X9_fillsLong Q (xm_drop 5 xc_X9_fillsLong) [.ref 0, .int x, w2, w3, w4, w5] [] g1 := by
      intro u
      induction u with
      | zero =>
        intro hu g1 f1 tb x hx w2 w3 w4 w5
        refine xm_run_go hm 20 ⟨fun _ => hQ _ _ ⟨rfl, f0.tr f1.q, d0.f f1, tb⟩, fun z => ?_⟩
        rw [hx] at z; exact absurd z (by decide)
      | succ u ih =>
        intro hu g1 f1 tb x hx w2 w3 w4 w5
        subst hx
        refine xm_run_go hm 20 ⟨fun z => absurd z (nI_nle (by omega) (by omega)), fun _ => xm_cut hm (middle (u + 1) (by omega) hu (fun g2 f2 tb2 w2 w3 w4 w5 => ?_) m 0 (by omega) g1 f1 tb (fun L' hL' => absurd hL' (by omega)) _ _ _)⟩
        exact ih (by omega) g2 f2 tb2 _ (by rw [sb_m1 (by omega)]; rfl) _ _ _ _
    exact xm_cut hm (outer (2 ^ m - 1) (by omega) g0 mF37.rf (fun v hv1 hv2 => absurd hv1 (by omega)) _ rfl _ _ _ _)
