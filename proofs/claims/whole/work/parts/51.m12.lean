-- tables over all sets
def mF37 (g g' : xG) : Prop := (∀ k, k ≠ 37 → g'.1 k = g.1 k) ∧ g'.2 = g.2
theorem mF37.rf {g : xG} : mF37 g g := ⟨fun _ _ => rfl, rfl⟩
theorem mF37.tr {g g1 g2 : xG} (h : mF37 g g1) (h2 : mF37 g1 g2) : mF37 g g2 := ⟨fun k a => (h2.1 k a).trans (h.1 k a), h2.2.trans h.2⟩
theorem mF37.p {g g1 : xG} (h : mF37 g g1) (j : Nat) (v : Int32) : mF37 g (xm_sI g1 37 j v) := ⟨fun a h1 => (xg_off g1 j v h1).trans (h.1 a h1), h.2⟩
theorem mF37.q {g g' : xG} (h : mF37 g g') : mFq g g' := ⟨fun k _ _ _ _ _ _ q _ => h.1 k q, fun j _ _ _ => by rw [h.1 0 (by decide)], h.2⟩
theorem mDq.f {lv m : Nat} {nx : Nat → Nat} {g g' : xG} (h : mDq lv m nx g) (f : mF37 g g') : mDq lv m nx g' := ⟨h.1, h.2.1, by rw [f.1 0 (by decide)]; exact h.2.2.1, by rw [f.1 14 (by decide)]; exact h.2.2.2.1, h.2.2.2.2.1, fun p q hp hq => by rw [f.1 36 (by decide)]; exact h.2.2.2.2.2 p q hp hq⟩
theorem mIn.f {lv : Nat} {t : vSt} {c : vSc} {g g' : xG} (h : mIn lv t c g) (f : mF37 g g') : mIn lv t c g' := ⟨h.1, h.2.1, h.2.2.1.q f.q, h.2.2.2.fr (f.1 33 (by decide))⟩
theorem mDq.j {lv m : Nat} {nx : Nat → Nat} {g : xG} (h : mDq lv m nx g) {L p : Nat} (hL : L < m) (hp : p < 6) : g.1 36 (6 * L + p) = nI (vJn nx L p) := by
  have m6 := h.2.1
  rw [h.2.2.2.2.2 L p (by omega) hp, vJn, decide_eq_true hL, decide_eq_true (show L ≠ 7 by omega)]
  cases (nx L).testBit p <;> rfl
def mTb (R : Nat → Nat → Nat) (j m : Nat) (g : xG) : Prop := ∀ u, j ≤ u → u < 2 ^ m → ∀ L, L < m → g.1 37 (6 * u + L) = nI (R u L)
theorem vMs_zero {u : Nat} : ∀ {m : Nat}, vMs u m = 0 → ∀ p, p < m → u.testBit p = true
  | 0, _, p, hp => absurd hp (by omega)
  | m + 1, h, p, hp => by
    unfold vMs at h
    by_cases z : p = m
    · subst z
      cases hb : u.testBit p with
      | true => rfl
      | false => rw [hb] at h; simp at h
    · exact vMs_zero (m := m) (by omega) p (by omega)
theorem vMx_zero {w : Nat → Nat} {n : Nat} (h : ∀ k, k < n → w k = 0) : vMx w n = 0 := by
  have := vMx_le (w := w) (b := 0) (n := n) (fun k hk => by rw [h k hk]; exact Nat.le_refl _)
  omega
def mRb (nx : Nat → Nat) (m : Nat) (u L : Nat) : Nat := vB1 nx m (vMs u m) L u - 1
theorem mRb_rec (nx : Nat → Nat) {m u L : Nat} : vMx (fun p => if u.testBit p then 0 else mRb nx m (u ||| 2 ^ p) p + vJn nx L p) m = mRb nx m u L := by
  unfold mRb
  cases hf : vMs u m with
  | zero =>
    rw [vMx_zero (fun p hp => by rw [vMs_zero hf p hp]; rfl), vB1]
  | succ f =>
    rw [vB1, ← vMx_pred]
    refine vMx_cong fun p hp => ?_
    cases hb : u.testBit p with
    | true => rfl
    | false =>
      have e := vMs_in hp hb
      have e2 : vMs (u ||| 2 ^ p) m = f := by omega
      have := vB1_pos nx m f p (u ||| 2 ^ p) e2
      simp only [Bool.false_eq_true, if_false]
      rw [e2]; omega
theorem mRb_le (nx : Nat → Nat) {m u L : Nat} (hm : m ≤ 6) : mRb nx m u L ≤ 6 := by
  unfold mRb
  have := vB1_le nx m (vMs u m) L u
  have : ∀ k, vMs u k ≤ k := fun k => by
    induction k with
    | zero => exact Nat.le_refl _
    | succ k ih => unfold vMs; split <;> omega
  have := this m
  omega
def xt_X9_fillsBest : xT := xm_rl (Z := Nat × vS) (fun (lv, σ) av g => av = [.ref 0] ∧ mTp lv σ g) (fun (lv, σ) g o g' => o = none ∧ mFq g g' ∧ mDq lv (tM (sT σ)) (vNx (sT σ) (sC σ)) g' ∧ mTb (mRb (vNx (sT σ) (sC σ)) (tM (sT σ))) 1 (tM (sT σ)) g')
set_option maxRecDepth 100000 in
set_option maxHeartbeats 400000 in
theorem xp_X9_fillsBest {l : Launch} {D : va_G} {cA : Nat → ClassId} {B : List (Nat × Cell)} : xm_Met l D cA B xs_M 4 yX9_fillsBest cX9_fillsBest 6 none xt_X9_fillsBest := by
  have hm : xm_monos [xt_X9_fillsJoins, xt_X9_all, xt_X9_isLeft, xt_X9_restWith] := ⟨(by first | exact xm_fn_mono _ _ _ | exact xm_rl_mono _ _), (by first | exact xm_fn_mono _ _ _ | exact xm_rl_mono _ _), (by first | exact xm_fn_mono _ _ _ | exact xm_rl_mono _ _), (by first | exact xm_fn_mono _ _ _ | exact xm_rl_mono _ _), trivial⟩
  refine xm_meth (own := RX9) (ks := xk_X9_fillsBest) (C := xc_X9_fillsBest) (Ts := [xt_X9_fillsJoins, xt_X9_all, xt_X9_isLeft, xt_X9_restWith]) (by decide +kernel) rfl xm_clsok xs_M_ok xf_X9_ok xi_X9_ok xj_X9_ok (xm_lk xl_X9_427 xp_X9_fillsJoins (by decide) (xm_lk xl_X9_430 xp_X9_all (by decide) (xm_lk xl_X9_433 xp_X9_isLeft (by decide) (xm_lk xl_X9_436 xp_X9_restWith (by decide) xm_lk0)))) xo_X9_fillsBest ?_ ?_
  · rintro av g Q ⟨z, ⟨rfl, -⟩, -⟩
    exact Nat.le_of_ble_eq_true rfl
  · rintro av g Q ⟨⟨lv, σ⟩, ⟨rfl, h⟩, hQ⟩
    dsimp only at h hQ
    have m6 := h.m6
    have hl := h.lv
    refine xm_run_go hm 20 ⟨(lv, σ), ⟨rfl, h⟩, ?_⟩
    rintro o g0 ⟨rfl, i0, f0, d0, -, -⟩
    generalize tM (sT σ) = m at hQ m6 d0
    generalize vNx (sT σ) (sC σ) = nx at hQ d0
    have p64 := p2_le m6
    have p0 := p2_pos m
    refine ⟨(lv, m, nx), ⟨rfl, d0⟩, ?_⟩
    have inner : ∀ u, 0 < u → u < 2 ^ m → ∀ L, L < m → ∀ g1, mF37 g0 g1 → mTb (mRb nx m) (u + 1) m g1 → (∀ x, x = nI (mRb nx m u L) → ∀ w4 w5, xm_go xs_M xk_X9_fillsBest [xt_X9_fillsJoins, xt_X9_all, xt_X9_isLeft, xt_X9_restWith] xc_X9_fillsBest Q (xm_drop 59 xc_X9_fillsBest) [.ref 0, .int (nI u), .int (nI L), .int x, w4, w5] [] g1) →
        ∀ d p, p + d = m → ∀ x, x = nI (vMx (fun p => if u.testBit p then 0 else mRb nx m (u ||| 2 ^ p) p + vJn nx L p) p) → ∀ w5, xm_go xs_M xk_X9_fillsBest [xt_X9_fillsJoins, xt_X9_all, xt_X9_isLeft, xt_X9_restWith] xc_X9_fillsBest Q (xm_drop 20 xc_X9_fillsBest) [.ref 0, .int (nI u), .int (nI L), .int x, .int (nI p), w5] [] g1 := by
      intro u u0 hu L hL g1 f1 tb hout d
      have d1 := d0.f f1
      have u64 : u < 64 := by omega
      induction d with
      | zero =>
        intro p hp x hx w5
        have hp : p = m := by omega
        subst hp
        rw [mRb_rec] at hx
        refine xm_run_go hm 7 ⟨lv, ⟨hl, d1.l⟩, ⟨fun _ => hout x hx _ _, fun z => ?_⟩⟩
        rw [d1.m] at z
        exact absurd z (nI_nlt (Nat.le_refl _) (by omega))
      | succ d ih =>
        intro p hp x hx w5
        have pm : p < m := by omega
        have p6 : p < 6 := by omega
        have lp : L * 1 + p < 36 := by omega
        have bd : ∀ n, n ≤ 100 → vMx (fun p => if u.testBit p then 0 else mRb nx m (u ||| 2 ^ p) p + vJn nx L p) n ≤ 7 := fun n hn => vMx_le (fun k hk => by
          have := mRb_le nx (m := m) (u := u ||| 2 ^ k) (L := k) m6
          have := vJn_le nx L k
          split <;> omega)
        have nx1 := ih (p + 1) (by omega)
        rw [nI_succ] at nx1
        have step : ∀ v n, v = nI n → n = (if u.testBit p then 0 else mRb nx m (u ||| 2 ^ p) p + vJn nx L p) → (v ≤ x → x = nI (vMx (fun p => if u.testBit p then 0 else mRb nx m (u ||| 2 ^ p) p + vJn nx L p) (p + 1))) ∧ (x < v → v = nI (vMx (fun p => if u.testBit p then 0 else mRb nx m (u ||| 2 ^ p) p + vJn nx L p) (p + 1))) := fun v n hv hn => by
          have b1 := bd p (by omega)
          have b2 := bd (p + 1) (by omega)
          rw [vMx, ← hn] at b2 ⊢
          constructor
          · intro z
            rw [hv, hx] at z
            have n7 : n < 2 ^ 31 := by
              have := mRb_le nx (m := m) (u := u ||| 2 ^ p) (L := p) m6
              have := vJn_le nx L p
              rw [hn]
              split <;> omega
            have := (nI_leI n7 (by omega)).mp z
            rw [if_neg (by omega)]; exact hx
          · intro z
            rw [hv, hx] at z
            have n7 : n < 2 ^ 31 := by
              have := mRb_le nx (m := m) (u := u ||| 2 ^ p) (L := p) m6
              have := vJn_le nx L p
              rw [hn]
              split <;> omega
            have := (nI_ltI (by omega) n7).mp z
            rw [if_pos this]; exact hv
        cases hb : u.testBit p with
        | true =>
          have nl : vLeft m u p = false := by rw [vLeft, hb]; simp
          obtain ⟨s1, s2⟩ := step 0 0 rfl (by rw [hb]; rfl)
          refine xm_run_go hm 60 ⟨lv, ⟨hl, d1.l⟩, ⟨fun z => ?_, fun _ => ⟨(p, u, lv, m, nx), ⟨rfl, p6, u64, d1⟩, ⟨fun _ => ⟨fun z => xm_cut hm (nx1 _ (s1 z) _), fun z => xm_cut hm (nx1 _ (s2 z) _)⟩, fun z => ?_⟩⟩⟩⟩
          · rw [d1.m] at z
            exact absurd z (nI_ge pm (by omega))
          · rw [nl] at z; exact absurd rfl z
        | false =>
          have yl : vLeft m u p = true := by rw [vLeft, hb, decide_eq_true pm]; rfl
          have tv : g1.1 37 (6 * (u ||| 2 ^ p) + p) = nI (mRb nx m (u ||| 2 ^ p) p) := tb _ (ub_or_gt hb) (ub_or_lt2 hu pm) p pm
          have jv := d1.j hL p6
          have j1 := vJn_le nx L p
          have ix : 6 * nI L + nI p = nI (6 * L + p) := xn_6 L p
          refine xm_run_go hm 80 ⟨lv, ⟨hl, d1.l⟩, ⟨fun z => ?_, fun _ => ⟨(p, u, lv, m, nx), ⟨rfl, p6, u64, d1⟩, ⟨fun z => ?_, fun _ => ⟨(u, p), ⟨rfl, p6, u64⟩, 6 * L + p, ⟨by omega, ix⟩, ⟨fun y => ?_, fun y => ?_⟩⟩⟩⟩⟩⟩
          · rw [d1.m] at z
            exact absurd z (nI_ge pm (by omega))
          · rw [yl] at z; exact absurd z (by decide)
          · have jz : vJn nx L p = 0 := by
              rw [jv] at y
              exact (nI_eq (b := 0) (by omega) (by omega)).mp y
            obtain ⟨s1, s2⟩ := step (g1.1 37 (6 * (u ||| 2 ^ p) + p) + 0) (mRb nx m (u ||| 2 ^ p) p + 0) (by rw [tv, Int32.add_zero]; rfl) (by rw [hb, jz]; rfl)
            exact ⟨fun z => xm_cut hm (nx1 _ (s1 z) _), fun z => xm_cut hm (nx1 _ (s2 z) _)⟩
          · have jz : vJn nx L p = 1 := by
              have : vJn nx L p ≠ 0 := fun e => y (by rw [jv, e]; rfl)
              omega
            obtain ⟨s1, s2⟩ := step (g1.1 37 (6 * (u ||| 2 ^ p) + p) + 1) (mRb nx m (u ||| 2 ^ p) p + 1) (by rw [tv, nI_1]) (by rw [hb, jz]; rfl)
            exact ⟨fun z => xm_cut hm (nx1 _ (s1 z) _), fun z => xm_cut hm (nx1 _ (s2 z) _)⟩
    have middle : ∀ u, 0 < u → u < 2 ^ m → (∀ g1, mF37 g0 g1 → mTb (mRb nx m) u m g1 → ∀ w2 w3 w4 w5, xm_go xs_M xk_X9_fillsBest [xt_X9_fillsJoins, xt_X9_all, xt_X9_isLeft, xt_X9_restWith] xc_X9_fillsBest Q (xm_drop 5 xc_X9_fillsBest) [.ref 0, .int (nI u + -1), w2, w3, w4, w5] [] g1) →
        ∀ d L, L + d = m → ∀ g1, mF37 g0 g1 → mTb (mRb nx m) (u + 1) m g1 → (∀ L', L' < L → g1.1 37 (6 * u + L') = nI (mRb nx m u L')) → ∀ w3 w4 w5, xm_go xs_M xk_X9_fillsBest [xt_X9_fillsJoins, xt_X9_all, xt_X9_isLeft, xt_X9_restWith] xc_X9_fillsBest Q (xm_drop 9 xc_X9_fillsBest) [.ref 0, .int (nI u), .int (nI L), w3, w4, w5] [] g1 := by
      intro u u0 hu hout d
      induction d with
      | zero =>
        intro L hL g1 f1 tb dn w3 w4 w5
        have hL : L = m := by omega
        subst hL
        have d1 := d0.f f1
        refine xm_run_go hm 30 ⟨lv, ⟨hl, d1.l⟩, ⟨fun _ => xm_cut hm (hout g1 f1 (fun v hv1 hv2 L' hL' => ?_) _ _ _ _), fun z => ?_⟩⟩
        · by_cases z : v = u
          · rw [z]; exact dn L' hL'
          · exact tb v (by omega) hv2 L' hL'
        · rw [d1.m] at z
          exact absurd z (nI_nlt (Nat.le_refl _) (by omega))
      | succ d ih =>
        intro L hL g1 f1 tb dn w3 w4 w5
        have d1 := d0.f f1
        have Lm : L < m := by omega
        have nx1 := ih (L + 1) (by omega)
        rw [nI_succ] at nx1
        have ix : 6 * nI u + nI L = nI (6 * u + L) := xn_6 u L
        refine xm_run_go hm 30 ⟨lv, ⟨hl, d1.l⟩, ⟨fun z => ?_, fun _ => xm_cut hm (inner u u0 hu L Lm g1 f1 tb (fun x hx w4 w5 => ?_) m 0 (by omega) _ rfl _)⟩⟩
        · rw [d1.m] at z
          exact absurd z (nI_ge Lm (by omega))
        · refine xm_run_go hm 20 ⟨6 * u + L, ⟨by omega, ix⟩, xm_cut hm (nx1 _ (f1.p _ _) (fun v hv1 hv2 L' hL' => ?_) (fun L' hL' => ?_) _ _ _)⟩
          · rw [xg_in, if_neg (by omega)]; exact tb v hv1 hv2 L' hL'
          · rw [xg_in]
            by_cases z : L' = L
            · rw [if_pos (by omega), z]; exact hx
            · rw [if_neg (by omega)]; exact dn L' (by omega)
    have outer : ∀ u, u < 2 ^ m → ∀ g1, mF37 g0 g1 → mTb (mRb nx m) (u + 1) m g1 → ∀ x, x = nI u → ∀ w2 w3 w4 w5, xm_go xs_M xk_X9_fillsBest [xt_X9_fillsJoins, xt_X9_all, xt_X9_isLeft, xt_X9_restWith] xc_X9_fillsBest Q (xm_drop 5 xc_X9_fillsBest) [.ref 0, .int x, w2, w3, w4, w5] [] g1 := by
      intro u
      induction u with
      | zero =>
        intro hu g1 f1 tb x hx w2 w3 w4 w5
        refine xm_run_go hm 20 ⟨fun _ => hQ _ _ ⟨rfl, f0.tr f1.q, d0.f f1, tb⟩, fun z => ?_⟩
        rw [hx] at z; exact absurd z (by decide)
      | succ u ih =>
        intro hu g1 f1 tb x hx w2 w3 w4 w5
        subst hx
        refine xm_run_go hm 20 ⟨fun z => absurd z (nI_nle (by omega) (by omega)), fun _ => xm_cut hm (middle (u + 1) (by omega) hu (fun g2 f2 tb2 w2 w3 w4 w5 => ?_) m 0 (by omega) g1 f1 tb (fun L' hL' => absurd hL' (by omega)) _ _ _)⟩
        exact ih (by omega) g2 f2 tb2 _ (by rw [sb_m1 (by omega)]; rfl) _ _ _ _
    exact xm_cut hm (outer (2 ^ m - 1) (by omega) g0 mF37.rf (fun v hv1 hv2 => absurd hv1 (by omega)) _ rfl _ _ _ _)
