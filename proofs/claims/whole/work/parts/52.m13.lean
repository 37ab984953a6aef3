-- the best row
theorem mRb_0 (nx : Nat → Nat) (m : Nat) : vMx (fun p => mRb nx m (0 ||| 2 ^ p) p) m = vB1 nx m m 7 0 - 1 := by
  have e := mRb_rec nx (m := m) (u := 0) (L := 7)
  have e2 : mRb nx m 0 7 = vB1 nx m m 7 0 - 1 := by unfold mRb; rw [vMs_0]
  rw [← e2, ← e]
  refine vMx_cong fun p hp => ?_
  rw [vJn_7, Nat.add_zero, Nat.zero_testBit]
  rfl
/-- the last one put: 7 where there is none -/
def mLa (L m : Nat) (x : Int32) : Prop := (L = 7 ∧ x = -1) ∨ (L < m ∧ x = nI L)
def xt_X9_bestRow : xT := xm_rl (Z := vS × Int32) (fun (σ, i) av g => av = [.ref 0, .int i] ∧ mTop σ g) (fun (σ, i) g o g' => o = some (.int (aBestRow σ i)) ∧ mTop σ g')
set_option maxRecDepth 100000 in
set_option maxHeartbeats 400000 in
theorem xp_X9_bestRow {l : Launch} {D : va_G} {cA : Nat → ClassId} {B : List (Nat × Cell)} : xm_Met l D cA B xs_M 5 yX9_bestRow cX9_bestRow 7 (some .int) xt_X9_bestRow := by
  have hm : xm_monos [xt_X9_isPerson, xt_X9_fillsBest, xt_X9_restWith, xt_X9_isLeft] := ⟨(by first | exact xm_fn_mono _ _ _ | exact xm_rl_mono _ _), (by first | exact xm_fn_mono _ _ _ | exact xm_rl_mono _ _), (by first | exact xm_fn_mono _ _ _ | exact xm_rl_mono _ _), (by first | exact xm_fn_mono _ _ _ | exact xm_rl_mono _ _), trivial⟩
  refine xm_meth (own := RX9) (ks := xk_X9_bestRow) (C := xc_X9_bestRow) (Ts := [xt_X9_isPerson, xt_X9_fillsBest, xt_X9_restWith, xt_X9_isLeft]) (by decide +kernel) rfl xm_clsok xs_M_ok xf_X9_ok xi_X9_ok xj_X9_ok (xm_lk xl_X9_412 xp_X9_isPerson (by decide) (xm_lk xl_X9_439 xp_X9_fillsBest (by decide) (xm_lk xl_X9_436 xp_X9_restWith (by decide) (xm_lk xl_X9_433 xp_X9_isLeft (by decide) xm_lk0)))) xo_X9_bestRow ?_ ?_
  · rintro av g Q ⟨z, ⟨rfl, -⟩, -⟩
    exact Nat.le_of_ble_eq_true rfl
  · rintro av g Q ⟨⟨σ, i⟩, ⟨rfl, ⟨lv, h⟩⟩, hQ⟩
    dsimp only at h hQ
    have m6 := h.m6
    have hl := h.lv
    have hQ0 := hQ
    unfold aBestRow at hQ
    have main : ∀ n, i = -1 ∨ (i = nI n ∧ n < tM (sT σ)) → ∀ g0, mFq g g0 → mDq lv (tM (sT σ)) (vNx (sT σ) (sC σ)) g0 → mTb (mRb (vNx (sT σ) (sC σ)) (tM (sT σ))) 1 (tM (sT σ)) g0 → ∀ w4 w5 w6, xm_go xs_M xk_X9_bestRow [xt_X9_isPerson, xt_X9_fillsBest, xt_X9_restWith, xt_X9_isLeft] xc_X9_bestRow Q (xm_drop 15 xc_X9_bestRow) [.ref 0, .int i, .int 0, .int 0, w4, w5, w6] [] g0 := by
      intro n hi g0 f0 d0 tb
      have hQi : ∀ x, (i = -1 → x = nI (vB1 (vNx (sT σ) (sC σ)) (tM (sT σ)) (tM (sT σ)) 7 0) - 1) → (i = nI n → n < tM (sT σ) → x = nI ((vBp (vNx (sT σ) (sC σ)) (tM (sT σ)) (tM (sT σ)) 7 0).getD n 0)) → Q (some (.int x)) g0 := fun x h1 h2 => hQ _ _ ⟨by
        rcases hi with hi | ⟨hi, hn⟩
        · rw [if_pos hi, h1 hi]
        · have : ¬ i = -1 := by rw [hi]; intro z; exact absurd (show nI n < 0 by rw [z]; decide) (nI_pos (by omega))
          rw [if_neg this, hi, vDo_y hn (by omega), h2 hi hn], lv, h.q f0⟩
      generalize tM (sT σ) = m at *
      generalize vNx (sT σ) (sC σ) = nx at *
      have p64 := p2_le m6
      have p0 := p2_pos m
      have b1 := vB1_pos nx m m 7 0 (vMs_0 m)
      have b2 := vB1_le nx m m 7 0
      have inner : ∀ u L f x4, u < 2 ^ m → vMs u m = f + 1 → mLa L m x4 → ∀ k, (∀ x2, x2 = nI (vB1 nx m (f + 1) L u - 1) → xm_go xs_M xk_X9_bestRow [xt_X9_isPerson, xt_X9_fillsBest, xt_X9_restWith, xt_X9_isLeft] xc_X9_bestRow Q (xm_drop 79 xc_X9_bestRow) [.ref 0, .int i, .int x2, .int (nI u), .int x4, .int (nI k), .int (nI (vAr (fun p => if u.testBit p then 0 else vJn nx L p + vB1 nx m f p (u ||| 2 ^ p)) m))] [] g0) →
          ∀ d p, p + d = vAr (fun p => if u.testBit p then 0 else vJn nx L p + vB1 nx m f p (u ||| 2 ^ p)) m → ∀ x2, x2 = nI (vB1 nx m (f + 1) L u - 1) → xm_go xs_M xk_X9_bestRow [xt_X9_isPerson, xt_X9_fillsBest, xt_X9_restWith, xt_X9_isLeft] xc_X9_bestRow Q (xm_drop 51 xc_X9_bestRow) [.ref 0, .int i, .int x2, .int (nI u), .int x4, .int (nI k), .int (nI p)] [] g0 := by
        intro u L f x4 hu hf hL k hout d
        have u64 : u < 64 := by omega
        have pos : 1 ≤ vB1 nx m (f + 1) L u := vB1_pos nx m (f + 1) L u hf
        have eB : vB1 nx m (f + 1) L u = vMx (fun p => if u.testBit p then 0 else vJn nx L p + vB1 nx m f p (u ||| 2 ^ p)) m := rfl
        obtain ⟨am, aw⟩ := vMx_ar (w := fun p => if u.testBit p then 0 else vJn nx L p + vB1 nx m f p (u ||| 2 ^ p)) (n := m) (by rw [← eB]; omega)
        have bB := vB1_le nx m (f + 1) L u
        have fm : f + 1 ≤ m := by
          have : ∀ k, vMs u k ≤ k := fun k => by
            induction k with
            | zero => exact Nat.le_refl _
            | succ k ih => unfold vMs; split <;> omega
          have := this m
          omega
        have low : ∀ p, p < vAr (fun p => if u.testBit p then 0 else vJn nx L p + vB1 nx m f p (u ||| 2 ^ p)) m → (if u.testBit p then 0 else vJn nx L p + vB1 nx m f p (u ||| 2 ^ p)) < vB1 nx m (f + 1) L u := fun p hp => by
          rw [eB]; exact vMx_ar_lt (w := fun p => if u.testBit p then 0 else vJn nx L p + vB1 nx m f p (u ||| 2 ^ p)) hp (by omega)
        have top : (if u.testBit (vAr (fun p => if u.testBit p then 0 else vJn nx L p + vB1 nx m f p (u ||| 2 ^ p)) m) then 0 else vJn nx L (vAr (fun p => if u.testBit p then 0 else vJn nx L p + vB1 nx m f p (u ||| 2 ^ p)) m) + vB1 nx m f (vAr (fun p => if u.testBit p then 0 else vJn nx L p + vB1 nx m f p (u ||| 2 ^ p)) m) (u ||| 2 ^ (vAr (fun p => if u.testBit p then 0 else vJn nx L p + vB1 nx m f p (u ||| 2 ^ p)) m))) = vB1 nx m (f + 1) L u := aw
        generalize vAr (fun p => if u.testBit p then 0 else vJn nx L p + vB1 nx m f p (u ||| 2 ^ p)) m = a at *
        -- what the row's place p is worth there
        have worth : ∀ p, p < m → u.testBit p = false → 1 ≤ vB1 nx m f p (u ||| 2 ^ p) ∧ g0.1 37 (6 * (u ||| 2 ^ p) + p) = nI (vB1 nx m f p (u ||| 2 ^ p) - 1) ∧ vB1 nx m f p (u ||| 2 ^ p) ≤ 7 := fun p hp hb => by
          have e := vMs_in hp hb
          have e2 : vMs (u ||| 2 ^ p) m = f := by omega
          refine ⟨vB1_pos nx m f p _ e2, ?_, by have := vB1_le nx m f p (u ||| 2 ^ p); omega⟩
          have := tb (u ||| 2 ^ p) (by have := ub_or_gt hb; omega) (ub_or_lt2 hu hp) p hp
          rw [mRb, e2] at this
          exact this
        induction d with
        | zero =>
          intro p hp x2 h2
          have hp : p = a := by omega
          subst hp
          have hb : u.testBit p = false := by
            cases hh : u.testBit p with
            | false => rfl
            | true => rw [hh] at top; simp at top; omega
          have yl : vLeft m u p = true := by rw [vLeft, hb, decide_eq_true am]; rfl
          have p6 : p < 6 := by omega
          obtain ⟨w1, w2, w3⟩ := worth p am hb
          rw [hb] at top
          simp only [Bool.false_eq_true, if_false] at top
          rcases hL with ⟨rfl, rfl⟩ | ⟨hL, rfl⟩
          · rw [vJn_7] at top
            refine xm_run_go hm 15 ⟨(p, u, lv, m, nx), ⟨rfl, p6, u64, d0⟩, ⟨fun z => ?_, fun _ => ⟨(u, p), ⟨rfl, p6, u64⟩, ⟨fun _ => ⟨fun _ => ?_, fun z => ?_⟩, fun z => absurd z (by decide)⟩⟩⟩⟩
            · rw [yl] at z; exact absurd z (by decide)
            · exact hout x2 h2
            · rw [w2, h2, Int32.add_zero, ← top, Nat.zero_add] at z
              exact absurd rfl z
          · have jv := d0.j hL p6
            have j1 := vJn_le nx L p
            have ix : 6 * nI L + nI p = nI (6 * L + p) := xn_6 L p
            have x0 : ¬ nI L < 0 := nI_pos (by omega)
            by_cases jz : vJn nx L p = 0
            · refine xm_run_go hm 24 ⟨(p, u, lv, m, nx), ⟨rfl, p6, u64, d0⟩, ⟨fun z => ?_, fun _ => ⟨(u, p), ⟨rfl, p6, u64⟩, ⟨fun z => absurd z x0, fun _ => ⟨6 * L + p, ⟨by omega, ix⟩, ⟨fun _ => ⟨fun _ => ?_, fun z => ?_⟩, fun z => ?_⟩⟩⟩⟩⟩⟩
              · rw [yl] at z; exact absurd z (by decide)
              · exact hout x2 h2
              · rw [w2, h2, Int32.add_zero, ← top, jz, Nat.zero_add] at z
                exact absurd rfl z
              · rw [jv, jz] at z; exact absurd rfl z
            · have jz1 : vJn nx L p = 1 := by omega
              refine xm_run_go hm 25 ⟨(p, u, lv, m, nx), ⟨rfl, p6, u64, d0⟩, ⟨fun z => ?_, fun _ => ⟨(u, p), ⟨rfl, p6, u64⟩, ⟨fun z => absurd z x0, fun _ => ⟨6 * L + p, ⟨by omega, ix⟩, ⟨fun z => ?_, fun _ => ⟨fun _ => ?_, fun z => ?_⟩⟩⟩⟩⟩⟩⟩
              · rw [yl] at z; exact absurd z (by decide)
              · rw [jv, jz1] at z; exact absurd z (by decide)
              · exact hout x2 h2
              · rw [w2, h2, ← top, jz1, nI_1] at z
                exact absurd (congrArg nI (show vB1 nx m f p (u ||| 2 ^ p) - 1 + 1 = 1 + vB1 nx m f p (u ||| 2 ^ p) - 1 by omega)) z
        | succ d ih =>
          intro p hp x2 h2
          have pm : p < m := by omega
          have p6 : p < 6 := by omega
          have nx1 := ih (p + 1) (by omega) x2 h2
          rw [nI_succ] at nx1
          have lw := low p (by omega)
          cases hb : u.testBit p with
          | true =>
            have nl : vLeft m u p = false := by rw [vLeft, hb]; simp
            refine xm_run_go hm 30 ⟨(p, u, lv, m, nx), ⟨rfl, p6, u64, d0⟩, ⟨fun _ => xm_cut hm nx1, fun z => ?_⟩⟩
            rw [nl] at z; exact absurd rfl z
          | false =>
            have yl : vLeft m u p = true := by rw [vLeft, hb, decide_eq_true pm]; rfl
            obtain ⟨w1, w2, w3⟩ := worth p pm hb
            rw [hb] at lw
            simp only [Bool.false_eq_true, if_false] at lw
            have ne : ∀ x j, x = nI (vB1 nx m f p (u ||| 2 ^ p) - 1 + j) → j = vJn nx L p → ¬ x = x2 := fun x j hx hj z => by
              rw [hx, h2] at z
              have j1 := vJn_le nx L p
              have := (nI_eq (by omega) (by omega)).mp z
              omega
            rcases hL with ⟨rfl, rfl⟩ | ⟨hL, rfl⟩
            · refine xm_run_go hm 40 ⟨(p, u, lv, m, nx), ⟨rfl, p6, u64, d0⟩, ⟨fun z => ?_, fun _ => ⟨(u, p), ⟨rfl, p6, u64⟩, ⟨fun _ => ⟨fun z => ?_, fun _ => xm_cut hm nx1⟩, fun z => absurd z (by decide)⟩⟩⟩⟩
              · rw [yl] at z; exact absurd z (by decide)
              · exact absurd z (ne _ 0 (by rw [w2, Int32.add_zero]; rfl) (vJn_7 nx p).symm)
            · have jv := d0.j hL p6
              have j1 := vJn_le nx L p
              have ix : 6 * nI L + nI p = nI (6 * L + p) := xn_6 L p
              have x0 : ¬ nI L < 0 := nI_pos (by omega)
              refine xm_run_go hm 50 ⟨(p, u, lv, m, nx), ⟨rfl, p6, u64, d0⟩, ⟨fun z => ?_, fun _ => ⟨(u, p), ⟨rfl, p6, u64⟩, ⟨fun z => absurd z x0, fun _ => ⟨6 * L + p, ⟨by omega, ix⟩, ⟨fun y => ⟨fun z => ?_, fun _ => xm_cut hm nx1⟩, fun y => ⟨fun z => ?_, fun _ => xm_cut hm nx1⟩⟩⟩⟩⟩⟩⟩
              · rw [yl] at z; exact absurd z (by decide)
              · rw [jv] at y
                exact absurd z (ne _ 0 (by rw [w2, Int32.add_zero]; rfl) ((nI_eq (b := 0) (by omega) (by omega)).mp y).symm)
              · rw [jv] at y
                have jz : vJn nx L p ≠ 0 := fun e => y (by rw [e]; rfl)
                exact absurd z (ne _ 1 (by rw [w2, nI_1]) (by omega))
      have greedy : i = nI n → n < m → ∀ d k, k + d = n + 1 → ∀ u L f x4, u < 2 ^ m → vMs u m = f → f = m - k → mLa L m x4 → (0 < k → x4 = nI ((vBp nx m m 7 0).getD (k - 1) 0)) → (∀ j, (vBp nx m m 7 0).getD (k + j) 0 = (vBp nx m f L u).getD j 0) → ∀ x2, x2 = nI (vB1 nx m f L u - 1) → ∀ w6, xm_go xs_M xk_X9_bestRow [xt_X9_isPerson, xt_X9_fillsBest, xt_X9_restWith, xt_X9_isLeft] xc_X9_bestRow Q (xm_drop 46 xc_X9_bestRow) [.ref 0, .int i, .int x2, .int (nI u), .int x4, .int (nI k), w6] [] g0 := by
        intro hin hn d
        induction d with
        | zero =>
          intro k hk u L f x4 hu hf hfk hL hx hl2 x2 h2 w6
          have fin := hQi x4 (fun z => by rw [hin] at z; exact absurd (show nI n < 0 by rw [z]; decide) (nI_pos (by omega))) (fun _ _ => by rw [hx (by omega), show k - 1 = n by omega])
          refine xm_run_go hm 20 ⟨fun _ => fin, fun z => ?_⟩
          rw [hin] at z
          exact absurd z (nI_ge (by omega) (by omega))
        | succ d ih =>
          intro k hk u L f x4 hu hf hfk hL hx hl2 x2 h2 w6
          have nle : ¬ i < nI k := by rw [hin]; exact nI_nlt (by omega) (by omega)
          obtain ⟨f', rfl⟩ : ∃ f', f = f' + 1 := ⟨f - 1, by omega⟩
          have eB : vB1 nx m (f' + 1) L u = vMx (fun p => if u.testBit p then 0 else vJn nx L p + vB1 nx m f' p (u ||| 2 ^ p)) m := rfl
          have pos : 1 ≤ vB1 nx m (f' + 1) L u := vB1_pos nx m (f' + 1) L u hf
          obtain ⟨am, aw⟩ := vMx_ar (w := fun p => if u.testBit p then 0 else vJn nx L p + vB1 nx m f' p (u ||| 2 ^ p)) (n := m) (by rw [← eB]; omega)
          have inn := inner u L f' x4 hu hf hL k
          have eP : vBp nx m (f' + 1) L u = vAr (fun p => if u.testBit p then 0 else vJn nx L p + vB1 nx m f' p (u ||| 2 ^ p)) m :: vBp nx m f' (vAr (fun p => if u.testBit p then 0 else vJn nx L p + vB1 nx m f' p (u ||| 2 ^ p)) m) (u ||| 2 ^ (vAr (fun p => if u.testBit p then 0 else vJn nx L p + vB1 nx m f' p (u ||| 2 ^ p)) m)) := rfl
          have hb : u.testBit (vAr (fun p => if u.testBit p then 0 else vJn nx L p + vB1 nx m f' p (u ||| 2 ^ p)) m) = false := by
            cases hh : u.testBit (vAr (fun p => if u.testBit p then 0 else vJn nx L p + vB1 nx m f' p (u ||| 2 ^ p)) m) with
            | false => rfl
            | true => rw [hh, ← eB] at aw; simp at aw; omega
          generalize vAr (fun p => if u.testBit p then 0 else vJn nx L p + vB1 nx m f' p (u ||| 2 ^ p)) m = a at *
          have e := vMs_in am hb
          have e2 : vMs (u ||| 2 ^ a) m = f' := by omega
          have a6 : a < 6 := by omega
          have u64 : u < 64 := by omega
          have tv : g0.1 37 (6 * (u ||| 2 ^ a) + a) = nI (vB1 nx m f' a (u ||| 2 ^ a) - 1) := by
            have := tb (u ||| 2 ^ a) (by have := ub_or_gt hb; omega) (ub_or_lt2 hu am) a am
            rw [mRb, e2] at this
            exact this
          have nx1 := ih (k + 1) (by omega) (u ||| 2 ^ a) a f' (nI a) (ub_or_lt2 hu am) e2 (by omega) (Or.inr ⟨am, rfl⟩) (fun _ => by
            have := hl2 0
            rw [eP, Nat.add_zero] at this
            rw [Nat.add_sub_cancel, this]; rfl) (fun j => by
            have := hl2 (j + 1)
            rw [eP] at this
            rw [show k + 1 + j = k + (j + 1) by omega, this]; rfl)
          rw [nI_succ, ← ub_or1 u u64 a a6] at nx1
          refine xm_run_go hm 20 ⟨fun z => absurd z nle, fun _ => xm_cut hm (inn (fun y2 hy2 => ?_) a 0 (by omega) x2 h2)⟩
          exact xm_run_go hm 30 ⟨(u, a), ⟨rfl, a6, u64⟩, xm_cut hm (nx1 _ tv _)⟩
      have loop : ∀ d p, p + d = m → ∀ x2, x2 = nI (vMx (fun p => mRb nx m (0 ||| 2 ^ p) p) p) → ∀ w4 w5 w6, xm_go xs_M xk_X9_bestRow [xt_X9_isPerson, xt_X9_fillsBest, xt_X9_restWith, xt_X9_isLeft] xc_X9_bestRow Q (xm_drop 15 xc_X9_bestRow) [.ref 0, .int i, .int x2, .int (nI p), w4, w5, w6] [] g0 := by
        intro d
        induction d with
        | zero =>
          intro p hp x2 h2 w4 w5 w6
          have hp : p = m := by omega
          subst hp
          rw [mRb_0] at h2
          refine xm_run_go hm 30 ⟨lv, ⟨hl, d0.l⟩, ⟨fun _ => ⟨fun z => ?_, fun z => hQi x2 (fun _ => by rw [h2, xn_dec b1]) (fun y _ => ?_)⟩, fun z => ?_⟩⟩
          · rcases hi with hi | ⟨hi, hn⟩
            · exact absurd hi z
            · exact xm_cut hm (greedy hi hn (n + 1) 0 (by omega) 0 7 p _ p0 (vMs_0 p) (by omega) (Or.inl ⟨rfl, rfl⟩) (fun z => absurd z (by omega)) (fun j => by rw [Nat.zero_add]) x2 h2 _)
          · rw [z] at y
            exact absurd (show nI n < 0 by rw [← y]; decide) (nI_pos (by omega))
          · rw [d0.m] at z
            exact absurd z (nI_nlt (Nat.le_refl _) (by omega))
        | succ d ih =>
          intro p hp x2 h2 w4 w5 w6
          have pm : p < m := by omega
          have p6 : p < 6 := by omega
          have nx1 := ih (p + 1) (by omega)
          rw [nI_succ] at nx1
          have tv : g0.1 37 (6 * (0 ||| 2 ^ p) + p) = nI (mRb nx m (0 ||| 2 ^ p) p) := tb _ (by have := ub_or_gt (u := 0) (p := p) (Nat.zero_testBit p); omega) (ub_or_lt2 p0 pm) p pm
          have bd : ∀ n, vMx (fun p => mRb nx m (0 ||| 2 ^ p) p) n ≤ 6 := fun n => vMx_le (fun k hk => mRb_le nx m6)
          have b3 := bd p
          have b4 := mRb_le nx (m := m) (u := 0 ||| 2 ^ p) (L := p) m6
          refine xm_run_go hm 40 ⟨lv, ⟨hl, d0.l⟩, ⟨fun z => ?_, fun _ => ⟨(0, p), ⟨rfl, p6, by decide⟩, ⟨fun z => xm_cut hm (nx1 _ ?_ _ _ _), fun z => ⟨(0, p), ⟨rfl, p6, by decide⟩, xm_cut hm (nx1 _ ?_ _ _ _)⟩⟩⟩⟩⟩
          · rw [d0.m] at z
            exact absurd z (nI_ge pm (by omega))
          · rw [tv, h2] at z
            have := (nI_leI (by omega) (by omega)).mp z
            rw [vMx, if_neg (by omega)]; exact h2
          · rw [tv, h2] at z
            have := (nI_ltI (by omega) (by omega)).mp z
            rw [vMx, if_pos this]; exact tv
      exact fun w4 w5 w6 => loop m 0 (by omega) 0 rfl w4 w5 w6
    by_cases hi : i = -1
    · refine xm_run_go hm 30 ⟨fun _ => ⟨(lv, σ), ⟨rfl, h⟩, ?_⟩, fun z => absurd hi z⟩
      rintro o g0 ⟨rfl, f0, d0, tb⟩
      exact xm_cut hm (main 0 (Or.inl hi) g0 f0 d0 tb _ _ _)
    · rcases vDo_c (m := tM (sT σ)) i (by omega) with hp | ⟨n, hn, hin⟩
      · have fin := hQ0 (some (.int (-1))) g ⟨by rw [aBestRow, if_neg hi, vDo_n hp], lv, h⟩
        refine xm_run_go hm 60 ⟨fun z => absurd z hi, fun _ => ⟨(i, lv, tM (sT σ)), ⟨rfl, hl, h.m9, h.l, h.m⟩, ⟨fun z => ?_, fun _ => fin⟩⟩⟩
        exact absurd (vIs_n hp) z
      · have z1 := vIs_y hn (by omega : tM (sT σ) < 2 ^ 31)
        refine xm_run_go hm 30 ⟨fun z => absurd z hi, fun _ => ⟨(i, lv, tM (sT σ)), ⟨rfl, hl, h.m9, h.l, h.m⟩, ⟨fun _ => ⟨(lv, σ), ⟨rfl, h⟩, ?_⟩, fun z => ?_⟩⟩⟩
        · rintro o g0 ⟨rfl, f0, d0, tb⟩
          exact xm_cut hm (main n (Or.inr ⟨hin, hn⟩) g0 f0 d0 tb _ _ _)
        · rw [hin, z1] at z; exact absurd z (by decide)
