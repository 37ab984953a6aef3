theorem mRl_0 (nx : Nat → Nat) (m : Nat) : vMx (fun p => 1 + mRl nx m (0 ||| 2 ^ p) p) m = vLg nx m m 7 0 := by
  have e := mRl_rec nx (m := m) (u := 0) (L := 7)
  have e2 : mRl nx m 0 7 = vLg nx m m 7 0 := by unfold mRl; rw [vMs_0]
  rw [← e2, ← e]
  refine vMx_cong fun p hp => ?_
  have : vCf nx 7 0 p = true := by unfold vCf; simp
  rw [this]; rfl
def xt_X9_longest : xT := xm_rl (Z := vS × Int32) (fun (σ, i) av g => av = [.ref 0, .int i] ∧ mTop σ g) (fun (σ, i) g o g' => o = some (.int (aLongest σ i)) ∧ mTop σ g')
set_option maxRecDepth 100000 in
set_option maxHeartbeats 400000 in
theorem xp_X9_longest {l : Launch} {D : va_G} {cA : Nat → ClassId} {B : List (Nat × Cell)} : xm_Met l D cA B xs_M 5 yX9_longest cX9_longest 7 (some .int) xt_X9_longest := by
  have hm : xm_monos [xt_X9_fillsLong, xt_X9_restWith, xt_X9_isLeft] := ⟨(by first | exact xm_fn_mono _ _ _ | exact xm_rl_mono _ _), (by first | exact xm_fn_mono _ _ _ | exact xm_rl_mono _ _), (by first | exact xm_fn_mono _ _ _ | exact xm_rl_mono _ _), trivial⟩
  refine xm_meth (own := RX9) (ks := xk_X9_longest) (C := xc_X9_longest) (Ts := [xt_X9_fillsLong, xt_X9_restWith, xt_X9_isLeft]) (by decide +kernel) rfl xm_clsok xs_M_ok xf_X9_ok xi_X9_ok xj_X9_ok (xm_lk xl_X9_445 xp_X9_fillsLong (by decide) (xm_lk xl_X9_436 xp_X9_restWith (by decide) (xm_lk xl_X9_433 xp_X9_isLeft (by decide) xm_lk0))) xo_X9_longest ?_ ?_
  · rintro av g Q ⟨z, ⟨rfl, -⟩, -⟩
    exact Nat.le_of_ble_eq_true rfl
  · rintro av g Q ⟨⟨σ, i⟩, ⟨rfl, ⟨lv, h⟩⟩, hQ⟩
    dsimp only at h hQ
    have m6 := h.m6
    have hl := h.lv
    have t6 : vLg (vNx (sT σ) (sC σ)) (tM (sT σ)) (tM (sT σ)) 7 0 ≤ 6 := by have := vLg_le (vNx (sT σ) (sC σ)) (tM (sT σ)) (tM (sT σ)) 7 0; omega
    have hQ0 := hQ
    unfold aLongest at hQ
    have main : ∀ n, n < 6 → i = -1 ∨ i = nI n → ∀ g0, mFq g g0 → mDq lv (tM (sT σ)) (vNx (sT σ) (sC σ)) g0 → mTb (mRl (vNx (sT σ) (sC σ)) (tM (sT σ))) 1 (tM (sT σ)) g0 → ∀ w4 w5 w6, xm_go xs_M xk_X9_longest [xt_X9_fillsLong, xt_X9_restWith, xt_X9_isLeft] xc_X9_longest Q (xm_drop 14 xc_X9_longest) [.ref 0, .int i, .int 0, .int 0, w4, w5, w6] [] g0 := by
      intro n n6 hi g0 f0 d0 tb
      have inn1 : i = nI n → ¬ i = -1 := fun hi => by rw [hi]; intro z; exact absurd (show nI n < 0 by rw [z]; decide) (nI_pos (by omega))
      have hQ1 : ∀ x, i = -1 → x = nI (vLg (vNx (sT σ) (sC σ)) (tM (sT σ)) (tM (sT σ)) 7 0) → Q (some (.int x)) g0 := fun x hi hx => hQ _ _ ⟨by rw [if_pos hi, hx], lv, h.q f0⟩
      have hQ2 : ∀ x, i = nI n → n < vLg (vNx (sT σ) (sC σ)) (tM (sT σ)) (tM (sT σ)) 7 0 → x = nI ((vLp (vNx (sT σ) (sC σ)) (tM (sT σ)) (tM (sT σ)) 7 0).getD n 0) → Q (some (.int x)) g0 := fun x hi hn hx => hQ _ _ ⟨by rw [if_neg (inn1 hi), hi, vDo_y hn (by omega), hx], lv, h.q f0⟩
      have hQ3 : i = nI n → ¬ n < vLg (vNx (sT σ) (sC σ)) (tM (sT σ)) (tM (sT σ)) 7 0 → Q (some (.int (-1))) g0 := fun hi hn => hQ _ _ ⟨by rw [if_neg (inn1 hi), hi, vDo_n (fun z => hn ((nI_ltI (by omega) (by omega)).mp z.2))], lv, h.q f0⟩
      generalize tM (sT σ) = m at *
      generalize vNx (sT σ) (sC σ) = nx at *
      have p64 := p2_le m6
      have p0 := p2_pos m
      have L7 : ∀ L, L < m → decide (L = 7) = false := fun L hL => decide_eq_false (by omega)
      have cfj : ∀ L u p, L < m → u.testBit p = false → (vCf nx L u p = true ↔ vJn nx L p = 1) := fun L u p hL hb => by
        unfold vCf vJn
        rw [hb, L7 L hL, decide_eq_true (show L ≠ 7 by omega), Bool.true_and, Bool.false_or, Bool.not_false, Bool.true_and]
        cases (nx L).testBit p <;> simp
      have inner : ∀ u L f x4, u < 2 ^ m → vMs u m = f + 1 → mLa L m x4 → 0 < vLg nx m (f + 1) L u → ∀ k, (∀ x2, x2 = nI (vLg nx m (f + 1) L u) → xm_go xs_M xk_X9_longest [xt_X9_fillsLong, xt_X9_restWith, xt_X9_isLeft] xc_X9_longest Q (xm_drop 85 xc_X9_longest) [.ref 0, .int i, .int x2, .int (nI u), .int x4, .int (nI k), .int (nI (vAr (fun p => if vCf nx L u p then 1 + vLg nx m f p (u ||| 2 ^ p) else 0) m))] [] g0) →
          ∀ d p, p + d = vAr (fun p => if vCf nx L u p then 1 + vLg nx m f p (u ||| 2 ^ p) else 0) m → ∀ x2, x2 = nI (vLg nx m (f + 1) L u) → xm_go xs_M xk_X9_longest [xt_X9_fillsLong, xt_X9_restWith, xt_X9_isLeft] xc_X9_longest Q (xm_drop 59 xc_X9_longest) [.ref 0, .int i, .int x2, .int (nI u), .int x4, .int (nI k), .int (nI p)] [] g0 := by
        intro u L f x4 hu hf hL pos k hout d
        have u64 : u < 64 := by omega
        have eB : vLg nx m (f + 1) L u = vMx (fun p => if vCf nx L u p then 1 + vLg nx m f p (u ||| 2 ^ p) else 0) m := rfl
        obtain ⟨am, aw⟩ := vMx_ar (w := fun p => if vCf nx L u p then 1 + vLg nx m f p (u ||| 2 ^ p) else 0) (n := m) (by rw [← eB]; exact pos)
        have bB := vLg_le nx m (f + 1) L u
        have fm : f + 1 ≤ m := by have := vMs_le u m; omega
        have low : ∀ p, p < vAr (fun p => if vCf nx L u p then 1 + vLg nx m f p (u ||| 2 ^ p) else 0) m → (if vCf nx L u p then 1 + vLg nx m f p (u ||| 2 ^ p) else 0) < vLg nx m (f + 1) L u := fun p hp => by
          rw [eB]; exact vMx_ar_lt (w := fun p => if vCf nx L u p then 1 + vLg nx m f p (u ||| 2 ^ p) else 0) hp (by omega)
        have top : (if vCf nx L u (vAr (fun p => if vCf nx L u p then 1 + vLg nx m f p (u ||| 2 ^ p) else 0) m) then 1 + vLg nx m f (vAr (fun p => if vCf nx L u p then 1 + vLg nx m f p (u ||| 2 ^ p) else 0) m) (u ||| 2 ^ (vAr (fun p => if vCf nx L u p then 1 + vLg nx m f p (u ||| 2 ^ p) else 0) m)) else 0) = vLg nx m (f + 1) L u := aw
        generalize vAr (fun p => if vCf nx L u p then 1 + vLg nx m f p (u ||| 2 ^ p) else 0) m = a at *
        have worth : ∀ p, p < m → u.testBit p = false → g0.1 37 (6 * (u ||| 2 ^ p) + p) = nI (vLg nx m f p (u ||| 2 ^ p)) ∧ vLg nx m f p (u ||| 2 ^ p) ≤ 6 := fun p hp hb => by
          have e := vMs_in hp hb
          have e2 : vMs (u ||| 2 ^ p) m = f := by omega
          refine ⟨?_, by have := vLg_le nx m f p (u ||| 2 ^ p); omega⟩
          have := tb (u ||| 2 ^ p) (by have := ub_or_gt hb; omega) (ub_or_lt2 hu hp) p hp
          rw [mRl, e2] at this
          exact this
        induction d with
        | zero =>
          intro p hp x2 h2
          have hp : p = a := by omega
          subst hp
          have hc : vCf nx L u p = true := by
            cases hh : vCf nx L u p with
            | true => rfl
            | false => rw [hh] at top; simp at top; omega
          have hb := vCf_in hc
          have yl : vLeft m u p = true := by rw [vLeft, hb, decide_eq_true am]; rfl
          have p6 : p < 6 := by omega
          obtain ⟨w2, w3⟩ := worth p am hb
          rw [hc] at top
          simp only [if_true] at top
          have eqv : 1 + g0.1 37 (6 * (u ||| 2 ^ p) + p) = x2 := by
            rw [w2, h2, ← top, ← nI_add]; rfl
          rcases hL with ⟨rfl, rfl⟩ | ⟨hL, rfl⟩
          · refine xm_run_go hm 15 ⟨(p, u, lv, m, nx), ⟨rfl, p6, u64, d0⟩, ⟨fun z => ?_, fun _ => ⟨fun _ => ⟨(u, p), ⟨rfl, p6, u64⟩, ⟨fun _ => ?_, fun z => ?_⟩⟩, fun z => absurd z (by decide)⟩⟩⟩
            · rw [yl] at z; exact absurd z (by decide)
            · exact hout x2 h2
            · exact absurd eqv z
          · have jv := d0.j hL p6
            have jz := (cfj L u p hL hb).mp hc
            have ix : 6 * nI L + nI p = nI (6 * L + p) := xn_6 L p
            have x0 : ¬ nI L < 0 := nI_pos (by omega)
            refine xm_run_go hm 24 ⟨(p, u, lv, m, nx), ⟨rfl, p6, u64, d0⟩, ⟨fun z => ?_, fun _ => ⟨fun z => absurd z x0, fun _ => ⟨6 * L + p, ⟨by omega, ix⟩, ⟨fun z => ?_, fun _ => ⟨(u, p), ⟨rfl, p6, u64⟩, ⟨fun _ => ?_, fun z => ?_⟩⟩⟩⟩⟩⟩⟩
            · rw [yl] at z; exact absurd z (by decide)
            · rw [jv, jz] at z; exact absurd z (by decide)
            · exact hout x2 h2
            · exact absurd eqv z
        | succ d ih =>
          intro p hp x2 h2
          have pm : p < m := by omega
          have p6 : p < 6 := by omega
          have nx1 := ih (p + 1) (by omega) x2 h2
          rw [nI_succ] at nx1
          have lw := low p (by omega)
          cases hb : u.testBit p with
          | true =>
            have nl : vLeft m u p = false := by rw [vLeft, hb]; simp
            refine xm_run_go hm 30 ⟨(p, u, lv, m, nx), ⟨rfl, p6, u64, d0⟩, ⟨fun _ => xm_cut hm nx1, fun z => ?_⟩⟩
            rw [nl] at z; exact absurd rfl z
          | false =>
            have yl : vLeft m u p = true := by rw [vLeft, hb, decide_eq_true pm]; rfl
            obtain ⟨w2, w3⟩ := worth p pm hb
            have ne : vCf nx L u p = true → ¬ 1 + g0.1 37 (6 * (u ||| 2 ^ p) + p) = x2 := fun hc z => by
              rw [hc] at lw
              simp only [if_true] at lw
              rw [w2, h2, show (1 : Int32) = nI 1 from rfl, nI_add] at z
              have := (nI_eq (by omega) (by omega)).mp z
              omega
            rcases hL with ⟨rfl, rfl⟩ | ⟨hL, rfl⟩
            · have hc : vCf nx 7 u p = true := by unfold vCf; rw [hb]; rfl
              refine xm_run_go hm 40 ⟨(p, u, lv, m, nx), ⟨rfl, p6, u64, d0⟩, ⟨fun z => ?_, fun _ => ⟨fun _ => ⟨(u, p), ⟨rfl, p6, u64⟩, ⟨fun z => absurd z (ne hc), fun _ => xm_cut hm nx1⟩⟩, fun z => absurd z (by decide)⟩⟩⟩
              rw [yl] at z; exact absurd z (by decide)
            · have jv := d0.j hL p6
              have j1 := vJn_le nx L p
              have ix : 6 * nI L + nI p = nI (6 * L + p) := xn_6 L p
              have x0 : ¬ nI L < 0 := nI_pos (by omega)
              refine xm_run_go hm 50 ⟨(p, u, lv, m, nx), ⟨rfl, p6, u64, d0⟩, ⟨fun z => ?_, fun _ => ⟨fun z => absurd z x0, fun _ => ⟨6 * L + p, ⟨by omega, ix⟩, ⟨fun _ => xm_cut hm nx1, fun y => ⟨(u, p), ⟨rfl, p6, u64⟩, ⟨fun z => ?_, fun _ => xm_cut hm nx1⟩⟩⟩⟩⟩⟩⟩
              · rw [yl] at z; exact absurd z (by decide)
              · rw [jv] at y
                have jz : vJn nx L p ≠ 0 := fun e => y (by rw [e]; rfl)
                exact absurd z (ne ((cfj L u p hL hb).mpr (by omega)))
      have greedy : i = nI n → n < vLg nx m m 7 0 → ∀ d k, k + d = n + 1 → ∀ u L f x4, u < 2 ^ m → vMs u m = f → vLg nx m f L u + k = vLg nx m m 7 0 → mLa L m x4 → (0 < k → x4 = nI ((vLp nx m m 7 0).getD (k - 1) 0)) → (∀ j, (vLp nx m m 7 0).getD (k + j) 0 = (vLp nx m f L u).getD j 0) → ∀ x2, x2 = nI (vLg nx m f L u) → ∀ w6, xm_go xs_M xk_X9_longest [xt_X9_fillsLong, xt_X9_restWith, xt_X9_isLeft] xc_X9_longest Q (xm_drop 54 xc_X9_longest) [.ref 0, .int i, .int x2, .int (nI u), .int x4, .int (nI k), w6] [] g0 := by
        intro hin hn d
        induction d with
        | zero =>
          intro k hk u L f x4 hu hf hfk hL hx hl2 x2 h2 w6
          have fin := hQ2 x4 hin hn (by rw [hx (by omega), show k - 1 = n by omega])
          refine xm_run_go hm 20 ⟨fun _ => fin, fun z => ?_⟩
          rw [hin] at z
          exact absurd z (nI_ge (by omega) (by omega))
        | succ d ih =>
          intro k hk u L f x4 hu hf hfk hL hx hl2 x2 h2 w6
          have nle : ¬ i < nI k := by rw [hin]; exact nI_nlt (by omega) (by omega)
          have pos : 0 < vLg nx m f L u := by omega
          have fl := vLg_le nx m f L u
          obtain ⟨f', rfl⟩ : ∃ f', f = f' + 1 := ⟨f - 1, by omega⟩
          have eB : vLg nx m (f' + 1) L u = vMx (fun p => if vCf nx L u p then 1 + vLg nx m f' p (u ||| 2 ^ p) else 0) m := rfl
          obtain ⟨am, aw⟩ := vMx_ar (w := fun p => if vCf nx L u p then 1 + vLg nx m f' p (u ||| 2 ^ p) else 0) (n := m) (by rw [← eB]; exact pos)
          have inn := inner u L f' x4 hu hf hL pos k
          have eP : vLp nx m (f' + 1) L u = vAr (fun p => if vCf nx L u p then 1 + vLg nx m f' p (u ||| 2 ^ p) else 0) m :: vLp nx m f' (vAr (fun p => if vCf nx L u p then 1 + vLg nx m f' p (u ||| 2 ^ p) else 0) m) (u ||| 2 ^ (vAr (fun p => if vCf nx L u p then 1 + vLg nx m f' p (u ||| 2 ^ p) else 0) m)) := by
            rw [vLp, if_neg (by omega)]
          have hc : vCf nx L u (vAr (fun p => if vCf nx L u p then 1 + vLg nx m f' p (u ||| 2 ^ p) else 0) m) = true := by
            cases hh : vCf nx L u (vAr (fun p => if vCf nx L u p then 1 + vLg nx m f' p (u ||| 2 ^ p) else 0) m) with
            | true => rfl
            | false => rw [hh, ← eB] at aw; simp at aw; omega
          rw [hc, ← eB] at aw
          simp only [if_true] at aw
          generalize vAr (fun p => if vCf nx L u p then 1 + vLg nx m f' p (u ||| 2 ^ p) else 0) m = a at *
          have hb := vCf_in hc
          have e := vMs_in am hb
          have e2 : vMs (u ||| 2 ^ a) m = f' := by omega
          have a6 : a < 6 := by omega
          have u64 : u < 64 := by omega
          have nx1 := ih (k + 1) (by omega) (u ||| 2 ^ a) a f' (nI a) (ub_or_lt2 hu am) e2 (by omega) (Or.inr ⟨am, rfl⟩) (fun _ => by
            have := hl2 0
            rw [eP, Nat.add_zero] at this
            rw [Nat.add_sub_cancel, this]; rfl) (fun j => by
            have := hl2 (j + 1)
            rw [eP] at this
            rw [show k + 1 + j = k + (j + 1) by omega, this]; rfl)
          rw [nI_succ, ← ub_or1 u u64 a a6] at nx1
          refine xm_run_go hm 20 ⟨fun z => absurd z nle, fun _ => xm_cut hm (inn (fun y2 hy2 => ?_) a 0 (by omega) x2 h2)⟩
          exact xm_run_go hm 30 (xm_cut hm (nx1 _ (by rw [hy2, sb_m1 (by omega)]; exact congrArg nI (by omega)) _))
      have loop : ∀ d p, p + d = m → ∀ x2, x2 = nI (vMx (fun p => 1 + mRl nx m (0 ||| 2 ^ p) p) p) → ∀ w4 w5 w6, xm_go xs_M xk_X9_longest [xt_X9_fillsLong, xt_X9_restWith, xt_X9_isLeft] xc_X9_longest Q (xm_drop 14 xc_X9_longest) [.ref 0, .int i, .int x2, .int (nI p), w4, w5, w6] [] g0 := by
        intro d
        induction d with
        | zero =>
          intro p hp x2 h2 w4 w5 w6
          have hp : p = m := by omega
          subst hp
          rw [mRl_0] at h2
          refine xm_run_go hm 40 ⟨lv, ⟨hl, d0.l⟩, ⟨fun _ => ⟨fun z => ⟨fun y => ?_, fun y => ?_⟩, fun z => hQ1 x2 z h2⟩, fun z => ?_⟩⟩
          · rcases hi with hi | hi
            · exact absurd hi z
            · rw [hi, h2] at y
              exact xm_cut hm (greedy hi ((nI_ltI (by omega) (by omega)).mp y) (n + 1) 0 (by omega) 0 7 p _ p0 (vMs_0 p) (by omega) (Or.inl ⟨rfl, rfl⟩) (fun z => absurd z (by omega)) (fun j => by rw [Nat.zero_add]) x2 h2 _)
          · rcases hi with hi | hi
            · exact absurd hi z
            · rw [hi, h2] at y
              exact hQ3 hi (by have := (nI_leI (by omega) (by omega)).mp y; omega)
          · rw [d0.m] at z
            exact absurd z (nI_nlt (Nat.le_refl _) (by omega))
        | succ d ih =>
          intro p hp x2 h2 w4 w5 w6
          have pm : p < m := by omega
          have p6 : p < 6 := by omega
          have nx1 := ih (p + 1) (by omega)
          rw [nI_succ] at nx1
          have tv : 1 + g0.1 37 (6 * (0 ||| 2 ^ p) + p) = nI (1 + mRl nx m (0 ||| 2 ^ p) p) := by
            rw [tb _ (by have := ub_or_gt (u := 0) (p := p) (Nat.zero_testBit p); omega) (ub_or_lt2 p0 pm) p pm, ← nI_add]; rfl
          have bd : ∀ n, vMx (fun p => 1 + mRl nx m (0 ||| 2 ^ p) p) n ≤ 7 := fun n => vMx_le (fun k hk => by have := mRl_le nx (m := m) (u := 0 ||| 2 ^ k) (L := k) m6; omega)
          have b3 := bd p
          have b4 := mRl_le nx (m := m) (u := 0 ||| 2 ^ p) (L := p) m6
          refine xm_run_go hm 40 ⟨lv, ⟨hl, d0.l⟩, ⟨fun z => ?_, fun _ => ⟨(0, p), ⟨rfl, p6, by decide⟩, ⟨fun z => xm_cut hm (nx1 _ ?_ _ _ _), fun z => ⟨(0, p), ⟨rfl, p6, by decide⟩, xm_cut hm (nx1 _ ?_ _ _ _)⟩⟩⟩⟩⟩
          · rw [d0.m] at z
            exact absurd z (nI_ge pm (by omega))
          · rw [tv, h2] at z
            have := (nI_leI (by omega) (by omega)).mp z
            rw [vMx, if_neg (by omega)]; exact h2
          · rw [tv, h2] at z
            have := (nI_ltI (by omega) (by omega)).mp z
            rw [vMx, if_pos this]; exact tv
      exact fun w4 w5 w6 => loop m 0 (by omega) 0 rfl w4 w5 w6
    by_cases hr : -1 ≤ i ∧ i ≤ 5
    · have hi : ∃ n, n < 6 ∧ (i = -1 ∨ i = nI n) := by
        by_cases z : i = -1
        · exact ⟨0, by omega, Or.inl z⟩
        · have z0 : 0 ≤ i := by
            have a := hr.1
            rw [xi_le] at a ⊢
            have e1 : (-1 : Int32).toInt = -1 := by decide
            have e0 : (0 : Int32).toInt = 0 := by decide
            have : i.toInt ≠ -1 := fun y => z (Int32.toInt_inj.mp (y.trans e1.symm))
            omega
          obtain ⟨j, hj, rfl⟩ := nI_of (Int32.not_lt.mpr z0)
          exact ⟨j, by have := (nI_leI (b := 5) hj (by omega)).mp hr.2; omega, Or.inr rfl⟩
      obtain ⟨n, n6, hi⟩ := hi
      refine xm_run_go hm 30 ⟨fun z => absurd hr.1 (Int32.not_le.mpr z), fun _ => ⟨fun _ => ⟨(lv, σ), ⟨rfl, h⟩, ?_⟩, fun z => absurd hr.2 (Int32.not_le.mpr z)⟩⟩
      rintro o g0 ⟨rfl, f0, d0, tb⟩
      exact xm_cut hm (main n n6 hi g0 f0 d0 tb _ _ _)
    · have fin := hQ0 (some (.int (-1))) g ⟨by
        rw [aLongest, if_neg (fun z => hr (by rw [z]; decide)), vDo_n (fun z => hr ⟨Int32.le_trans (by decide) z.1, Int32.le_of_lt (Int32.lt_of_lt_of_le z.2 (nI_le (b := 6) t6 (by decide))) |> fun q => by
          obtain ⟨j, hj, rfl⟩ := nI_of (Int32.not_lt.mpr z.1)
          have := (nI_ltI hj (by omega)).mp z.2
          exact (nI_leI (b := 5) hj (by omega)).mpr (by omega)⟩)], lv, h⟩
      exact xm_run_go hm 30 ⟨fun _ => fin, fun z => ⟨fun y => absurd ⟨z, y⟩ hr, fun _ => fin⟩⟩
