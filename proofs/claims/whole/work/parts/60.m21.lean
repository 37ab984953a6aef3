-- counts
theorem vSn_6 (f : Nat → Nat) : ∀ p, vSn f (6 * p) = vSn (fun p => vSn (fun q => f (6 * p + q)) 6) p
  | 0 => rfl
  | p + 1 => by
    show vSn f (6 * p + 6) = vSn (fun p => vSn (fun q => f (6 * p + q)) 6) p + vSn (fun q => f (6 * p + q)) 6
    rw [← vSn_6 f p]
    simp only [vSn, Nat.add_zero, Nat.zero_add]
    omega
theorem vSn_join {m : Nat} {nx : Nat → Nat} (hm : m ≤ 6) : vSn (fun k => if decide (k / 6 < m) && (nx (k / 6)).testBit (k % 6) then 1 else 0) 36 = vSn (fun p => ub_ct (nx p)) m := by
  rw [show 36 = 6 * 6 from rfl, vSn_6]
  have e := vSn_ext (fun p => vSn (fun q => if decide ((6 * p + q) / 6 < m) && (nx ((6 * p + q) / 6)).testBit ((6 * p + q) % 6) then 1 else 0) 6) (n := m) (6 - m) (fun p h1 h2 => vSn_zero (fun q hq => by
    rw [show (6 * p + q) / 6 = p by omega, decide_eq_false (by omega), Bool.false_and]; rfl))
  rw [show m + (6 - m) = 6 by omega] at e
  rw [e]
  refine vSn_cong fun p hp => ?_
  rw [← ub_ct_vSn]
  refine vSn_cong fun q hq => ?_
  rw [show (6 * p + q) / 6 = p by omega, show (6 * p + q) % 6 = q by omega, decide_eq_true hp, Bool.true_and]
theorem ub_ct_mask (sl : Nat → Option vSc) : nI (ub_ct (vMask sl)) = ((if (sl 0).isSome then (1 : Int32) else 0) + (if (sl 1).isSome then 1 else 0)) + (if (sl 2).isSome then 1 else 0) := by
  unfold vMask
  cases (sl 0).isSome <;> cases (sl 1).isSome <;> cases (sl 2).isSome <;> decide
def xt_X9_count : xT := xm_rl (Z := vS × Int32) (fun (σ, w) av g => av = [.ref 0, .int w] ∧ mTop σ g) (fun (σ, w) g o g' => o = some (.int (aCount σ w)) ∧ mTop σ g')
set_option maxRecDepth 100000 in
set_option maxHeartbeats 400000 in
theorem xp_X9_count {l : Launch} {D : va_G} {cA : Nat → ClassId} {B : List (Nat × Cell)} : xm_Met l D cA B xs_M 9 yX9_count cX9_count 4 (some .int) xt_X9_count := by
  have hm : xm_monos [xt_X9_fillsJoins, xt_X9_rowJoins, xt_X9_shownOn, xt_X9_paysAll, xt_X9_allGlow, xt_X9_washBits, xt_X9_joinsAt, xt_X9_lonelyBits, xt_X9_bits] := ⟨(by first | exact xm_fn_mono _ _ _ | exact xm_rl_mono _ _), (by first | exact xm_fn_mono _ _ _ | exact xm_rl_mono _ _), (by first | exact xm_fn_mono _ _ _ | exact xm_rl_mono _ _), (by first | exact xm_fn_mono _ _ _ | exact xm_rl_mono _ _), (by first | exact xm_fn_mono _ _ _ | exact xm_rl_mono _ _), (by first | exact xm_fn_mono _ _ _ | exact xm_rl_mono _ _), (by first | exact xm_fn_mono _ _ _ | exact xm_rl_mono _ _), (by first | exact xm_fn_mono _ _ _ | exact xm_rl_mono _ _), (by first | exact xm_fn_mono _ _ _ | exact xm_rl_mono _ _), trivial⟩
  refine xm_meth (own := RX9) (ks := xk_X9_count) (C := xc_X9_count) (Ts := [xt_X9_fillsJoins, xt_X9_rowJoins, xt_X9_shownOn, xt_X9_paysAll, xt_X9_allGlow, xt_X9_washBits, xt_X9_joinsAt, xt_X9_lonelyBits, xt_X9_bits]) (by decide +kernel) rfl xm_clsok xs_M_ok xf_X9_ok xi_X9_ok xj_X9_ok (xm_lk xl_X9_427 xp_X9_fillsJoins (by decide) (xm_lk xl_X9_460 xp_X9_rowJoins (by decide) (xm_lk xl_X9_409 xp_X9_shownOn (by decide) (xm_lk xl_X9_394 xp_X9_paysAll (by decide) (xm_lk xl_X9_364 xp_X9_allGlow (by decide) (xm_lk xl_X9_391 xp_X9_washBits (by decide) (xm_lk xl_X9_361 xp_X9_joinsAt (by decide) (xm_lk xl_X9_466 xp_X9_lonelyBits (by decide) (xm_lk xl_X9_472 xp_X9_bits (by decide) xm_lk0))))))))) xo_X9_count ?_ ?_
  · rintro av g Q ⟨z, ⟨rfl, -⟩, -⟩
    exact Nat.le_of_ble_eq_true rfl
  · rintro av g Q ⟨⟨σ, w⟩, ⟨rfl, ⟨lv, h⟩⟩, hQ⟩
    dsimp only at h hQ
    have m6 := h.m6
    have n5 := h.n5
    have hl := h.lv
    unfold aCount at hQ
    refine xm_run_go hm 60 ⟨(lv, σ), ⟨rfl, h⟩, ?_⟩
    rintro o g0 ⟨rfl, i0, f0, d0, e51, e52⟩
    have h0 := h.q f0
    have fin : ∀ v g', mFq g0 g' → v = _ → Q (some (.int v)) g' := fun v g' f' hv => hQ _ _ ⟨congrArg (fun x => some (Value.int x)) hv, lv, h0.q f'⟩
    -- the loops
    have l7 : (∀ v, v = vSum (vTot (sT σ) (sC σ)) (tM (sT σ)) → Q (some (.int v)) g0) → ∀ d p, p + d = tM (sT σ) → ∀ v, v = vSum (vTot (sT σ) (sC σ)) p → xm_go xs_M xk_X9_count [xt_X9_fillsJoins, xt_X9_rowJoins, xt_X9_shownOn, xt_X9_paysAll, xt_X9_allGlow, xt_X9_washBits, xt_X9_joinsAt, xt_X9_lonelyBits, xt_X9_bits] xc_X9_count Q (xm_drop 40 xc_X9_count) [.ref 0, .int w, .int v, .int (nI p)] [] g0 := by
      intro hq d
      induction d with
      | zero =>
        intro p hp v hv
        have hp : p = tM (sT σ) := by omega
        subst hp
        refine xm_run_go hm 20 ⟨lv, ⟨hl, i0.l⟩, ⟨fun _ => hq v hv, fun z => ?_⟩⟩
        rw [i0.m] at z
        exact absurd z (nI_nlt (Nat.le_refl _) (by omega))
      | succ d ih =>
        intro p hp v hv
        have p6 : p < 6 := by omega
        have nx1 := ih (p + 1) (by omega)
        rw [nI_succ] at nx1
        refine xm_run_go hm 30 ⟨lv, ⟨hl, i0.l⟩, ⟨fun z => ?_, fun _ => ⟨(p, lv, sT σ, sC σ), ⟨rfl, p6, i0⟩, xm_cut hm (nx1 _ ?_)⟩⟩⟩
        · rw [i0.m] at z
          exact absurd z (nI_ge (by omega) (by omega))
        · rw [vSum, hv]
    have l12 : (∀ v, v = vBits (fun s => ¬ vShow (sT σ) (sC σ) (nI s) = 0) (tN (sT σ)) → Q (some (.int v)) g0) → ∀ d s, s + d = tN (sT σ) → ∀ v, v = vBits (fun s => ¬ vShow (sT σ) (sC σ) (nI s) = 0) s → xm_go xs_M xk_X9_count [xt_X9_fillsJoins, xt_X9_rowJoins, xt_X9_shownOn, xt_X9_paysAll, xt_X9_allGlow, xt_X9_washBits, xt_X9_joinsAt, xt_X9_lonelyBits, xt_X9_bits] xc_X9_count Q (xm_drop 95 xc_X9_count) [.ref 0, .int w, .int v, .int (nI s)] [] g0 := by
      intro hq d
      induction d with
      | zero =>
        intro s hs v hv
        have hs : s = tN (sT σ) := by omega
        subst hs
        refine xm_run_go hm 20 ⟨lv, ⟨hl, i0.l⟩, ⟨fun _ => hq v hv, fun z => ?_⟩⟩
        rw [i0.n] at z
        exact absurd z (nI_nlt (Nat.le_refl _) (by omega))
      | succ d ih =>
        intro s hs v hv
        have nx1 := ih (s + 1) (by omega)
        rw [nI_succ] at nx1
        refine xm_run_go hm 30 ⟨lv, ⟨hl, i0.l⟩, ⟨fun z => ?_, fun _ => ⟨(nI s, lv, sT σ, sC σ), ⟨rfl, i0⟩, ⟨fun z => xm_cut hm (nx1 _ ?_), fun z => xm_cut hm (nx1 _ ?_)⟩⟩⟩⟩
        · rw [i0.n] at z
          exact absurd z (nI_ge (by omega) (by omega))
        · rw [vBits_f (fun y => y z), hv]
        · rw [vBits_t z, hv]
    have l14 : (∀ v, v = nI (vSn (fun p => ub_ct (vNx (sT σ) (sC σ) p)) (tM (sT σ))) → Q (some (.int v)) g0) → ∀ d k, k + d = 36 → ∀ v, v = nI (vSn (fun k => if decide (k / 6 < tM (sT σ)) && (vNx (sT σ) (sC σ) (k / 6)).testBit (k % 6) then 1 else 0) k) → xm_go xs_M xk_X9_count [xt_X9_fillsJoins, xt_X9_rowJoins, xt_X9_shownOn, xt_X9_paysAll, xt_X9_allGlow, xt_X9_washBits, xt_X9_joinsAt, xt_X9_lonelyBits, xt_X9_bits] xc_X9_count Q (xm_drop 121 xc_X9_count) [.ref 0, .int w, .int v, .int (nI k)] [] g0 := by
      intro hq d
      induction d with
      | zero =>
        intro k hk v hv
        have hk : k = 36 := by omega
        subst hk
        rw [vSn_join m6] at hv
        exact xm_run_go hm 20 ⟨fun _ => hq v hv, fun z => absurd z (by decide)⟩
      | succ d ih =>
        intro k hk v hv
        have k36 : k < 36 := by omega
        have jv := d0.2.2.2.2.2 (k / 6) (k % 6) (by omega) (by omega)
        rw [show 6 * (k / 6) + k % 6 = k by omega] at jv
        have nx1 := ih (k + 1) (by omega)
        rw [nI_succ] at nx1
        refine xm_run_go hm 30 ⟨fun z => absurd z (nI_ge (b := 36) k36 (by decide)), fun _ => ⟨k, ⟨k36, rfl⟩, ⟨fun z => xm_cut hm (nx1 _ ?_), fun z => xm_cut hm (nx1 _ ?_)⟩⟩⟩
        · rw [jv] at z
          rw [vSn, bi_if.mp z, hv]; rfl
        · rw [jv] at z
          have jt : (decide (k / 6 < tM (sT σ)) && (vNx (sT σ) (sC σ) (k / 6)).testBit (k % 6)) = true := by
            cases hh : (decide (k / 6 < tM (sT σ)) && (vNx (sT σ) (sC σ) (k / 6)).testBit (k % 6)) with
            | true => rfl
            | false => rw [hh] at z; exact absurd rfl z
          rw [vSn, jt, hv, nI_1]; rfl
    have l15 : (∀ v, v = vSum (tW (sT σ)) (tM (sT σ)) → Q (some (.int v)) g0) → ∀ d p, p + d = tM (sT σ) → ∀ v, v = vSum (tW (sT σ)) p → xm_go xs_M xk_X9_count [xt_X9_fillsJoins, xt_X9_rowJoins, xt_X9_shownOn, xt_X9_paysAll, xt_X9_allGlow, xt_X9_washBits, xt_X9_joinsAt, xt_X9_lonelyBits, xt_X9_bits] xc_X9_count Q (xm_drop 136 xc_X9_count) [.ref 0, .int w, .int v, .int (nI p)] [] g0 := by
      intro hq d
      induction d with
      | zero =>
        intro p hp v hv
        have hp : p = tM (sT σ) := by omega
        subst hp
        refine xm_run_go hm 20 ⟨lv, ⟨hl, i0.l⟩, ⟨fun _ => hq v hv, fun z => ?_⟩⟩
        rw [i0.m] at z
        exact absurd z (nI_nlt (Nat.le_refl _) (by omega))
      | succ d ih =>
        intro p hp v hv
        have nx1 := ih (p + 1) (by omega)
        rw [nI_succ] at nx1
        refine xm_run_go hm 30 ⟨lv, ⟨hl, i0.l⟩, ⟨fun z => ?_, fun _ => ⟨6 * lv + p, ⟨by omega, ?_⟩, xm_cut hm (nx1 _ ?_)⟩⟩⟩
        · rw [i0.m] at z
          exact absurd z (nI_ge (by omega) (by omega))
        · rw [i0.l, xn_6]
        · rw [vSum, hv, i0.2.2.1.2.2.2.2.2.1 p (by omega)]
    have l16 : (∀ v, v = vBits (fun p => nI (vJoins (sT σ) (sC σ) p) = 2) (tM (sT σ)) → Q (some (.int v)) g0) → ∀ d k, k + d = tM (sT σ) → ∀ u, u < 64 → (∀ q, q < 6 → (u.testBit q = true ↔ ∃ j, j < k ∧ nI (vJa (sT σ) (sC σ) j) = 2 ∧ cR (sC σ) j = q)) → ∀ v, v = nI u → xm_go xs_M xk_X9_count [xt_X9_fillsJoins, xt_X9_rowJoins, xt_X9_shownOn, xt_X9_paysAll, xt_X9_allGlow, xt_X9_washBits, xt_X9_joinsAt, xt_X9_lonelyBits, xt_X9_bits] xc_X9_count Q (xm_drop 161 xc_X9_count) [.ref 0, .int w, .int v, .int (nI k)] [] g0 := by
      intro hq d
      induction d with
      | zero =>
        intro k hk u hu hb v hv
        have hk : k = tM (sT σ) := by omega
        subst hk
        refine xm_run_go hm 20 ⟨lv, ⟨hl, i0.l⟩, ⟨fun _ => hq v ?_, fun z => ?_⟩⟩
        · rw [hv, vBits_u m6]
          refine congrArg nI (ub_ext hu (uB_lt m6) fun q hq => ?_)
          rw [Bool.eq_iff_iff, hb q hq, uB_bit]
          constructor
          · rintro ⟨j, j1, j2, j3⟩
            obtain ⟨c1, c2⟩ := h.c.1 j j1
            refine ⟨by omega, ?_⟩
            have : vJoins (sT σ) (sC σ) q = vJa (sT σ) (sC σ) (cS (sC σ) q) := rfl
            rw [this, ← j3, c2]; exact j2
          · rintro ⟨q1, q2⟩
            obtain ⟨c1, c2⟩ := h.c.2.1 q q1
            exact ⟨cS (sC σ) q, c1, q2, c2⟩
        · rw [i0.m] at z
          exact absurd z (nI_nlt (Nat.le_refl _) (by omega))
      | succ d ih =>
        intro k hk u hu hb v hv
        have km : k < tM (sT σ) := by omega
        have k6 : k < 6 := by omega
        have r1 := i0.2.2.2.2.1 k k6
        have l1 := (h.c.1 k km).1
        have nx1 := ih (k + 1) (by omega)
        rw [nI_succ] at nx1
        refine xm_run_go hm 40 ⟨lv, ⟨hl, i0.l⟩, ⟨fun z => ?_, fun _ => ⟨(k, lv, sT σ, sC σ), ⟨rfl, k6, i0⟩, ⟨fun z => xm_cut hm (nx1 u hu (fun q hq => ?_) v hv), fun z => ⟨30 + k, ⟨by omega, xn_30 _⟩, xm_cut hm (nx1 (u ||| 2 ^ cR (sC σ) k) (ub_orlt hu (ub_pow (by omega))) (fun q hq => ?_) _ ?_)⟩⟩⟩⟩⟩
        · rw [i0.m] at z
          exact absurd z (nI_ge km (by omega))
        · rw [hb q hq]
          constructor
          · rintro ⟨j, j1, j2⟩; exact ⟨j, by omega, j2⟩
          · rintro ⟨j, j1, j2, j3⟩
            refine ⟨j, ?_, j2, j3⟩
            by_cases e : j = k
            · rw [e] at j2; exact absurd j2 z
            · omega
        · rw [ub_tor, Bool.or_eq_true, hb q hq, decide_eq_true_eq]
          constructor
          · rintro (⟨j, j1, j2⟩ | j1)
            · exact ⟨j, by omega, j2⟩
            · exact ⟨k, by omega, z, j1⟩
          · rintro ⟨j, j1, j2, j3⟩
            by_cases e : j = k
            · rw [e] at j3; exact Or.inr j3
            · exact Or.inl ⟨j, by omega, j2, j3⟩
        · rw [r1, hv, ub_or1 u hu _ (by omega)]
    have held := fun s hs => (h0.2.2.2.2.2.2.2.1 s hs).1
    have hd0 := held 0 (by decide)
    have hd1 := held 1 (by decide)
    have hd2 := held 2 (by decide)
    refine ⟨fun z => ⟨lv, ⟨hl, i0.l⟩, fin _ _ mFq.rf ?_⟩, fun z0 => ⟨fun z => ⟨lv, ⟨hl, i0.l⟩, fin _ _ mFq.rf ?_⟩, fun z1 => ⟨fun z => ⟨36, ⟨by decide, rfl⟩, fin _ _ mFq.rf ?_⟩, fun z2 => ⟨fun z => ⟨(lv, sT σ, sC σ), ⟨rfl, i0⟩, fin _ _ mFq.rf ?_⟩, fun z3 => ⟨fun z => ⟨(-2, lv, sT σ, sC σ), ⟨rfl, i0⟩, fin _ _ mFq.rf ?_⟩, fun z4 => ⟨fun z => ⟨(lv, sT σ, sC σ), ⟨rfl, i0⟩, ?_⟩, fun z5 => ⟨fun z => ⟨37, ⟨by decide, rfl⟩, fin _ _ mFq.rf ?_⟩, fun z6 => ⟨fun z => xm_cut hm (l7 (fun v hv => fin _ _ mFq.rf ?_) (tM (sT σ)) 0 (by omega) _ rfl), fun z7 => ⟨fun z => fin _ _ mFq.rf ?_, fun z8 => ⟨fun z => fin _ _ mFq.rf ?_, fun z9 => ⟨fun z => fin _ _ mFq.rf ?_, fun z10 => ⟨fun z => ?_, fun z11 => ⟨fun z => xm_cut hm (l12 (fun v hv => fin _ _ mFq.rf ?_) (tN (sT σ)) 0 (by omega) _ rfl), fun z12 => ⟨fun z => ⟨(lv, sT σ, sC σ), ⟨rfl, i0⟩, ?_⟩, fun z13 => ⟨fun z => xm_cut hm (l14 (fun v hv => fin _ _ mFq.rf ?_) 36 0 rfl _ rfl), fun z14 => ⟨fun z => xm_cut hm (l15 (fun v hv => fin _ _ mFq.rf ?_) (tM (sT σ)) 0 (by omega) _ rfl), fun z15 => ⟨fun z => xm_cut hm (l16 (fun v hv => fin _ _ mFq.rf ?_) (tM (sT σ)) 0 (by omega) 0 (by decide) (fun q hq => ?_) _ rfl), fun z16 => ⟨fun z => ⟨(lv, tM (sT σ), vNx (sT σ) (sC σ)), ⟨rfl, d0⟩, vLonely (sT σ) (sC σ), ⟨rfl, vLonely_lt h.1.1 _⟩, fin _ _ mFq.rf ?_⟩, fun z17 => fin _ _ mFq.rf ?_⟩⟩⟩⟩⟩⟩⟩⟩⟩⟩⟩⟩⟩⟩⟩⟩⟩⟩
    · rw [if_pos z, i0.n]
    · rw [if_neg z0, if_pos z, i0.m]
    · rw [if_neg z0, if_neg z1, if_pos z, i0.2.2.2.2.2.1]
    · rw [if_neg z0, if_neg z1, if_neg z2, if_pos z]
    · rw [if_neg z0, if_neg z1, if_neg z2, if_neg z3, if_pos z]
    · rintro o g1 ⟨rfl, f1⟩
      exact fin _ _ f1.q (by rw [if_neg z0, if_neg z1, if_neg z2, if_neg z3, if_neg z4, if_pos z])
    · rw [if_neg z0, if_neg z1, if_neg z2, if_neg z3, if_neg z4, if_neg z5, if_pos z, i0.2.2.2.2.2.2]
    · rw [if_neg z0, if_neg z1, if_neg z2, if_neg z3, if_neg z4, if_neg z5, if_neg z6, if_pos z, hv]
    · rw [if_neg z0, if_neg z1, if_neg z2, if_neg z3, if_neg z4, if_neg z5, if_neg z6, if_neg z7, if_pos z, h0.2.2.2.1.1]
    · rw [if_neg z0, if_neg z1, if_neg z2, if_neg z3, if_neg z4, if_neg z5, if_neg z6, if_neg z7, if_neg z8, if_pos z, h0.2.2.2.2.2.1.1]
    · rw [if_neg z0, if_neg z1, if_neg z2, if_neg z3, if_neg z4, if_neg z5, if_neg z6, if_neg z7, if_neg z8, if_neg z9, if_pos z, h0.2.2.2.2.2.2.1.1]
    · have fin11 : ∀ v, v = ((if (sL σ 0).isSome then (1 : Int32) else 0) + (if (sL σ 1).isSome then 1 else 0)) + (if (sL σ 2).isSome then 1 else 0) → Q (some (.int v)) g0 := fun v hv => fin _ _ mFq.rf (by rw [if_neg z0, if_neg z1, if_neg z2, if_neg z3, if_neg z4, if_neg z5, if_neg z6, if_neg z7, if_neg z8, if_neg z9, if_neg z10, if_pos z, ub_ct_mask, hv])
      have b0 : ∀ {b : Bool} {x : Int32}, x = (if b then 1 else 0) → x = 0 → (if b then (1 : Int32) else 0) = 0 := fun h1 h2 => by rw [← h1, h2]
      have b1 : ∀ {b : Bool} {x : Int32}, x = (if b then 1 else 0) → ¬ x = 0 → (if b then (1 : Int32) else 0) = 1 := fun {b} {x} h1 h2 => by
        cases b with
        | true => rfl
        | false => exact absurd h1 h2
      refine ⟨0, ⟨by decide, rfl⟩, ⟨fun y0 => ⟨1, ⟨by decide, rfl⟩, ⟨fun y1 => ⟨2, ⟨by decide, rfl⟩, ⟨fun y2 => fin11 _ ?_, fun y2 => fin11 _ ?_⟩⟩, fun y1 => ⟨2, ⟨by decide, rfl⟩, ⟨fun y2 => fin11 _ ?_, fun y2 => fin11 _ ?_⟩⟩⟩⟩, fun y0 => ⟨1, ⟨by decide, rfl⟩, ⟨fun y1 => ⟨2, ⟨by decide, rfl⟩, ⟨fun y2 => fin11 _ ?_, fun y2 => fin11 _ ?_⟩⟩, fun y1 => ⟨2, ⟨by decide, rfl⟩, ⟨fun y2 => fin11 _ ?_, fun y2 => fin11 _ ?_⟩⟩⟩⟩⟩⟩
      all_goals
        first
        | rw [b0 hd0 y0, b0 hd1 y1, b0 hd2 y2]
        | rw [b0 hd0 y0, b0 hd1 y1, b1 hd2 y2]
        | rw [b0 hd0 y0, b1 hd1 y1, b0 hd2 y2]
        | rw [b0 hd0 y0, b1 hd1 y1, b1 hd2 y2]
        | rw [b1 hd0 y0, b0 hd1 y1, b0 hd2 y2]
        | rw [b1 hd0 y0, b0 hd1 y1, b1 hd2 y2]
        | rw [b1 hd0 y0, b1 hd1 y1, b0 hd2 y2]
        | rw [b1 hd0 y0, b1 hd1 y1, b1 hd2 y2]
    · rw [if_neg z0, if_neg z1, if_neg z2, if_neg z3, if_neg z4, if_neg z5, if_neg z6, if_neg z7, if_neg z8, if_neg z9, if_neg z10, if_neg z11, if_pos z, hv]
    · rintro o g1 ⟨rfl, f1⟩
      exact fin _ _ f1.q (by rw [if_neg z0, if_neg z1, if_neg z2, if_neg z3, if_neg z4, if_neg z5, if_neg z6, if_neg z7, if_neg z8, if_neg z9, if_neg z10, if_neg z11, if_neg z12, if_pos z, e51])
    · rw [if_neg z0, if_neg z1, if_neg z2, if_neg z3, if_neg z4, if_neg z5, if_neg z6, if_neg z7, if_neg z8, if_neg z9, if_neg z10, if_neg z11, if_neg z12, if_neg z13, if_pos z, vSum_nI, hv]
    · rw [if_neg z0, if_neg z1, if_neg z2, if_neg z3, if_neg z4, if_neg z5, if_neg z6, if_neg z7, if_neg z8, if_neg z9, if_neg z10, if_neg z11, if_neg z12, if_neg z13, if_neg z14, if_pos z, hv]
    · rw [if_neg z0, if_neg z1, if_neg z2, if_neg z3, if_neg z4, if_neg z5, if_neg z6, if_neg z7, if_neg z8, if_neg z9, if_neg z10, if_neg z11, if_neg z12, if_neg z13, if_neg z14, if_neg z15, if_pos z, hv]
    · rw [Nat.zero_testBit]
      exact ⟨fun y => absurd y (by decide), fun ⟨j, j1, _⟩ => absurd j1 (by omega)⟩
    · rw [if_neg z0, if_neg z1, if_neg z2, if_neg z3, if_neg z4, if_neg z5, if_neg z6, if_neg z7, if_neg z8, if_neg z9, if_neg z10, if_neg z11, if_neg z12, if_neg z13, if_neg z14, if_neg z15, if_neg z16, if_pos z]
    · rw [if_neg z0, if_neg z1, if_neg z2, if_neg z3, if_neg z4, if_neg z5, if_neg z6, if_neg z7, if_neg z8, if_neg z9, if_neg z10, if_neg z11, if_neg z12, if_neg z13, if_neg z14, if_neg z15, if_neg z16, if_neg z17]
