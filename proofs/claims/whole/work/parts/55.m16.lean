-- in how many rows all join
def mBs (nx : Nat → Nat) (m : Nat) (o : Option Nat) (L : Nat) : Nat := match o with
  | none => 1
  | some F => if decide (1 < m) && (nx L).testBit F then 1 else 0
def mRr (nx : Nat → Nat) (m : Nat) (o : Option Nat) (u L : Nat) : Nat := match o with
  | none => vFu nx m (vMs u m) L u
  | some F => vCl nx m (vMs u m) L u F
theorem mRr_rec (nx : Nat → Nat) {m u L : Nat} (o : Option Nat) (hL : L ≠ 7) : (if vMs u m = 0 then mBs nx m o L else 0) + vSn (fun p => if vCf nx L u p then mRr nx m o (u ||| 2 ^ p) p else 0) m = mRr nx m o u L := by
  cases hf : vMs u m with
  | zero =>
    rw [if_pos rfl, vSn_zero (fun p hp => by
      have := vMs_zero hf p hp
      rw [vCf, this]; rfl), Nat.add_zero]
    unfold mRr mBs
    rw [hf]
    cases o <;> rfl
  | succ f =>
    rw [if_neg (by omega), Nat.zero_add]
    have e2 : ∀ p, p < m → vCf nx L u p = true → vMs (u ||| 2 ^ p) m = f := fun p hp hc => by
      have e := vMs_in hp (vCf_in hc)
      omega
    cases o with
    | none =>
      unfold mRr
      rw [hf]
      show _ = vSn (fun p => if vCf nx L u p then vFu nx m f p (u ||| 2 ^ p) else 0) m
      refine vSn_cong fun p hp => ?_
      cases hc : vCf nx L u p with
      | false => rfl
      | true =>
        show vFu nx m (vMs (u ||| 2 ^ p) m) p (u ||| 2 ^ p) = _
        rw [e2 p hp hc]; rfl
    | some F =>
      unfold mRr
      rw [hf]
      show _ = vSn (fun p => if vCf nx L u p then vCl nx m f p (u ||| 2 ^ p) (if L = 7 then p else F) else 0) m
      refine vSn_cong fun p hp => ?_
      cases hc : vCf nx L u p with
      | false => rfl
      | true =>
        show vCl nx m (vMs (u ||| 2 ^ p) m) p (u ||| 2 ^ p) F = vCl nx m f p (u ||| 2 ^ p) (if L = 7 then p else F)
        rw [e2 p hp hc, if_neg hL]
theorem vMs_full {u m : Nat} (hu : u < 2 ^ m) : vMs u m = 0 ↔ u = 2 ^ m - 1 := by
  constructor
  · intro h
    refine Nat.eq_of_testBit_eq fun i => ?_
    rw [Nat.testBit_two_pow_sub_one]
    by_cases z : i < m
    · rw [vMs_zero h i z, decide_eq_true z]
    · rw [decide_eq_false z]
      exact Nat.testBit_lt_two_pow (Nat.lt_of_lt_of_le hu (Nat.pow_le_pow_right (by omega) (by omega)))
  · intro h
    subst h
    have : ∀ k, k ≤ m → vMs (2 ^ m - 1) k = 0 := fun k => by
      induction k with
      | zero => intro _; rfl
      | succ k ih =>
        intro hk
        unfold vMs
        rw [ih (by omega), Nat.testBit_two_pow_sub_one, decide_eq_true (show k < m by omega)]; rfl
    exact this m (Nat.le_refl _)
def mFi (o : Option Nat) (m : Nat) (x : Int32) : Prop := (o = none ∧ x = -1) ∨ ∃ F, o = some F ∧ F < m ∧ 1 < m ∧ x = nI F
def xt_X9_fillsRows : xT := xm_rl (Z := Option Nat × Int32 × Nat × Nat × (Nat → Nat)) (fun (o, x, lv, m, nx) av g => av = [.ref 0, .int x] ∧ mFi o m x ∧ mDq lv m nx g) (fun (o, x, lv, m, nx) g r g' => r = none ∧ mF37 g g' ∧ mTb (mRr nx m o) 1 m g')
set_option maxRecDepth 100000 in
set_option maxHeartbeats 400000 in
theorem xp_X9_fillsRows {l : Launch} {D : va_G} {cA : Nat → ClassId} {B : List (Nat × Cell)} : xm_Met l D cA B xs_M 3 yX9_fillsRows cX9_fillsRows 6 none xt_X9_fillsRows := by
  have hm : xm_monos [xt_X9_all, xt_X9_isLeft, xt_X9_restWith] := ⟨(by first | exact xm_fn_mono _ _ _ | exact xm_rl_mono _ _), (by first | exact xm_fn_mono _ _ _ | exact xm_rl_mono _ _), (by first | exact xm_fn_mono _ _ _ | exact xm_rl_mono _ _), trivial⟩
  refine xm_meth (own := RX9) (ks := xk_X9_fillsRows) (C := xc_X9_fillsRows) (Ts := [xt_X9_all, xt_X9_isLeft, xt_X9_restWith]) (by decide +kernel) rfl xm_clsok xs_M_ok xf_X9_ok xi_X9_ok xj_X9_ok (xm_lk xl_X9_430 xp_X9_all (by decide) (xm_lk xl_X9_433 xp_X9_isLeft (by decide) (xm_lk xl_X9_436 xp_X9_restWith (by decide) xm_lk0))) xo_X9_fillsRows ?_ ?_
  · rintro av g Q ⟨z, ⟨rfl, -⟩, -⟩
    exact Nat.le_of_ble_eq_true rfl
  · rintro av g0 Q ⟨⟨fo, x1, lv, m, nx⟩, ⟨rfl, hx1, d0⟩, hQ⟩
    dsimp only at hx1 d0 hQ
    have m6 := d0.2.1
    have hl := d0.1
    have p64 := p2_le m6
    have p0 := p2_pos m
    have inner : ∀ u, 0 < u → u < 2 ^ m → ∀ L, L < m → ∀ g1, mF37 g0 g1 → mTb (mRr nx m fo) (u + 1) m g1 → ∀ n0, (∀ x, x = nI (n0 + vSn (fun p => if vCf nx L u p then mRr nx m fo (u ||| 2 ^ p) p else 0) m) → ∀ w5, xm_go xs_M xk_X9_fillsRows [xt_X9_all, xt_X9_isLeft, xt_X9_restWith] xc_X9_fillsRows Q (xm_drop 65 xc_X9_fillsRows) [.ref 0, .int x1, .int (nI u), .int (nI L), .int x, w5] [] g1) →
        ∀ d p, p + d = m → ∀ x, x = nI (n0 + vSn (fun p => if vCf nx L u p then mRr nx m fo (u ||| 2 ^ p) p else 0) p) → xm_go xs_M xk_X9_fillsRows [xt_X9_all, xt_X9_isLeft, xt_X9_restWith] xc_X9_fillsRows Q (xm_drop 35 xc_X9_fillsRows) [.ref 0, .int x1, .int (nI u), .int (nI L), .int x, .int (nI p)] [] g1 := by
      intro u u0 hu L hL g1 f1 tb n0 hout d
      have d1 := d0.f f1
      have u64 : u < 64 := by omega
      induction d with
      | zero =>
        intro p hp x hx
        have hp : p = m := by omega
        subst hp
        refine xm_run_go hm 7 ⟨lv, ⟨hl, d1.l⟩, ⟨fun _ => hout x hx _, fun z => ?_⟩⟩
        rw [d1.m] at z
        exact absurd z (nI_nlt (Nat.le_refl _) (by omega))
      | succ d ih =>
        intro p hp x hx
        have pm : p < m := by omega
        have p6 : p < 6 := by omega
        have nx1 := ih (p + 1) (by omega)
        rw [nI_succ] at nx1
        have j1 := vJn_le nx L p
        have jv := d1.j hL p6
        have ix : 6 * nI L + nI p = nI (6 * L + p) := xn_6 L p
        have L7 : decide (L = 7) = false := decide_eq_false (by omega)
        have keep : vCf nx L u p = false → x = nI (n0 + vSn (fun p => if vCf nx L u p then mRr nx m fo (u ||| 2 ^ p) p else 0) (p + 1)) := fun z => by
          rw [vSn, z, hx]; rfl
        have add : vCf nx L u p = true → ∀ y, y = nI (mRr nx m fo (u ||| 2 ^ p) p) → x + y = nI (n0 + vSn (fun p => if vCf nx L u p then mRr nx m fo (u ||| 2 ^ p) p else 0) (p + 1)) := fun z y hy => by
          rw [vSn, z, hx, hy, nI_add, Nat.add_assoc]; rfl
        have cf0 : vJn nx L p = 0 → vCf nx L u p = false := fun z => by
          unfold vJn at z
          unfold vCf
          rw [decide_eq_true (show L ≠ 7 by omega), Bool.true_and] at z
          rw [L7, Bool.false_or]
          cases hh : (nx L).testBit p with
          | false => rw [Bool.and_false]
          | true => rw [hh] at z; simp at z
        have cf1 : vJn nx L p = 1 → u.testBit p = false → vCf nx L u p = true := fun z y => by
          unfold vJn at z
          unfold vCf
          rw [decide_eq_true (show L ≠ 7 by omega), Bool.true_and] at z
          rw [L7, Bool.false_or, y]
          cases hh : (nx L).testBit p with
          | false => rw [hh] at z; simp at z
          | true => rfl
        cases hb : u.testBit p with
        | true =>
          have nl : vLeft m u p = false := by rw [vLeft, hb]; simp
          refine xm_run_go hm 60 ⟨lv, ⟨hl, d1.l⟩, ⟨fun z => ?_, fun _ => ⟨(p, u, lv, m, nx), ⟨rfl, p6, u64, d1⟩, ⟨fun _ => xm_cut hm (nx1 _ (keep (by rw [vCf, hb]; rfl))), fun z => ?_⟩⟩⟩⟩
          · rw [d1.m] at z
            exact absurd z (nI_ge pm (by omega))
          · rw [nl] at z; exact absurd rfl z
        | false =>
          have yl : vLeft m u p = true := by rw [vLeft, hb, decide_eq_true pm]; rfl
          have tv : g1.1 37 (6 * (u ||| 2 ^ p) + p) = nI (mRr nx m fo (u ||| 2 ^ p) p) := tb _ (ub_or_gt hb) (ub_or_lt2 hu pm) p pm
          refine xm_run_go hm 80 ⟨lv, ⟨hl, d1.l⟩, ⟨fun z => ?_, fun _ => ⟨(p, u, lv, m, nx), ⟨rfl, p6, u64, d1⟩, ⟨fun z => ?_, fun _ => ⟨6 * L + p, ⟨by omega, ix⟩, ⟨fun y => xm_cut hm (nx1 _ (keep (cf0 ?_))), fun y => ⟨(u, p), ⟨rfl, p6, u64⟩, xm_cut hm (nx1 _ (add (cf1 ?_ hb) _ tv))⟩⟩⟩⟩⟩⟩⟩
          · rw [d1.m] at z
            exact absurd z (nI_ge pm (by omega))
          · rw [yl] at z; exact absurd z (by decide)
          · rw [jv] at y
            exact (nI_eq (b := 0) (by omega) (by omega)).mp y
          · have : vJn nx L p ≠ 0 := fun e => y (by rw [jv, e]; rfl)
            omega
    have middle : ∀ u, 0 < u → u < 2 ^ m → (∀ g1, mF37 g0 g1 → mTb (mRr nx m fo) u m g1 → ∀ w3 w4 w5, xm_go xs_M xk_X9_fillsRows [xt_X9_all, xt_X9_isLeft, xt_X9_restWith] xc_X9_fillsRows Q (xm_drop 3 xc_X9_fillsRows) [.ref 0, .int x1, .int (nI u + -1), w3, w4, w5] [] g1) →
        ∀ d L, L + d = m → ∀ g1, mF37 g0 g1 → mTb (mRr nx m fo) (u + 1) m g1 → (∀ L', L' < L → g1.1 37 (6 * u + L') = nI (mRr nx m fo u L')) → ∀ w4 w5, xm_go xs_M xk_X9_fillsRows [xt_X9_all, xt_X9_isLeft, xt_X9_restWith] xc_X9_fillsRows Q (xm_drop 7 xc_X9_fillsRows) [.ref 0, .int x1, .int (nI u), .int (nI L), w4, w5] [] g1 := by
      intro u u0 hu hout d
      induction d with
      | zero =>
        intro L hL g1 f1 tb dn w4 w5
        have hL : L = m := by omega
        subst hL
        have d1 := d0.f f1
        refine xm_run_go hm 30 ⟨lv, ⟨hl, d1.l⟩, ⟨fun _ => xm_cut hm (hout g1 f1 (fun v hv1 hv2 L' hL' => ?_) _ _ _), fun z => ?_⟩⟩
        · by_cases z : v = u
          · rw [z]; exact dn L' hL'
          · exact tb v (by omega) hv2 L' hL'
        · rw [d1.m] at z
          exact absurd z (nI_nlt (Nat.le_refl _) (by omega))
      | succ d ih =>
        intro L hL g1 f1 tb dn w4 w5
        have d1 := d0.f f1
        have Lm : L < m := by omega
        have nx1 := ih (L + 1) (by omega)
        rw [nI_succ] at nx1
        have ix : 6 * nI u + nI L = nI (6 * u + L) := xn_6 u L
        have rc := mRr_rec nx (m := m) (u := u) (L := L) fo (by omega)
        have full := vMs_full hu
        have pe : nI u = nI (2 ^ m - 1) ↔ u = 2 ^ m - 1 := nI_eq (by omega) (by omega)
        have go : ∀ n0 x, n0 = (if vMs u m = 0 then mBs nx m fo L else 0) → x = nI n0 → xm_go xs_M xk_X9_fillsRows [xt_X9_all, xt_X9_isLeft, xt_X9_restWith] xc_X9_fillsRows Q (xm_drop 35 xc_X9_fillsRows) [.ref 0, .int x1, .int (nI u), .int (nI L), .int x, .int (nI 0)] [] g1 := fun n0 x hn hx => by
          refine inner u u0 hu L Lm g1 f1 tb n0 (fun x hx w5 => ?_) m 0 (by omega) x (by rw [hx]; rfl)
          rw [hn, rc] at hx
          refine xm_run_go hm 20 ⟨6 * u + L, ⟨by omega, ix⟩, xm_cut hm (nx1 _ (f1.p _ _) (fun v hv1 hv2 L' hL' => ?_) (fun L' hL' => ?_) _ _)⟩
          · rw [xg_in, if_neg (by omega)]; exact tb v hv1 hv2 L' hL'
          · rw [xg_in]
            by_cases z : L' = L
            · rw [if_pos (by omega), z]; exact hx
            · rw [if_neg (by omega)]; exact dn L' (by omega)
        have no : ¬ nI u = nI (2 ^ m - 1) → xm_go xs_M xk_X9_fillsRows [xt_X9_all, xt_X9_isLeft, xt_X9_restWith] xc_X9_fillsRows Q (xm_drop 35 xc_X9_fillsRows) [.ref 0, .int x1, .int (nI u), .int (nI L), .int 0, .int (nI 0)] [] g1 := fun z => go 0 0 (by rw [if_neg (fun y => z (pe.mpr (full.mp y)))]) rfl
        rcases hx1 with ⟨rfl, rfl⟩ | ⟨F, rfl, hF, m1, rfl⟩
        · refine xm_run_go hm 40 ⟨lv, ⟨hl, d1.l⟩, ⟨fun z => ?_, fun _ => ⟨(lv, m, nx), ⟨rfl, d1⟩, ⟨fun z => xm_cut hm (no z), fun z => ⟨fun _ => xm_cut hm (go 1 1 ?_ rfl), fun y => absurd y (by decide)⟩⟩⟩⟩⟩
          · rw [d1.m] at z
            exact absurd z (nI_ge Lm (by omega))
          · rw [if_pos (full.mpr (pe.mp z))]; rfl
        · have F6 : F < 6 := by omega
          have jv := d1.j Lm F6
          have j1 := vJn_le nx L F
          have iF : 6 * nI L + nI F = nI (6 * L + F) := xn_6 L F
          have bs : mBs nx m (some F) L = vJn nx L F := by
            unfold mBs vJn
            rw [decide_eq_true m1, decide_eq_true (show L ≠ 7 by omega)]
          refine xm_run_go hm 60 ⟨lv, ⟨hl, d1.l⟩, ⟨fun z => ?_, fun _ => ⟨(lv, m, nx), ⟨rfl, d1⟩, ⟨fun z => xm_cut hm (no z), fun z => ⟨fun y => absurd y (nI_pos (by omega)), fun _ => ⟨6 * L + F, ⟨by omega, iF⟩, ⟨fun y => xm_cut hm (go 0 0 ?_ rfl), fun y => xm_cut hm (go 1 1 ?_ rfl)⟩⟩⟩⟩⟩⟩⟩
          · rw [d1.m] at z
            exact absurd z (nI_ge Lm (by omega))
          · rw [if_pos (full.mpr (pe.mp z)), bs]
            rw [jv] at y
            exact ((nI_eq (b := 0) (by omega) (by omega)).mp y).symm
          · rw [if_pos (full.mpr (pe.mp z)), bs]
            have : vJn nx L F ≠ 0 := fun e => y (by rw [jv, e]; rfl)
            omega
    have outer : ∀ u, u < 2 ^ m → ∀ g1, mF37 g0 g1 → mTb (mRr nx m fo) (u + 1) m g1 → ∀ x, x = nI u → ∀ w3 w4 w5, xm_go xs_M xk_X9_fillsRows [xt_X9_all, xt_X9_isLeft, xt_X9_restWith] xc_X9_fillsRows Q (xm_drop 3 xc_X9_fillsRows) [.ref 0, .int x1, .int x, w3, w4, w5] [] g1 := by
      intro u
      induction u with
      | zero =>
        intro hu g1 f1 tb x hx w3 w4 w5
        refine xm_run_go hm 20 ⟨fun _ => hQ _ _ ⟨rfl, f1, tb⟩, fun z => ?_⟩
        rw [hx] at z; exact absurd z (by decide)
      | succ u ih =>
        intro hu g1 f1 tb x hx w3 w4 w5
        subst hx
        refine xm_run_go hm 20 ⟨fun z => absurd z (nI_nle (by omega) (by omega)), fun _ => xm_cut hm (middle (u + 1) (by omega) hu (fun g2 f2 tb2 w3 w4 w5 => ?_) m 0 (by omega) g1 f1 tb (fun L' hL' => absurd hL' (by omega)) _ _)⟩
        exact ih (by omega) g2 f2 tb2 _ (by rw [sb_m1 (by omega)]; rfl) _ _ _
    exact xm_run_go hm 20 ⟨(lv, m, nx), ⟨rfl, d0⟩, xm_cut hm (outer (2 ^ m - 1) (by omega) g0 mF37.rf (fun v hv1 hv2 => absurd hv1 (by omega)) _ rfl _ _ _)⟩
theorem vMs_one {m p : Nat} (hp : p < m) : vMs (0 ||| 2 ^ p) m + 1 = m := by
  have := vMs_in (u := 0) hp (Nat.zero_testBit p)
  rw [vMs_0] at this
  exact this
theorem vCf_0 (nx : Nat → Nat) (p : Nat) : vCf nx 7 0 p = true := by unfold vCf; simp
def xt_X9_fullRows : xT := xm_rl (Z := vS) (fun σ av g => av = [.ref 0] ∧ mTop σ g) (fun σ g o g' => o = some (.int (aFullRows σ)) ∧ mTop σ g')
set_option maxRecDepth 100000 in
set_option maxHeartbeats 400000 in
theorem xp_X9_fullRows {l : Launch} {D : va_G} {cA : Nat → ClassId} {B : List (Nat × Cell)} : xm_Met l D cA B xs_M 4 yX9_fullRows cX9_fullRows 3 (some .int) xt_X9_fullRows := by
  have hm : xm_monos [xt_X9_fillsJoins, xt_X9_fillsRows, xt_X9_restWith] := ⟨(by first | exact xm_fn_mono _ _ _ | exact xm_rl_mono _ _), (by first | exact xm_fn_mono _ _ _ | exact xm_rl_mono _ _), (by first | exact xm_fn_mono _ _ _ | exact xm_rl_mono _ _), trivial⟩
  refine xm_meth (own := RX9) (ks := xk_X9_fullRows) (C := xc_X9_fullRows) (Ts := [xt_X9_fillsJoins, xt_X9_fillsRows, xt_X9_restWith]) (by decide +kernel) rfl xm_clsok xs_M_ok xf_X9_ok xi_X9_ok xj_X9_ok (xm_lk xl_X9_427 xp_X9_fillsJoins (by decide) (xm_lk xl_X9_442 xp_X9_fillsRows (by decide) (xm_lk xl_X9_436 xp_X9_restWith (by decide) xm_lk0))) xo_X9_fullRows ?_ ?_
  · rintro av g Q ⟨z, ⟨rfl, -⟩, -⟩
    exact Nat.le_of_ble_eq_true rfl
  · rintro av g Q ⟨σ, ⟨rfl, ⟨lv, h⟩⟩, hQ⟩
    dsimp only at h hQ
    have m6 := h.m6
    have hl := h.lv
    unfold aFullRows at hQ
    by_cases m0 : tM (sT σ) = 0
    · have fin := hQ (some (.int 1)) g ⟨by rw [m0]; rfl, lv, h⟩
      refine xm_run_go hm 20 ⟨lv, ⟨hl, h.l⟩, ⟨fun z => ?_, fun _ => fin⟩⟩
      rw [h.m, m0] at z; exact absurd rfl z
    refine xm_run_go hm 40 ⟨lv, ⟨hl, h.l⟩, ⟨fun _ => ⟨(lv, σ), ⟨rfl, h⟩, ?_⟩, fun z => ?_⟩⟩
    · rintro o g0 ⟨rfl, i0, f0, d0, -, -⟩
      refine ⟨(none, -1, lv, tM (sT σ), vNx (sT σ) (sC σ)), ⟨rfl, Or.inl ⟨rfl, rfl⟩, d0⟩, ?_⟩
      rintro o g1 ⟨rfl, f1, tb⟩
      have d1 := d0.f f1
      have tot : vSn (fun p => mRr (vNx (sT σ) (sC σ)) (tM (sT σ)) none (0 ||| 2 ^ p) p) (tM (sT σ)) = vFu (vNx (sT σ) (sC σ)) (tM (sT σ)) (tM (sT σ)) 7 0 := by
        obtain ⟨k, hk⟩ : ∃ k, tM (sT σ) = k + 1 := ⟨tM (sT σ) - 1, by omega⟩
        rw [hk]
        show _ = vSn (fun p => if vCf (vNx (sT σ) (sC σ)) 7 0 p then vFu (vNx (sT σ) (sC σ)) (k + 1) k p (0 ||| 2 ^ p) else 0) (k + 1)
        refine vSn_cong fun p hp => ?_
        rw [vCf_0, mRr]
        have e : vMs (0 ||| 2 ^ p) (k + 1) = k := by have := vMs_one hp; omega
        rw [e]; rfl
      have loop : ∀ d p, p + d = tM (sT σ) → ∀ x, x = nI (vSn (fun p => mRr (vNx (sT σ) (sC σ)) (tM (sT σ)) none (0 ||| 2 ^ p) p) p) → xm_go xs_M xk_X9_fullRows [xt_X9_fillsJoins, xt_X9_fillsRows, xt_X9_restWith] xc_X9_fullRows Q (xm_drop 17 xc_X9_fullRows) [.ref 0, .int x, .int (nI p)] [] g1 := by
        intro d
        induction d with
        | zero =>
          intro p hp x hx
          have hp : p = tM (sT σ) := by omega
          subst hp
          rw [tot] at hx
          refine xm_run_go hm 20 ⟨lv, ⟨hl, d1.l⟩, ⟨fun _ => hQ _ _ ⟨by rw [hx], lv, h.q (f0.tr f1.q)⟩, fun z => ?_⟩⟩
          rw [d1.m] at z
          exact absurd z (nI_nlt (Nat.le_refl _) (by omega))
        | succ d ih =>
          intro p hp x hx
          have pm : p < tM (sT σ) := by omega
          have p6 : p < 6 := by omega
          have nx1 := ih (p + 1) (by omega)
          rw [nI_succ] at nx1
          refine xm_run_go hm 30 ⟨lv, ⟨hl, d1.l⟩, ⟨fun z => ?_, fun _ => ⟨(0, p), ⟨rfl, p6, by decide⟩, xm_cut hm (nx1 _ ?_)⟩⟩⟩
          · rw [d1.m] at z
            exact absurd z (nI_ge pm (by omega))
          · rw [vSn, hx, tb _ (by have := ub_or_gt (u := 0) (p := p) (Nat.zero_testBit p); omega) (ub_or_lt2 (p2_pos _) pm) p pm, nI_add]
      exact xm_cut hm (loop (tM (sT σ)) 0 (by omega) _ rfl)
    · rw [h.m] at z
      exact absurd ((nI_eq (b := 0) (by omega) (by omega)).mp z) m0
def xt_X9_rings : xT := xm_rl (Z := vS) (fun σ av g => av = [.ref 0] ∧ mTop σ g) (fun σ g o g' => o = some (.int (aRings σ)) ∧ mTop σ g')
set_option maxRecDepth 100000 in
set_option maxHeartbeats 400000 in
theorem xp_X9_rings {l : Launch} {D : va_G} {cA : Nat → ClassId} {B : List (Nat × Cell)} : xm_Met l D cA B xs_M 4 yX9_rings cX9_rings 3 (some .int) xt_X9_rings := by
  have hm : xm_monos [xt_X9_fillsJoins, xt_X9_fillsRows, xt_X9_restWith] := ⟨(by first | exact xm_fn_mono _ _ _ | exact xm_rl_mono _ _), (by first | exact xm_fn_mono _ _ _ | exact xm_rl_mono _ _), (by first | exact xm_fn_mono _ _ _ | exact xm_rl_mono _ _), trivial⟩
  refine xm_meth (own := RX9) (ks := xk_X9_rings) (C := xc_X9_rings) (Ts := [xt_X9_fillsJoins, xt_X9_fillsRows, xt_X9_restWith]) (by decide +kernel) rfl xm_clsok xs_M_ok xf_X9_ok xi_X9_ok xj_X9_ok (xm_lk xl_X9_427 xp_X9_fillsJoins (by decide) (xm_lk xl_X9_442 xp_X9_fillsRows (by decide) (xm_lk xl_X9_436 xp_X9_restWith (by decide) xm_lk0))) xo_X9_rings ?_ ?_
  · rintro av g Q ⟨z, ⟨rfl, -⟩, -⟩
    exact Nat.le_of_ble_eq_true rfl
  · rintro av g Q ⟨σ, ⟨rfl, ⟨lv, h⟩⟩, hQ⟩
    dsimp only at h hQ
    have m6 := h.m6
    have hl := h.lv
    unfold aRings at hQ
    by_cases m0 : tM (sT σ) < 2
    · have fin := hQ (some (.int 0)) g ⟨by
        have : tM (sT σ) = 0 ∨ tM (sT σ) = 1 := by omega
        rcases this with e | e <;> rw [e]
        · rfl
        · show _ = some (Value.int (nI (vSn (fun p => if vCf (vNx (sT σ) (sC σ)) 7 0 p then (if decide (1 < 1) && (vNx (sT σ) (sC σ) p).testBit p then 1 else 0) else 0) 1)))
          rw [vSn, vCf_0]; rfl, lv, h⟩
      refine xm_run_go hm 20 ⟨lv, ⟨hl, h.l⟩, ⟨fun z => ?_, fun _ => fin⟩⟩
      rw [h.m] at z
      exact absurd z (nI_ge (b := 2) m0 (by decide))
    refine xm_run_go hm 40 ⟨lv, ⟨hl, h.l⟩, ⟨fun _ => ⟨(lv, σ), ⟨rfl, h⟩, ?_⟩, fun z => ?_⟩⟩
    · rintro o g0 ⟨rfl, i0, f0, d0, -, -⟩
      have tot : vSn (fun p => mRr (vNx (sT σ) (sC σ)) (tM (sT σ)) (some p) (0 ||| 2 ^ p) p) (tM (sT σ)) = vCl (vNx (sT σ) (sC σ)) (tM (sT σ)) (tM (sT σ)) 7 0 0 := by
        obtain ⟨k, hk⟩ : ∃ k, tM (sT σ) = k + 1 := ⟨tM (sT σ) - 1, by omega⟩
        rw [hk]
        show _ = vSn (fun p => if vCf (vNx (sT σ) (sC σ)) 7 0 p then vCl (vNx (sT σ) (sC σ)) (k + 1) k p (0 ||| 2 ^ p) (if 7 = 7 then p else 0) else 0) (k + 1)
        refine vSn_cong fun p hp => ?_
        rw [vCf_0, mRr]
        have e : vMs (0 ||| 2 ^ p) (k + 1) = k := by have := vMs_one hp; omega
        rw [e]; rfl
      have loop : ∀ d p, p + d = tM (sT σ) → ∀ x, x = nI (vSn (fun p => mRr (vNx (sT σ) (sC σ)) (tM (sT σ)) (some p) (0 ||| 2 ^ p) p) p) → ∀ g1, mF37 g0 g1 → xm_go xs_M xk_X9_rings [xt_X9_fillsJoins, xt_X9_fillsRows, xt_X9_restWith] xc_X9_rings Q (xm_drop 15 xc_X9_rings) [.ref 0, .int x, .int (nI p)] [] g1 := by
        intro d
        induction d with
        | zero =>
          intro p hp x hx g1 f1
          have hp : p = tM (sT σ) := by omega
          subst hp
          have d1 := d0.f f1
          rw [tot] at hx
          refine xm_run_go hm 20 ⟨lv, ⟨hl, d1.l⟩, ⟨fun _ => hQ _ _ ⟨by rw [hx], lv, h.q (f0.tr f1.q)⟩, fun z => ?_⟩⟩
          rw [d1.m] at z
          exact absurd z (nI_nlt (Nat.le_refl _) (by omega))
        | succ d ih =>
          intro p hp x hx g1 f1
          have d1 := d0.f f1
          have pm : p < tM (sT σ) := by omega
          have p6 : p < 6 := by omega
          have nx1 := ih (p + 1) (by omega)
          rw [nI_succ] at nx1
          refine xm_run_go hm 30 ⟨lv, ⟨hl, d1.l⟩, ⟨fun z => ?_, fun _ => ⟨(some p, nI p, lv, tM (sT σ), vNx (sT σ) (sC σ)), ⟨rfl, Or.inr ⟨p, rfl, pm, by omega, rfl⟩, d1⟩, ?_⟩⟩⟩
          · rw [d1.m] at z
            exact absurd z (nI_ge pm (by omega))
          · rintro o g2 ⟨rfl, f2, tb⟩
            refine ⟨(0, p), ⟨rfl, p6, by decide⟩, xm_cut hm (nx1 _ ?_ g2 (f1.tr f2))⟩
            rw [vSn, hx, tb _ (by have := ub_or_gt (u := 0) (p := p) (Nat.zero_testBit p); omega) (ub_or_lt2 (p2_pos _) pm) p pm, nI_add]
      exact xm_cut hm (loop (tM (sT σ)) 0 (by omega) _ rfl g0 mF37.rf)
    · rw [h.m] at z
      exact absurd ((nI_ltI (b := 2) (by omega) (by omega)).mp z) m0
