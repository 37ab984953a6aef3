-- who can stand on the right of whom, as the reference keeps it
def mJn (m : Nat) (nx : Nat → Nat) (g : xG) : Prop := ∀ p q, p < 6 → q < 6 → g.1 36 (6 * p + q) = if decide (p < m) && (nx p).testBit q then 1 else 0
def mDq (lv m : Nat) (nx : Nat → Nat) (g : xG) : Prop := lv < 2 ∧ m ≤ 6 ∧ g.1 0 18 = nI lv ∧ g.1 14 lv = nI m ∧ (∀ p, p < m → nx p < 2 ^ m) ∧ mJn m nx g
theorem mDq.l {lv m : Nat} {nx : Nat → Nat} {g : xG} (h : mDq lv m nx g) : g.1 0 18 = nI lv := h.2.2.1
theorem mDq.m {lv m : Nat} {nx : Nat → Nat} {g : xG} (h : mDq lv m nx g) : g.1 14 lv = nI m := h.2.2.2.1
theorem xn_d6 : ∀ k, k < 36 → nI k / 6 = nI (k / 6) := by decide +kernel
theorem xn_r6 : ∀ k, k < 36 → nI k - nI k / 6 * 6 = nI (k % 6) := by decide +kernel
theorem bi_if {b : Bool} : (if b then (1 : Int32) else 0) = 0 ↔ b = false := by cases b <;> simp
theorem bi_01 (b : Bool) : (if b then (1 : Int32) else 0) = 0 ∨ (if b then (1 : Int32) else 0) = 1 := by cases b <;> simp
def xt_X9_fillsJoins : xT := xm_rl (Z := Nat × vS) (fun (lv, σ) av g => av = [.ref 0] ∧ mTp lv σ g) (fun (lv, σ) g o g' => o = none ∧ mIn lv (sT σ) (sC σ) g' ∧ mFq g g' ∧ mDq lv (tM (sT σ)) (vNx (sT σ) (sC σ)) g' ∧ g'.1 0 51 = tS (sT σ) ∧ g'.1 0 52 = 0)
set_option maxRecDepth 100000 in
set_option maxHeartbeats 400000 in
theorem xp_X9_fillsJoins {l : Launch} {D : va_G} {cA : Nat → ClassId} {B : List (Nat × Cell)} : xm_Met l D cA B xs_M 3 yX9_fillsJoins cX9_fillsJoins 2 none xt_X9_fillsJoins := by
  have hm : xm_monos [xt_X9_copies, xt_X9_isPerson, xt_X9_doJoin] := ⟨(by first | exact xm_fn_mono _ _ _ | exact xm_rl_mono _ _), (by first | exact xm_fn_mono _ _ _ | exact xm_rl_mono _ _), (by first | exact xm_fn_mono _ _ _ | exact xm_rl_mono _ _), trivial⟩
  refine xm_meth (own := RX9) (ks := xk_X9_fillsJoins) (C := xc_X9_fillsJoins) (Ts := [xt_X9_copies, xt_X9_isPerson, xt_X9_doJoin]) (by decide +kernel) rfl xm_clsok xs_M_ok xf_X9_ok xi_X9_ok xj_X9_ok (xm_lk xl_X9_320 xp_X9_copies (by decide) (xm_lk xl_X9_412 xp_X9_isPerson (by decide) (xm_lk xl_X9_349 xp_X9_doJoin (by decide) xm_lk0))) xo_X9_fillsJoins ?_ ?_
  · rintro av g Q ⟨z, ⟨rfl, -⟩, -⟩
    exact Nat.le_of_ble_eq_true rfl
  · rintro av g Q ⟨⟨lv, σ⟩, ⟨rfl, h⟩, hQ⟩
    dsimp only at h hQ
    have m6 := h.m6
    have hl := h.lv
    refine xm_run_go hm 20 ⟨(lv, σ), ⟨rfl, h⟩, ?_⟩
    rintro o g1 ⟨rfl, i1, f1, e1, e2⟩
    have inn : ∀ {g2 : xG}, (∀ k, k ≠ 36 → g2.1 k = g1.1 k) → g2.2 = g1.2 → mIn lv (sT σ) (sC σ) g2 ∧ mFq g1 g2 := fun {g2} a b => by
      have fq : mFq g1 g2 := ⟨fun k _ _ _ _ _ q _ _ => a k q, fun j _ _ _ => by rw [a 0 (by decide)], b⟩
      exact ⟨⟨i1.1, i1.2.1, i1.2.2.1.q fq, i1.2.2.2.fr (a 33 (by decide))⟩, fq⟩
    have val : ∀ p q, p < 6 → q < 6 → ((decide (p < tM (sT σ)) && (vNx (sT σ) (sC σ) p).testBit q) = true ↔ (p ≠ q ∧ p < tM (sT σ) ∧ q < tM (sT σ) ∧ vJ (sT σ) (sC σ) p q)) := fun p q hp hq => by
      rw [Bool.and_eq_true, decide_eq_true_eq, vNx, uB_bit]
      exact ⟨fun z => ⟨z.2.2.1, z.1, z.2.1, z.2.2.2⟩, fun z => ⟨z.2.1, z.2.2.1, z.1, z.2.2.2⟩⟩
    have loop : ∀ d k, k + d = 36 → ∀ g2, (∀ k, k ≠ 36 → g2.1 k = g1.1 k) → g2.2 = g1.2 → (∀ j, j < k → g2.1 36 j = if decide (j / 6 < tM (sT σ)) && (vNx (sT σ) (sC σ) (j / 6)).testBit (j % 6) then 1 else 0) → xm_go xs_M xk_X9_fillsJoins [xt_X9_copies, xt_X9_isPerson, xt_X9_doJoin] xc_X9_fillsJoins Q (xm_drop 4 xc_X9_fillsJoins) [.ref 0, .int (nI k)] [] g2 := by
      intro d
      induction d with
      | zero =>
        intro k hk g2 a b c
        have hk : k = 36 := by omega
        subst hk
        obtain ⟨i2, f2⟩ := inn a b
        refine xm_run_go hm 20 ⟨fun _ => hQ _ _ ⟨rfl, i2, f1.tr f2, ⟨hl, m6, i2.l, i2.m, fun p hp => uB_lt2, fun p q hp hq => ?_⟩, (by rw [a 0 (by decide)]; exact e1), (by rw [a 0 (by decide)]; exact e2)⟩, fun z => absurd z (by decide)⟩
        have := c (6 * p + q) (by omega)
        rw [show (6 * p + q) / 6 = p by omega, show (6 * p + q) % 6 = q by omega] at this
        exact this
      | succ d ih =>
        intro k hk g2 a b c
        have k36 : k < 36 := by omega
        obtain ⟨i2, f2⟩ := inn a b
        have p6 : k / 6 < 6 := by omega
        have q6 : k % 6 < 6 := by omega
        have d6 := xn_d6 k k36
        have r6 := xn_r6 k k36
        have v := val (k / 6) (k % 6) p6 q6
        have nx : ∀ x, x = (if decide (k / 6 < tM (sT σ)) && (vNx (sT σ) (sC σ) (k / 6)).testBit (k % 6) then 1 else 0) → xm_go xs_M xk_X9_fillsJoins [xt_X9_copies, xt_X9_isPerson, xt_X9_doJoin] xc_X9_fillsJoins Q (xm_drop 4 xc_X9_fillsJoins) [.ref 0, .int (nI k + 1)] [] (xm_sI g2 36 k x) := fun x hx => by
          rw [nI_1]
          refine ih (k + 1) (by omega) _ (fun j hj => (xg_off _ _ _ hj).trans (a j hj)) b (fun j hj => ?_)
          rw [xg_in]
          by_cases z : j = k
          · rw [if_pos z, z]; exact hx
          · rw [if_neg z]; exact c j (by omega)
        have zero : ¬ (k / 6 ≠ k % 6 ∧ k / 6 < tM (sT σ) ∧ k % 6 < tM (sT σ) ∧ vJ (sT σ) (sC σ) (k / 6) (k % 6)) → xm_go xs_M xk_X9_fillsJoins [xt_X9_copies, xt_X9_isPerson, xt_X9_doJoin] xc_X9_fillsJoins Q (xm_drop 4 xc_X9_fillsJoins) [.ref 0, .int (nI k + 1)] [] (xm_sI g2 36 k 0) := fun q => nx 0 (by
          cases hb : (decide (k / 6 < tM (sT σ)) && (vNx (sT σ) (sC σ) (k / 6)).testBit (k % 6)) with
          | false => rfl
          | true => exact absurd (v.mp hb) q)
        have one : (k / 6 ≠ k % 6 ∧ k / 6 < tM (sT σ) ∧ k % 6 < tM (sT σ) ∧ vJ (sT σ) (sC σ) (k / 6) (k % 6)) → xm_go xs_M xk_X9_fillsJoins [xt_X9_copies, xt_X9_isPerson, xt_X9_doJoin] xc_X9_fillsJoins Q (xm_drop 4 xc_X9_fillsJoins) [.ref 0, .int (nI k + 1)] [] (xm_sI g2 36 k 1) := fun q => nx 1 (by rw [v.mpr q]; rfl)
        have is : ∀ j, j < 6 → (vIs (tM (sT σ)) (nI j) = 0 ↔ ¬ j < tM (sT σ)) := fun j hj => by
          by_cases z : j < tM (sT σ)
          · rw [vIs_y z (by omega)]; exact ⟨fun y => absurd y (by decide), fun y => absurd z y⟩
          · rw [vIs_n (fun y => z ((nI_ltI (by omega) (by omega)).mp y.2))]; exact ⟨fun _ => z, fun _ => rfl⟩
        have m9 : tM (sT σ) < 100 := h.m9
        have ea : [Value.ref 0, .int (nI k / 6), .int (nI k - nI k / 6 * 6)] = [Value.ref 0, .int (nI (k / 6)), .int (nI (k % 6))] := by rw [r6, d6]
        refine xm_run_go hm 80 ⟨fun z => absurd z (nI_ge (b := 36) k36 (by decide)), fun _ => ⟨by decide, by decide, ⟨fun z => ⟨k, ⟨k36, rfl, Or.inl rfl⟩, xm_cut hm (zero ?_)⟩, fun z => ⟨by decide, (nI k / 6, lv, tM (sT σ)), ⟨rfl, hl, m9, i2.l, i2.m⟩, ⟨fun y => ⟨k, ⟨k36, rfl, Or.inl rfl⟩, xm_cut hm (zero ?_)⟩, fun y => ⟨by decide, (nI k - nI k / 6 * 6, lv, tM (sT σ)), ⟨rfl, hl, m9, i2.l, i2.m⟩, ⟨fun x => ⟨k, ⟨k36, rfl, Or.inl rfl⟩, xm_cut hm (zero ?_)⟩, fun x => ⟨by decide, by decide, (k / 6, k % 6, lv, sT σ, sC σ), ⟨ea, p6, q6, i2⟩, ⟨fun w => ⟨k, ⟨k36, rfl, Or.inl rfl⟩, xm_cut hm (zero ?_)⟩, fun w => ⟨k, ⟨k36, rfl, Or.inr rfl⟩, xm_cut hm (one ?_)⟩⟩⟩⟩⟩⟩⟩⟩⟩⟩
        · rw [r6, d6] at z
          exact fun q => q.1 ((nI_eq (by omega) (by omega)).mp z)
        · rw [d6] at y
          exact fun q => (is _ p6).mp y q.2.1
        · rw [r6] at x
          exact fun q => (is _ q6).mp x q.2.2.1
        · exact fun q => by rw [vB_t q.2.2.2] at w; exact absurd w (by decide)
        · rw [r6, d6] at z
          rw [d6] at y
          rw [r6] at x
          exact ⟨fun e => z (by rw [e]), Classical.byContradiction (fun e => y ((is _ p6).mpr e)), Classical.byContradiction (fun e => x ((is _ q6).mpr e)), Classical.byContradiction (fun e => w (vB_f e))⟩
    exact xm_cut hm (loop 36 0 rfl g1 (fun _ _ => rfl) rfl (fun j hj => absurd hj (by omega)))
def xt_X9_all : xT := xm_fn (Z := Nat × Nat × (Nat → Nat)) (fun (lv, m, nx) av g => av = [.ref 0] ∧ mDq lv m nx g) (fun (lv, m, nx) _ => some (.int (nI (2 ^ m - 1)))) (fun _ g => g)
set_option maxRecDepth 100000 in
set_option maxHeartbeats 400000 in
theorem xp_X9_all {l : Launch} {D : va_G} {cA : Nat → ClassId} {B : List (Nat × Cell)} : xm_Met l D cA B xs_M 0 yX9_all cX9_all 1 (some .int) xt_X9_all := by
  have hm : xm_monos [] := xm_m0
  refine xm_meth (own := RX9) (ks := xk_X9_all) (C := xc_X9_all) (Ts := []) (by decide +kernel) rfl xm_clsok xs_M_ok xf_X9_ok xi_X9_ok xj_X9_ok xm_lk0 xo_X9_all ?_ ?_
  · rintro av g Q ⟨z, ⟨rfl, -⟩, -⟩
    exact Nat.le_of_ble_eq_true rfl
  · rintro av g Q ⟨⟨lv, m, nx⟩, ⟨rfl, h⟩, hQ⟩
    dsimp only at h hQ
    refine xm_run_go hm 20 ⟨lv, ⟨h.1, h.l⟩, xq_i hQ ?_⟩
    rw [h.m, ub_all m h.2.1]
def vLeft (m u p : Nat) : Bool := decide (p < m) && !u.testBit p
def xt_X9_isLeft : xT := xm_fn (Z := Nat × Nat × Nat × Nat × (Nat → Nat)) (fun (p, u, lv, m, nx) av g => av = [.ref 0, .int (nI p), .int (nI u)] ∧ p < 6 ∧ u < 64 ∧ mDq lv m nx g) (fun (p, u, lv, m, nx) _ => some (.int (if vLeft m u p then 1 else 0))) (fun _ g => g)
set_option maxRecDepth 100000 in
set_option maxHeartbeats 400000 in
theorem xp_X9_isLeft {l : Launch} {D : va_G} {cA : Nat → ClassId} {B : List (Nat × Cell)} : xm_Met l D cA B xs_M 2 yX9_isLeft cX9_isLeft 3 (some .boolean) xt_X9_isLeft := by
  have hm : xm_monos [xt_X9_isPerson] := ⟨(by first | exact xm_fn_mono _ _ _ | exact xm_rl_mono _ _), trivial⟩
  refine xm_meth (own := RX9) (ks := xk_X9_isLeft) (C := xc_X9_isLeft) (Ts := [xt_X9_isPerson]) (by decide +kernel) rfl xm_clsok xs_M_ok xf_X9_ok xi_X9_ok xj_X9_ok (xm_lk xl_X9_412 xp_X9_isPerson (by decide) xm_lk0) xo_X9_isLeft ?_ ?_
  · rintro av g Q ⟨z, ⟨rfl, -⟩, -⟩
    exact Nat.le_of_ble_eq_true rfl
  · rintro av g Q ⟨⟨p, u, lv, m, nx⟩, ⟨rfl, hp, hu, h⟩, hQ⟩
    dsimp only at hp hu h hQ
    have m6 := h.2.1
    have m9 : m < 100 := by omega
    unfold vLeft at hQ
    by_cases pm : p < m
    · have z1 := vIs_y pm (by omega : m < 2 ^ 31)
      refine xm_run_go hm 30 ⟨(nI p, lv, m), ⟨rfl, h.1, m9, h.l, h.m⟩, ⟨fun z => ?_, fun _ => ⟨fun z => ⟨Or.inl rfl, xq_i hQ ?_⟩, fun z => ⟨Or.inr rfl, xq_i hQ ?_⟩⟩⟩⟩
      · rw [z1] at z; exact absurd z (by decide)
      · rw [ub_bit u hu p hp] at z
        cases hb : u.testBit p with
        | false => rw [hb] at z; exact absurd rfl z
        | true => simp
      · rw [ub_bit u hu p hp] at z
        cases hb : u.testBit p with
        | false => simp [pm]
        | true => rw [hb] at z; exact absurd z (by decide)
    · have z1 : vIs m (nI p) = 0 := vIs_n (fun y => pm ((nI_ltI (by omega) (by omega)).mp y.2))
      refine xm_run_go hm 30 ⟨(nI p, lv, m), ⟨rfl, h.1, m9, h.l, h.m⟩, ⟨fun _ => ⟨Or.inl rfl, xq_i hQ ?_⟩, fun z => absurd z1 z⟩⟩
      simp [pm]
def xt_X9_restWith : xT := xm_fn (Z := Nat × Nat) (fun (u, p) av g => av = [.ref 0, .int (nI u), .int (nI p)] ∧ p < 6 ∧ u < 64) (fun (u, p) g => some (.int (g.1 37 (6 * (u ||| 2 ^ p) + p)))) (fun _ g => g)
set_option maxRecDepth 100000 in
set_option maxHeartbeats 400000 in
theorem xp_X9_restWith {l : Launch} {D : va_G} {cA : Nat → ClassId} {B : List (Nat × Cell)} : xm_Met l D cA B xs_M 0 yX9_restWith cX9_restWith 3 (some .int) xt_X9_restWith := by
  have hm : xm_monos [] := xm_m0
  refine xm_meth (own := RX9) (ks := xk_X9_restWith) (C := xc_X9_restWith) (Ts := []) (by decide +kernel) rfl xm_clsok xs_M_ok xf_X9_ok xi_X9_ok xj_X9_ok xm_lk0 xo_X9_restWith ?_ ?_
  · rintro av g Q ⟨z, ⟨rfl, -⟩, -⟩
    exact Nat.le_of_ble_eq_true rfl
  · rintro av g Q ⟨⟨u, p⟩, ⟨rfl, hp, hu⟩, hQ⟩
    dsimp only at hp hu hQ
    have lt := ub_orlt hu (ub_pow hp)
    refine xm_run_go hm 30 ⟨6 * (u ||| 2 ^ p) + p, ⟨by omega, ?_⟩, hQ⟩
    rw [ub_or1 u hu p hp, xn_6]
-- sets and the maximum
theorem vMx_cong {w w' : Nat → Nat} : ∀ {n : Nat}, (∀ k, k < n → w k = w' k) → vMx w n = vMx w' n
  | 0, _ => rfl
  | n + 1, h => by
    simp only [vMx]
    rw [vMx_cong (fun k hk => h k (by omega)), h n (by omega)]
theorem vMx_pred (w : Nat → Nat) : ∀ n, vMx (fun p => w p - 1) n = vMx w n - 1
  | 0 => rfl
  | n + 1 => by
    simp only [vMx]
    rw [vMx_pred w n]
    by_cases h : vMx w n < w n
    · rw [if_pos h]
      by_cases h2 : vMx w n - 1 < w n - 1
      · rw [if_pos h2]
      · rw [if_neg h2]; omega
    · rw [if_neg h, if_neg (by omega)]
theorem vMx_ar_lt {w : Nat → Nat} : ∀ {n k : Nat}, k < vAr w n → k < n → w k < vMx w n
  | 0, k, h, _ => absurd h (by simp [vAr])
  | n + 1, k, h, hn => by
    unfold vMx vAr at *
    by_cases z : vMx w n < w n
    · rw [if_pos z] at h ⊢
      exact Nat.lt_of_le_of_lt (vMx_ge h) z
    · rw [if_neg z] at h ⊢
      rcases Nat.lt_or_ge k n with q | q
      · exact vMx_ar_lt h q
      · have : k = n := by omega
        subst this
        exact absurd h (by
          have : ∀ n, vAr w n ≤ n := fun n => by
            induction n with
            | zero => exact Nat.le_refl _
            | succ n ih =>
              unfold vAr
              split <;> omega
          have := this k
          omega)
theorem vMs_in {u p m : Nat} (hp : p < m) (hb : u.testBit p = false) : vMs (u ||| 2 ^ p) m + 1 = vMs u m := by
  have := vMs_or hb m
  rw [if_pos hp] at this
  exact this
theorem ub_or_lt2 {u p m : Nat} (hu : u < 2 ^ m) (hp : p < m) : u ||| 2 ^ p < 2 ^ m := Nat.or_lt_two_pow hu (Nat.pow_lt_pow_right (by omega) hp)
theorem ub_or_gt {u p : Nat} (hb : u.testBit p = false) : u < u ||| 2 ^ p := by
  refine Nat.lt_of_le_of_ne (Nat.left_le_or) (fun e => ?_)
  have : (u ||| 2 ^ p).testBit p = true := by rw [ub_tor]; simp
  rw [← e, hb] at this
  cases this
theorem p2_le {m : Nat} (h : m ≤ 6) : 2 ^ m ≤ 64 := Nat.pow_le_pow_right (n := 2) (by omega) h
theorem p2_pos (m : Nat) : 0 < 2 ^ m := Nat.pow_pos (by omega)
