-- the nearest way
theorem vAn_bit {nx : Nat → Nat} {u q : Nat} : ∀ {k : Nat}, (vAn nx u k).testBit q = true ↔ ∃ p, p < k ∧ u.testBit p = true ∧ (nx p).testBit q = true
  | 0 => by simp [vAn]
  | k + 1 => by
    unfold vAn
    by_cases h : u.testBit k = true
    · rw [if_pos h, Nat.testBit_or, Bool.or_eq_true, vAn_bit]
      constructor
      · rintro (⟨p, h1, h2⟩ | h2)
        · exact ⟨p, by omega, h2⟩
        · exact ⟨k, by omega, h, h2⟩
      · rintro ⟨p, h1, h2, h3⟩
        by_cases z : p = k
        · right; rw [← z]; exact h3
        · left; exact ⟨p, by omega, h2, h3⟩
    · rw [if_neg h, vAn_bit]
      constructor
      · rintro ⟨p, h1, h2⟩; exact ⟨p, by omega, h2⟩
      · rintro ⟨p, h1, h2, h3⟩
        refine ⟨p, ?_, h2, h3⟩
        by_cases z : p = k
        · rw [z] at h2; exact absurd h2 h
        · omega
theorem ub_grow : ∀ a, a < 64 → ∀ b, b < 64 → a ||| b ≠ a → ub_ct a < ub_ct (a ||| b) := by decide +kernel
theorem vSteps_fix {nx : Nat → Nat} {m to u : Nat} (h : u ||| vAn nx u m = u) (ht : u.testBit to = false) : ∀ d n, vSteps nx m to d n u = -2
  | 0, _ => rfl
  | d + 1, n => by rw [vSteps, ht, h]; exact vSteps_fix h ht d (n + 1)
theorem ub_ct_m {u : Nat} : ∀ {m : Nat}, m ≤ 6 → u < 2 ^ m → ub_ct u ≤ m := fun {m} hm hu => by
  have e : ∀ d, m + d = 6 → vSn (fun i => if u.testBit i then 1 else 0) (m + d) = vSn (fun i => if u.testBit i then 1 else 0) m := fun d hd => vSn_ext _ d (fun k h1 h2 => by
    rw [Nat.testBit_lt_two_pow (Nat.lt_of_lt_of_le hu (Nat.pow_le_pow_right (by omega) h1))]; rfl)
  have e2 := e (6 - m) (by omega)
  rw [show m + (6 - m) = 6 by omega, ub_ct_vSn] at e2
  rw [e2]
  have := vSn_le (f := fun i => if u.testBit i then 1 else 0) (b := 1) (fun k => by split <;> omega) m
  omega
theorem vSteps_more {nx : Nat → Nat} {m to : Nat} (hm : m ≤ 6) (hnx : ∀ p, p < m → nx p < 2 ^ m) (hto : to < m) : ∀ d n u, u < 2 ^ m → m + 1 ≤ ub_ct u + d → ∀ e, vSteps nx m to (d + e) n u = vSteps nx m to d n u
  | 0, n, u, hu, hc, e => absurd (ub_ct_m hm hu) (by omega)
  | d + 1, n, u, hu, hc, e => by
    have an : vAn nx u m < 2 ^ m := by
      refine Nat.lt_of_not_le fun z => ?_
      obtain ⟨i, h1, h2⟩ := Nat.exists_ge_and_testBit_of_ge_two_pow z
      obtain ⟨p, p1, p2, p3⟩ := vAn_bit.mp h2
      have := Nat.testBit_lt_two_pow (Nat.lt_of_lt_of_le (hnx p p1) (Nat.pow_le_pow_right (n := 2) (by omega) h1))
      rw [this] at p3; cases p3
    have p64 := p2_le hm
    rw [show d + 1 + e = (d + e) + 1 by omega, vSteps, vSteps]
    cases ht : u.testBit to with
    | true => rfl
    | false =>
      simp only [Bool.false_eq_true, if_false]
      by_cases z : u ||| vAn nx u m = u
      · rw [z, vSteps_fix z ht, vSteps_fix z ht]
      · have := ub_grow u (by omega) (vAn nx u m) (by omega) z
        exact vSteps_more hm hnx hto d (n + 1) (u ||| vAn nx u m) (Nat.or_lt_two_pow hu an) (by omega) e
theorem ub_ct_one : ∀ p, p < 6 → ub_ct (2 ^ p) = 1 := by decide +kernel
def xt_X9_way : xT := xm_rl (Z := vS × Int32 × Int32) (fun (σ, p, s) av g => av = [.ref 0, .int p, .int s] ∧ mTop σ g) (fun (σ, p, s) g o g' => o = some (.int (aWay σ p s)) ∧ mTop σ g')
set_option maxRecDepth 100000 in
set_option maxHeartbeats 400000 in
theorem xp_X9_way {l : Launch} {D : va_G} {cA : Nat → ClassId} {B : List (Nat × Cell)} : xm_Met l D cA B xs_M 4 yX9_way cX9_way 7 (some .int) xt_X9_way := by
  have hm : xm_monos [xt_X9_isPerson, xt_X9_fillsJoins] := ⟨(by first | exact xm_fn_mono _ _ _ | exact xm_rl_mono _ _), (by first | exact xm_fn_mono _ _ _ | exact xm_rl_mono _ _), trivial⟩
  refine xm_meth (own := RX9) (ks := xk_X9_way) (C := xc_X9_way) (Ts := [xt_X9_isPerson, xt_X9_fillsJoins]) (by decide +kernel) rfl xm_clsok xs_M_ok xf_X9_ok xi_X9_ok xj_X9_ok (xm_lk xl_X9_412 xp_X9_isPerson (by decide) (xm_lk xl_X9_427 xp_X9_fillsJoins (by decide) xm_lk0)) xo_X9_way ?_ ?_
  · rintro av g Q ⟨z, ⟨rfl, -⟩, -⟩
    exact Nat.le_of_ble_eq_true rfl
  · rintro av g Q ⟨⟨σ, p, s⟩, ⟨rfl, ⟨lv, h⟩⟩, hQ⟩
    dsimp only at h hQ
    have m6 := h.m6
    have hl := h.lv
    rcases vDo_c (m := tM (sT σ)) p (by omega) with hp | ⟨p, hp, rfl⟩
    · have fin := hQ (some (.int (-1))) g ⟨by rw [aWay, vDo_n hp], lv, h⟩
      refine xm_run_go hm 30 ⟨(p, lv, tM (sT σ)), ⟨rfl, hl, h.m9, h.l, h.m⟩, ⟨fun _ => fin, fun z => ?_⟩⟩
      exact absurd (vIs_n hp) z
    have z1 := vIs_y hp (by omega : tM (sT σ) < 2 ^ 31)
    rcases vDo_c (m := tM (sT σ)) s (by omega) with hs | ⟨s, hs, rfl⟩
    · have fin := hQ (some (.int (-1))) g ⟨by rw [aWay, vDo_y hp (by omega), vDo_n hs], lv, h⟩
      refine xm_run_go hm 30 ⟨(nI p, lv, tM (sT σ)), ⟨rfl, hl, h.m9, h.l, h.m⟩, ⟨fun _ => fin, fun _ => ⟨(s, lv, tM (sT σ)), ⟨rfl, hl, h.m9, h.l, h.m⟩, ⟨fun z => ?_, fun _ => fin⟩⟩⟩⟩
      exact absurd (vIs_n hs) z
    have z2 := vIs_y hs (by omega : tM (sT σ) < 2 ^ 31)
    have p6 : p < 6 := by omega
    have s6 : s < 6 := by omega
    unfold aWay at hQ
    rw [vDo_y hp (by omega), vDo_y hs (by omega)] at hQ
    refine xm_run_go hm 40 ⟨(nI p, lv, tM (sT σ)), ⟨rfl, hl, h.m9, h.l, h.m⟩, ⟨fun z => ?_, fun _ => ⟨(nI s, lv, tM (sT σ)), ⟨rfl, hl, h.m9, h.l, h.m⟩, ⟨fun _ => ⟨(lv, σ), ⟨rfl, h⟩, ?_⟩, fun z => ?_⟩⟩⟩⟩
    · rw [z1] at z; exact absurd z (by decide)
    · rintro o g0 ⟨rfl, i0, f0, d0, -, -⟩
      have fin : ∀ x, x = vSteps (vNx (sT σ) (sC σ)) (tM (sT σ)) s 6 0 (2 ^ p) → Q (some (.int x)) g0 := fun x hx => hQ _ _ ⟨by
        have := vSteps_more (nx := vNx (sT σ) (sC σ)) m6 d0.2.2.2.2.1 hs (tM (sT σ)) 0 (2 ^ p) (Nat.pow_lt_pow_right (by omega) hp) (by rw [ub_ct_one p p6]; omega) (6 - tM (sT σ))
        rw [show tM (sT σ) + (6 - tM (sT σ)) = 6 by omega] at this
        rw [hx, this], lv, h.q f0⟩
      generalize tM (sT σ) = m at *
      generalize vNx (sT σ) (sC σ) = nx at *
      have p64 := p2_le m6
      have anl : ∀ u, vAn nx u m < 64 := fun u => vAn_lt (fun p hp => Nat.lt_of_lt_of_le (d0.2.2.2.2.1 p hp) p64) m (Nat.le_refl _)
      have inner : ∀ u n, u < 64 → (∀ x5, x5 = nI (u ||| vAn nx u m) → ∀ w6, xm_go xs_M xk_X9_way [xt_X9_isPerson, xt_X9_fillsJoins] xc_X9_way Q (xm_drop 61 xc_X9_way) [.ref 0, .int (nI p), .int (nI s), .int (nI u), .int (nI n), .int x5, w6] [] g0) →
          ∀ d k, k + d = 36 → ∀ v, v < 64 → (∀ q, q < 6 → (v.testBit q = true ↔ (u.testBit q = true ∨ ∃ r, 6 * r + q < k ∧ r < m ∧ u.testBit r = true ∧ (nx r).testBit q = true))) → ∀ x5, x5 = nI v → xm_go xs_M xk_X9_way [xt_X9_isPerson, xt_X9_fillsJoins] xc_X9_way Q (xm_drop 34 xc_X9_way) [.ref 0, .int (nI p), .int (nI s), .int (nI u), .int (nI n), .int x5, .int (nI k)] [] g0 := by
        intro u n hu hout d
        induction d with
        | zero =>
          intro k hk v hv hb x5 h5
          have hk : k = 36 := by omega
          subst hk
          refine xm_run_go hm 3 ⟨fun _ => hout x5 ?_ _, fun z => absurd z (by decide)⟩
          rw [h5]
          refine congrArg nI (ub_ext hv (ub_orlt hu (anl u)) fun q hq => ?_)
          rw [Bool.eq_iff_iff, hb q hq, Nat.testBit_or, Bool.or_eq_true, vAn_bit]
          constructor
          · rintro (z | ⟨r, _, r2, r3⟩)
            · exact Or.inl z
            · exact Or.inr ⟨r, r2, r3⟩
          · rintro (z | ⟨r, r2, r3⟩)
            · exact Or.inl z
            · exact Or.inr ⟨r, by omega, r2, r3⟩
        | succ d ih =>
          intro k hk v hv hb x5 h5
          have k36 : k < 36 := by omega
          have r6 : k / 6 < 6 := by omega
          have q6 : k % 6 < 6 := by omega
          have jv := d0.2.2.2.2.2 (k / 6) (k % 6) r6 q6
          rw [show 6 * (k / 6) + k % 6 = k by omega] at jv
          have d6 := xn_d6 k k36
          have rm6 := xn_r6 k k36
          have bt : (nI u >>> (nI k / 6 &&& 31)) &&& 1 = 1 ↔ u.testBit (k / 6) = true := by
            rw [d6, ub_bit u hu (k / 6) r6]
            cases u.testBit (k / 6) <;> simp
          have nx1 := ih (k + 1) (by omega)
          rw [nI_succ] at nx1
          have keep : ¬ (k / 6 < m ∧ u.testBit (k / 6) = true ∧ (nx (k / 6)).testBit (k % 6) = true) → ∀ q, q < 6 → (v.testBit q = true ↔ (u.testBit q = true ∨ ∃ r, 6 * r + q < k + 1 ∧ r < m ∧ u.testBit r = true ∧ (nx r).testBit q = true)) := fun z q hq => by
            rw [hb q hq]
            constructor
            · rintro (y | ⟨r, r1, r2⟩)
              · exact Or.inl y
              · exact Or.inr ⟨r, by omega, r2⟩
            · rintro (y | ⟨r, r1, r2, r3, r4⟩)
              · exact Or.inl y
              · refine Or.inr ⟨r, ?_, r2, r3, r4⟩
                by_cases e : 6 * r + q = k
                · have e1 : k / 6 = r := by omega
                  have e2 : k % 6 = q := by omega
                  exact absurd ⟨by rw [e1]; exact r2, by rw [e1]; exact r3, by rw [e1, e2]; exact r4⟩ z
                · omega
          have add : (k / 6 < m ∧ u.testBit (k / 6) = true ∧ (nx (k / 6)).testBit (k % 6) = true) → ∀ q, q < 6 → ((v ||| 2 ^ (k % 6)).testBit q = true ↔ (u.testBit q = true ∨ ∃ r, 6 * r + q < k + 1 ∧ r < m ∧ u.testBit r = true ∧ (nx r).testBit q = true)) := fun z q hq => by
            rw [ub_tor, Bool.or_eq_true, hb q hq, decide_eq_true_eq]
            constructor
            · rintro ((y | ⟨r, r1, r2⟩) | y)
              · exact Or.inl y
              · exact Or.inr ⟨r, by omega, r2⟩
              · exact Or.inr ⟨k / 6, by omega, z.1, z.2.1, by rw [← y]; exact z.2.2⟩
            · rintro (y | ⟨r, r1, r2, r3, r4⟩)
              · exact Or.inl (Or.inl y)
              · by_cases e : 6 * r + q = k
                · exact Or.inr (by omega)
                · exact Or.inl (Or.inr ⟨r, by omega, r2, r3, r4⟩)
          refine xm_run_go hm 60 ⟨fun z => absurd z (nI_ge (b := 36) k36 (by decide)), fun _ => ⟨k, ⟨k36, rfl⟩, ⟨fun z => xm_cut hm (nx1 v hv (keep ?_) x5 h5), fun z => ⟨by decide, ⟨fun y => xm_cut hm (nx1 v hv (keep ?_) x5 h5), fun y => ⟨by decide, xm_cut hm (nx1 _ (ub_orlt hv (ub_pow q6)) (add ?_) _ ?_)⟩⟩⟩⟩⟩⟩
          · rw [jv] at z
            intro q
            have := bi_if.mp z
            rw [decide_eq_true q.1, q.2.2] at this; cases this
          · exact fun q => y (bt.mpr q.2.1)
          · rw [jv] at z
            have jt : (decide (k / 6 < m) && (nx (k / 6)).testBit (k % 6)) = true := by
              cases hh : (decide (k / 6 < m) && (nx (k / 6)).testBit (k % 6)) with
              | true => rfl
              | false => rw [hh] at z; exact absurd rfl z
            rw [Bool.and_eq_true, decide_eq_true_eq] at jt
            exact ⟨jt.1, bt.mp y, jt.2⟩
          · rw [rm6, h5, ub_or1 v hv _ q6]
      have outer : ∀ d n, n + d = 6 → ∀ u, u < 64 → vSteps nx m s d n u = vSteps nx m s 6 0 (2 ^ p) → ∀ x3, x3 = nI u → ∀ w5 w6, xm_go xs_M xk_X9_way [xt_X9_isPerson, xt_X9_fillsJoins] xc_X9_way Q (xm_drop 18 xc_X9_way) [.ref 0, .int (nI p), .int (nI s), .int x3, .int (nI n), w5, w6] [] g0 := by
        intro d
        induction d with
        | zero =>
          intro n hn u hu hv x3 h3 w5 w6
          have hn : n = 6 := by omega
          subst hn
          exact xm_run_go hm 20 ⟨fun _ => fin _ hv, fun z => absurd z (by decide)⟩
        | succ d ih =>
          intro n hn u hu hv x3 h3 w5 w6
          subst h3
          have bt : (nI u >>> (nI s &&& 31)) &&& 1 = 1 ↔ u.testBit s = true := by
            rw [ub_bit u hu s s6]
            cases u.testBit s <;> simp
          have nx1 := ih (n + 1) (by omega)
          rw [nI_succ] at nx1
          refine xm_run_go hm 40 ⟨fun z => absurd z (nI_ge (b := 6) (by omega) (by decide)), fun _ => ⟨fun z => xm_cut hm (inner u n hu (fun x5 h5 w6 => ?_) 36 0 rfl u hu (fun q hq => ⟨fun y => Or.inl y, fun y => ?_⟩) _ rfl), fun z => fin _ ?_⟩⟩
          · have nt : u.testBit s = false := by
              cases hh : u.testBit s with
              | false => rfl
              | true => exact absurd (bt.mpr hh) z
            refine xm_run_go hm 20 (xm_cut hm (nx1 (u ||| vAn nx u m) (ub_orlt hu (anl u)) ?_ x5 h5 _ _))
            rw [← hv, vSteps, nt]; rfl
          · rcases y with y | ⟨r, r1, -⟩
            · exact y
            · exact absurd r1 (by omega)
          · rw [← hv, vSteps, bt.mp z]; rfl
      exact xm_cut hm (outer 6 0 rfl (2 ^ p) (ub_pow p6) rfl _ (ub_one p p6) _ _)
    · rw [z2] at z; exact absurd z (by decide)
-- the lonely ones
theorem vBf_bit {nx : Nat → Nat} {q : Nat} : ∀ {k : Nat}, (vBf nx k).testBit q = true ↔ ∃ p, p < k ∧ nx p ≠ 0 ∧ (p = q ∨ (nx p).testBit q = true)
  | 0 => by simp [vBf]
  | k + 1 => by
    unfold vBf
    by_cases h : nx k = 0
    · rw [if_pos h, vBf_bit]
      constructor
      · rintro ⟨p, h1, h2⟩; exact ⟨p, by omega, h2⟩
      · rintro ⟨p, h1, h2, h3⟩
        refine ⟨p, ?_, h2, h3⟩
        by_cases z : p = k
        · rw [z] at h2; exact absurd h h2
        · omega
    · rw [if_neg h, Nat.testBit_or, Bool.or_eq_true, ub_tor, Bool.or_eq_true, decide_eq_true_eq, vBf_bit]
      constructor
      · rintro (⟨p, h1, h2⟩ | h2 | h2)
        · exact ⟨p, by omega, h2⟩
        · exact ⟨k, by omega, h, Or.inr h2⟩
        · exact ⟨k, by omega, h, Or.inl h2⟩
      · rintro ⟨p, h1, h2, h3⟩
        by_cases z : p = k
        · subst z
          rcases h3 with h3 | h3
          · exact Or.inr (Or.inr h3)
          · exact Or.inr (Or.inl h3)
        · exact Or.inl ⟨p, by omega, h2, h3⟩
def xt_X9_lonelyBits : xT := xm_fn (Z := Nat × Nat × (Nat → Nat)) (fun (lv, m, nx) av g => av = [.ref 0] ∧ mDq lv m nx g) (fun (lv, m, nx) _ => some (.int (nI ((2 ^ m - 1) &&& (63 ^^^ vBf nx m))))) (fun _ g => g)
theorem ub_not2 : ∀ a, a < 6 → ∀ b, b < 6 → ((1 : Int32) <<< (nI a &&& 31)) ||| ((1 : Int32) <<< (nI b &&& 31)) = nI (2 ^ a ||| 2 ^ b) := by decide +kernel
set_option maxRecDepth 100000 in
set_option maxHeartbeats 400000 in
theorem xp_X9_lonelyBits {l : Launch} {D : va_G} {cA : Nat → ClassId} {B : List (Nat × Cell)} : xm_Met l D cA B xs_M 1 yX9_lonelyBits cX9_lonelyBits 3 (some .int) xt_X9_lonelyBits := by
  have hm : xm_monos [xt_X9_all] := ⟨(by first | exact xm_fn_mono _ _ _ | exact xm_rl_mono _ _), trivial⟩
  refine xm_meth (own := RX9) (ks := xk_X9_lonelyBits) (C := xc_X9_lonelyBits) (Ts := [xt_X9_all]) (by decide +kernel) rfl xm_clsok xs_M_ok xf_X9_ok xi_X9_ok xj_X9_ok (xm_lk xl_X9_430 xp_X9_all (by decide) xm_lk0) xo_X9_lonelyBits ?_ ?_
  · rintro av g Q ⟨z, ⟨rfl, -⟩, -⟩
    exact Nat.le_of_ble_eq_true rfl
  · rintro av g Q ⟨⟨lv, m, nx⟩, ⟨rfl, d0⟩, hQ⟩
    dsimp only at d0 hQ
    have m6 := d0.2.1
    have p64 := p2_le m6
    have p0 := p2_pos m
    have nxl : ∀ p, p < m → nx p < 64 := fun p hp => Nat.lt_of_lt_of_le (d0.2.2.2.2.1 p hp) p64
    have loop : ∀ d k, k + d = 36 → ∀ v, v < 64 → (∀ q, q < 6 → (v.testBit q = true ↔ q < m ∧ ¬ ∃ r s, 6 * r + s < k ∧ s < 6 ∧ r < m ∧ (nx r).testBit s = true ∧ (r = q ∨ s = q))) → ∀ x, x = nI v → xm_go xs_M xk_X9_lonelyBits [xt_X9_all] xc_X9_lonelyBits Q (xm_drop 5 xc_X9_lonelyBits) [.ref 0, .int x, .int (nI k)] [] g := by
      intro d
      induction d with
      | zero =>
        intro k hk v hv hb x hx
        have hk : k = 36 := by omega
        subst hk
        refine xm_run_go hm 20 ⟨fun _ => xq_i hQ ?_, fun z => absurd z (by decide)⟩
        rw [hx]
        refine congrArg nI (ub_ext hv (ub_andlt _ (by omega)) fun q hq => ?_)
        rw [Bool.eq_iff_iff, hb q hq, ub_tless _ _ _ hq, Bool.and_eq_true, Nat.testBit_two_pow_sub_one, decide_eq_true_eq, Bool.not_eq_true', ← Bool.not_eq_true, vBf_bit]
        constructor
        · rintro ⟨y1, y2⟩
          refine ⟨y1, fun ⟨p, q1, q2, q3⟩ => y2 ?_⟩
          rcases q3 with q3 | q3
          · obtain ⟨s, hs⟩ : ∃ s, s < 6 ∧ (nx p).testBit s = true := by
              refine Classical.byContradiction fun z => q2 ?_
              refine ub_ext (nxl p q1) (by decide) fun i hi => ?_
              rw [Nat.zero_testBit]
              cases hh : (nx p).testBit i with
              | false => rfl
              | true => exact absurd ⟨i, hi, hh⟩ z
            exact ⟨p, s, by omega, hs.1, q1, hs.2, Or.inl q3⟩
          · exact ⟨p, q, by omega, hq, q1, q3, Or.inr rfl⟩
        · rintro ⟨y1, y2⟩
          refine ⟨y1, fun ⟨r, s, e1, e2, e3, e4, e5⟩ => y2 ⟨r, e3, fun z => ?_, ?_⟩⟩
          · rw [z, Nat.zero_testBit] at e4; cases e4
          · rcases e5 with e5 | e5
            · exact Or.inl e5
            · right; rw [← e5]; exact e4
      | succ d ih =>
        intro k hk v hv hb x hx
        have k36 : k < 36 := by omega
        have r6 : k / 6 < 6 := by omega
        have q6 : k % 6 < 6 := by omega
        have jv := d0.2.2.2.2.2 (k / 6) (k % 6) r6 q6
        rw [show 6 * (k / 6) + k % 6 = k by omega] at jv
        have d6 := xn_d6 k k36
        have rm6 := xn_r6 k k36
        have nx1 := ih (k + 1) (by omega)
        rw [nI_succ] at nx1
        have w64 : 2 ^ (k / 6) ||| 2 ^ (k % 6) < 64 := ub_orlt (ub_pow r6) (ub_pow q6)
        refine xm_run_go hm 60 ⟨fun z => absurd z (nI_ge (b := 36) k36 (by decide)), fun _ => ⟨k, ⟨k36, rfl⟩, ⟨fun z => xm_cut hm (nx1 v hv (fun q hq => ?_) x hx), fun z => ⟨by decide, by decide, xm_cut hm (nx1 (v &&& (63 ^^^ (2 ^ (k / 6) ||| 2 ^ (k % 6)))) (ub_andlt _ hv) (fun q hq => ?_) _ ?_)⟩⟩⟩⟩
        · rw [jv] at z
          have jf := bi_if.mp z
          rw [hb q hq]
          constructor
          · rintro ⟨y1, y2⟩
            refine ⟨y1, fun ⟨r, s, e1, e2, e3, e4, e5⟩ => ?_⟩
            by_cases e : 6 * r + s = k
            · have e1' : k / 6 = r := by omega
              have e2' : k % 6 = s := by omega
              rw [e1', e2', decide_eq_true e3, e4] at jf; cases jf
            · exact y2 ⟨r, s, by omega, e2, e3, e4, e5⟩
          · rintro ⟨y1, y2⟩
            exact ⟨y1, fun ⟨r, s, e1, e2⟩ => y2 ⟨r, s, by omega, e2⟩⟩
        · rw [jv] at z
          have jt : (decide (k / 6 < m) && (nx (k / 6)).testBit (k % 6)) = true := by
            cases hh : (decide (k / 6 < m) && (nx (k / 6)).testBit (k % 6)) with
            | true => rfl
            | false => rw [hh] at z; exact absurd rfl z
          rw [Bool.and_eq_true, decide_eq_true_eq] at jt
          rw [ub_tless _ _ _ hq, Bool.and_eq_true, hb q hq, Bool.not_eq_true', ← Bool.not_eq_true, ub_tor, Bool.or_eq_true, Nat.testBit_two_pow, decide_eq_true_eq, decide_eq_true_eq]
          constructor
          · rintro ⟨⟨y1, y2⟩, y3⟩
            refine ⟨y1, fun ⟨r, s, e1, e2, e3, e4, e5⟩ => ?_⟩
            by_cases e : 6 * r + s = k
            · exact y3 (by omega)
            · exact y2 ⟨r, s, by omega, e2, e3, e4, e5⟩
          · rintro ⟨y1, y2⟩
            exact ⟨⟨y1, fun ⟨r, s, e1, e2⟩ => y2 ⟨r, s, by omega, e2⟩⟩, fun y3 => y2 ⟨k / 6, k % 6, by omega, q6, jt.1, jt.2, y3⟩⟩
        · rw [rm6, d6, ub_not2 _ r6 _ q6, hx, ub_less v hv _ w64]
    refine xm_run_go hm 20 ⟨(lv, m, nx), ⟨rfl, d0⟩, xm_cut hm (loop 36 0 rfl (2 ^ m - 1) (by omega) (fun q hq => ?_) _ rfl)⟩
    rw [Nat.testBit_two_pow_sub_one, decide_eq_true_eq]
    exact ⟨fun y => ⟨y, fun ⟨r, s, e, _⟩ => absurd e (by omega)⟩, fun y => y.1⟩
def xt_X9_lonely : xT := xm_rl (Z := vS) (fun σ av g => av = [.ref 0] ∧ mTop σ g) (fun σ g o g' => o = some (.int (aLonely σ)) ∧ mTop σ g')
set_option maxRecDepth 100000 in
set_option maxHeartbeats 400000 in
theorem xp_X9_lonely {l : Launch} {D : va_G} {cA : Nat → ClassId} {B : List (Nat × Cell)} : xm_Met l D cA B xs_M 4 yX9_lonely cX9_lonely 1 (some .int) xt_X9_lonely := by
  have hm : xm_monos [xt_X9_fillsJoins, xt_X9_lonelyBits] := ⟨(by first | exact xm_fn_mono _ _ _ | exact xm_rl_mono _ _), (by first | exact xm_fn_mono _ _ _ | exact xm_rl_mono _ _), trivial⟩
  refine xm_meth (own := RX9) (ks := xk_X9_lonely) (C := xc_X9_lonely) (Ts := [xt_X9_fillsJoins, xt_X9_lonelyBits]) (by decide +kernel) rfl xm_clsok xs_M_ok xf_X9_ok xi_X9_ok xj_X9_ok (xm_lk xl_X9_427 xp_X9_fillsJoins (by decide) (xm_lk xl_X9_466 xp_X9_lonelyBits (by decide) xm_lk0)) xo_X9_lonely ?_ ?_
  · rintro av g Q ⟨z, ⟨rfl, -⟩, -⟩
    exact Nat.le_of_ble_eq_true rfl
  · rintro av g Q ⟨σ, ⟨rfl, ⟨lv, h⟩⟩, hQ⟩
    dsimp only at h hQ
    refine xm_run_go hm 20 ⟨(lv, σ), ⟨rfl, h⟩, ?_⟩
    rintro o g0 ⟨rfl, i0, f0, d0, -, -⟩
    exact ⟨(lv, tM (sT σ), vNx (sT σ) (sC σ)), ⟨rfl, d0⟩, hQ _ _ ⟨rfl, lv, h.q f0⟩⟩
