-- the best row
def vJn (nx : Nat → Nat) (L p : Nat) : Nat := if decide (L ≠ 7) && (nx L).testBit p then 1 else 0
/-- how many of the first k are not in the set -/
def vMs (u : Nat) : Nat → Nat
  | 0 => 0
  | k + 1 => vMs u k + (if u.testBit k then 0 else 1)
/-- one more than the joins that can still come -/
def vB1 (nx : Nat → Nat) (m : Nat) : Nat → Nat → Nat → Nat
  | 0, _, _ => 1
  | f + 1, L, u => vMx (fun p => if u.testBit p then 0 else vJn nx L p + vB1 nx m f p (u ||| 2 ^ p)) m
def vBp (nx : Nat → Nat) (m : Nat) : Nat → Nat → Nat → List Nat
  | 0, _, _ => []
  | f + 1, L, u => vAr (fun p => if u.testBit p then 0 else vJn nx L p + vB1 nx m f p (u ||| 2 ^ p)) m :: vBp nx m f (vAr (fun p => if u.testBit p then 0 else vJn nx L p + vB1 nx m f p (u ||| 2 ^ p)) m) (u ||| 2 ^ (vAr (fun p => if u.testBit p then 0 else vJn nx L p + vB1 nx m f p (u ||| 2 ^ p)) m))
theorem vMx_le {w : Nat → Nat} {b : Nat} : ∀ {n : Nat}, (∀ k, k < n → w k ≤ b) → vMx w n ≤ b
  | 0, _ => Nat.zero_le _
  | n + 1, h => by
    unfold vMx
    split
    · exact h n (by omega)
    · exact vMx_le (fun k hk => h k (by omega))
theorem vMx_ge {w : Nat → Nat} : ∀ {n k : Nat}, k < n → w k ≤ vMx w n
  | n + 1, k, h => by
    unfold vMx
    by_cases z : k = n
    · subst z
      split <;> omega
    · have := vMx_ge (w := w) (n := n) (k := k) (by omega)
      split <;> omega
theorem vJn_le (nx : Nat → Nat) (L p : Nat) : vJn nx L p ≤ 1 := by unfold vJn; split <;> omega
theorem vJn_7 (nx : Nat → Nat) (p : Nat) : vJn nx 7 p = 0 := by simp [vJn]
theorem vB1_le (nx : Nat → Nat) (m : Nat) : ∀ f L u, vB1 nx m f L u ≤ f + 1
  | 0, _, _ => Nat.le_refl _
  | f + 1, L, u => by
    rw [vB1]
    refine vMx_le (fun k hk => ?_)
    have h1 := vB1_le nx m f k (u ||| 2 ^ k)
    have h2 := vJn_le nx L k
    split <;> omega
theorem vB1_7 (nx : Nat → Nat) (m f u : Nat) (hf : 0 < f) : vB1 nx m f 7 u ≤ f := by
  obtain ⟨g, rfl⟩ : ∃ g, f = g + 1 := ⟨f - 1, by omega⟩
  rw [vB1]
  refine vMx_le (fun k hk => ?_)
  have h1 := vB1_le nx m g k (u ||| 2 ^ k)
  rw [vJn_7]
  split <;> omega
theorem vMs_pos {u : Nat} : ∀ {k : Nat}, 0 < vMs u k → ∃ p, p < k ∧ u.testBit p = false
  | 0, h => by simp [vMs] at h
  | k + 1, h => by
    cases z : u.testBit k with
    | false => exact ⟨k, by omega, z⟩
    | true =>
      rw [vMs, z] at h
      obtain ⟨p, h1, h2⟩ := vMs_pos (u := u) (k := k) h
      exact ⟨p, by omega, h2⟩
theorem vMs_or {u p : Nat} (hp : u.testBit p = false) : ∀ k, vMs (u ||| 2 ^ p) k + (if p < k then 1 else 0) = vMs u k
  | 0 => by simp [vMs]
  | k + 1 => by
    have ih := vMs_or hp k
    simp only [vMs, ub_tor]
    by_cases z : p = k
    · subst z
      rw [hp]
      simp at ih ⊢
      omega
    · rw [decide_eq_false z, Bool.or_false]
      by_cases y : p < k
      · rw [if_pos y] at ih
        rw [if_pos (show p < k + 1 by omega)]
        omega
      · rw [if_neg y] at ih
        rw [if_neg (show ¬ p < k + 1 by omega)]
        omega
theorem vB1_pos (nx : Nat → Nat) (m : Nat) : ∀ f L u, vMs u m = f → 1 ≤ vB1 nx m f L u
  | 0, _, _, _ => Nat.le_refl _
  | f + 1, L, u, h => by
    obtain ⟨p, h1, h2⟩ := vMs_pos (u := u) (k := m) (by omega)
    rw [vB1]
    refine Nat.le_trans ?_ (vMx_ge h1)
    rw [h2]
    have := vMs_or h2 m
    rw [if_pos h1] at this
    have := vB1_pos nx m f p (u ||| 2 ^ p) (by omega)
    simp
    omega
theorem xn_M {M : Nat} (h : M < 100) : (nI M - 1).toInt = (M : Int) - 1 := by
  rw [xi_sub (a := M) (b := 1) (nI_toInt (by omega)) (by decide) (by omega) (by omega)]
def xt_X2_tryBest : Nat → xT
  | 0 => fun _ _ _ => False
  | f + 1 => xm_rl (Z := Nat × Nat × Nat × Nat × List Nat × Nat × List Nat × Nat × Nat × (Nat → Nat)) (fun (d, u, j, L, pre, M, ls, m, sh, nx) av g => av = [.ref 49, .int (nI d), .int (nI u), .int (nI j)] ∧ u < 64 ∧ d + f = m ∧ vMs u m = f ∧ j ≤ d ∧ pre.length = d ∧ xLs g 52 pre ∧ xLast d L m g ∧ M ≤ 20 ∧ g.1 49 0 = nI M - 1 ∧ xLs g 50 ls ∧ xRows m sh nx g)
      (fun (d, u, j, L, pre, M, ls, m, sh, nx) g o g' => o = none ∧ xRw g g' ∧ (∀ i, i < d → g'.1 52 i = g.1 52 i) ∧ g'.1 49 0 = nI (if M < j + vB1 nx m f L u then (j + vB1 nx m f L u, pre ++ vBp nx m f L u) else (M, ls)).1 - 1 ∧ (if M < j + vB1 nx m f L u then (j + vB1 nx m f L u, pre ++ vBp nx m f L u) else (M, ls)).1 ≤ 20 ∧ xLs g' 50 (if M < j + vB1 nx m f L u then (j + vB1 nx m f L u, pre ++ vBp nx m f L u) else (M, ls)).2)
theorem xn_X2_tryBest : ∀ f, xm_mono (xt_X2_tryBest f)
  | 0 => fun _ _ _ _ _ h => h
  | _ + 1 => xm_rl_mono _ _
set_option maxRecDepth 100000 in
set_option maxHeartbeats 4000000 in
theorem xp_X2_tryBest {l : Launch} {D : va_G} {cA : Nat → ClassId} {B : List (Nat × Cell)} : ∀ (f R : Nat), f ≤ R → xm_Met l D cA B xs_X (R + 3) yX2_tryBest cX2_tryBest 6 none (xt_X2_tryBest f)
  | 0, _, _ => fun _ _ _ _ _ h => h.elim
  | _ + 1, 0, hR => absurd hR (by omega)
  | f + 1, R + 1, hR => by
    have hm : xm_monos [xt_X2_keep, xt_J9_max_7cf53, xt_X2_has, xt_X2_tryBest f] := ⟨(by first | exact xm_fn_mono _ _ _ | exact xm_rl_mono _ _), (by first | exact xm_fn_mono _ _ _ | exact xm_rl_mono _ _), (by first | exact xm_fn_mono _ _ _ | exact xm_rl_mono _ _), xn_X2_tryBest f, trivial⟩
    refine xm_meth (own := RX2) (ks := xk_X2_tryBest) (C := xc_X2_tryBest) (Ts := [xt_X2_keep, xt_J9_max_7cf53, xt_X2_has, xt_X2_tryBest f]) (by decide +kernel) rfl xm_clsok xs_X_ok xf_X2_ok xi_X2_ok xj_X2_ok (xm_lk xl_X2_60 xp_X2_keep (by omega) (xm_lk xl_X2_64 xp_J9_max_7cf53 (by omega) (xm_lk xl_X2_70 xp_X2_has (by omega) (xm_lk xl_X2_56 (xp_X2_tryBest f R (by omega))  (by omega) xm_lk0)))) xo_X2_tryBest ?_ ?_
    · rintro av g Q ⟨z, ⟨rfl, -⟩, -⟩
      exact Nat.le_of_ble_eq_true rfl
    · rintro av g Q ⟨⟨dp, u, j, L, pre, M, ls, m, sh, nx⟩, ⟨rfl, hu, hd, hms, hj, hpl, hpr, hl, hM, e0, hls, hr⟩, hQ⟩
      dsimp only at hQ hu hd hl hr hpl hpr hM e0 hls hms hj
      obtain ⟨h1, h2, h3, h4, h5⟩ := id hr
      have hd6 : dp ≤ 6 := by omega
      have d1 : nI dp + 1 = nI (dp + 1) := nI_1 dp
      have jI : (nI j).toInt = (j : Int) := nI_toInt (by omega)
      have MI := xn_M (M := M) (by omega)
      cases f with
      | zero =>
        have hdm : dp = m := by omega
        simp only [vB1, vBp, List.append_nil] at hQ
        refine xm_run_go hm 60 ⟨fun y => ?_, fun _ => ⟨fun q => ?_, fun q => ⟨(dp, nI j), ⟨rfl, hd6⟩, ?_⟩⟩⟩
        · rw [h1] at y
          exact absurd y (nI_nlt (by omega) (by omega))
        · rw [e0, xi_le, jI, MI] at q
          rw [if_neg (by omega)] at hQ
          exact hQ _ _ ⟨rfl, xRw.rf, fun _ _ => rfl, e0, hM, hls⟩
        · rintro o g1 ⟨rfl, q1, q2, q3, q4, q5⟩
          rw [e0, xi_lt, jI, MI] at q
          rw [if_pos (by omega)] at hQ
          refine hQ _ _ ⟨rfl, q1, fun i _ => by rw [q4], by rw [q2]; exact (nI_pred j).symm, show j + 1 ≤ 20 by omega, fun i x hx => ?_⟩
          have hi : i < pre.length := (List.getElem?_eq_some_iff.mp hx).1
          rw [q5 i (by omega)]; exact hpr i x hx
      | succ f =>
        have hdm : dp < m := by omega
        have hd1 : dp + 1 + f = m := by omega
        generalize hw : (fun p => if u.testBit p then 0 else vJn nx L p + vB1 nx m f p (u ||| 2 ^ p)) = w
        have hwp : ∀ p, w p = if u.testBit p then 0 else vJn nx L p + vB1 nx m f p (u ||| 2 ^ p) := fun p => by rw [← hw]
        generalize hpy : (fun p => pre ++ (p :: vBp nx m f p (u ||| 2 ^ p))) = pay
        have hpp : ∀ p, pay p = pre ++ (p :: vBp nx m f p (u ||| 2 ^ p)) := fun p => by rw [← hpy]
        have eB : vB1 nx m (f + 1) L u = vMx w m := by rw [vB1, hw]
        have eP : pre ++ vBp nx m (f + 1) L u = pay (vAr w m) := by rw [vBp, hw, hpp]
        have fin : vRs j w pay M ls m = if M < j + vB1 nx m (f + 1) L u then (j + vB1 nx m (f + 1) L u, pre ++ vBp nx m (f + 1) L u) else (M, ls) := by
          have hp := vB1_pos nx m (f + 1) L u hms
          rw [eB] at hp ⊢
          rw [eP]
          unfold vRs
          by_cases y : M < j + vMx w m
          · rw [if_pos ⟨hp, y⟩, if_pos y]
          · rw [if_neg (fun z => y z.2), if_neg y]
        have loop : ∀ d k, k + d = m → ∀ g1, xRw g g1 → (∀ i, i < dp → g1.1 52 i = g.1 52 i) → g1.1 49 0 = nI (vRs j w pay M ls k).1 - 1 → (vRs j w pay M ls k).1 ≤ 20 → xLs g1 50 (vRs j w pay M ls k).2 → ∀ w5, xm_go xs_X xk_X2_tryBest [xt_X2_keep, xt_J9_max_7cf53, xt_X2_has, xt_X2_tryBest (f + 1)] xc_X2_tryBest Q (xm_drop 27 xc_X2_tryBest) [.ref 49, .int (nI dp), .int (nI u), .int (nI j), .int (nI k), w5] [] g1 := by
          intro d
          induction d with
          | zero =>
            intro k hk g1 hf hi c1 c2 c3 w5
            have hk : k = m := by omega
            subst hk
            have h11 := hf.rows hr
            rw [fin] at c1 c2 c3
            refine xm_run_go hm 30 ⟨fun _ => hQ _ _ ⟨rfl, hf, hi, c1, c2, c3⟩, fun q => ?_⟩
            rw [h11.1] at q
            exact absurd q (nI_nlt (Nat.le_refl _) (by omega))
          | succ d ih =>
            intro k hk g1 hf hi c1 c2 c3 w5
            have h11 := hf.rows hr
            have hk6 : k < 6 := by omega
            have hkm : k < m := by omega
            have d52 : dp < 6 := by omega
            have rw1 : ∀ {g2 : xG}, g2 = xm_sI g1 52 dp (nI k) → u.testBit k = false → ∀ v, v = nI (j + vJn nx L k) → ∀ w5, xt_X2_tryBest (f + 1) [.ref 49, .int (nI dp + 1), .int (nI u ||| (1 <<< (nI k &&& 31))), .int v] g2 (fun o g => match o with
              | none => xm_on (xm_run xs_X xk_X2_tryBest [xt_X2_keep, xt_J9_max_7cf53, xt_X2_has, xt_X2_tryBest (f + 1)] xc_X2_tryBest Q 0) (xm_drop 71 xc_X2_tryBest) [.ref 49, .int (nI dp), .int (nI u), .int (nI j), .int (nI k), w5] [] g
              | some x => xm_on (xm_run xs_X xk_X2_tryBest [xt_X2_keep, xt_J9_max_7cf53, xt_X2_has, xt_X2_tryBest (f + 1)] xc_X2_tryBest Q 0) (xm_drop 71 xc_X2_tryBest) [.ref 49, .int (nI dp), .int (nI u), .int (nI j), .int (nI k), w5] [x] g) := by
              intro g2 hg2 hb v hv w5
              subst hg2
              have ms2 := vMs_or hb m
              rw [if_pos hkm] at ms2
              have jle := vJn_le nx L k
              refine ⟨(dp + 1, u ||| 2 ^ k, j + vJn nx L k, k, pre ++ [k], (vRs j w pay M ls k).1, (vRs j w pay M ls k).2, m, sh, nx), ⟨?_, ub_orlt hu (ub_pow hk6), hd1, by omega, by omega, ?_, ?_, ?_, c2, ?_, ?_, ?_⟩, ?_⟩
              · rw [ub_or1 u hu k hk6, d1, hv]
              · rw [List.length_append, hpl]; rfl
              · refine xLs.snoc (hpr.fr (fun i hi2 => ?_)) ?_
                · rw [xg_in, if_neg (by omega)]; exact hi i (by omega)
                · rw [hpl, xg_in, if_pos rfl]
              · exact Or.inr ⟨by omega, by omega, hkm, by rw [show dp + 1 - 1 = dp by omega, xg_in, if_pos rfl]⟩
              · rw [xg_off _ _ _ (by decide)]; exact c1
              · exact c3.fr (fun i _ => by rw [xg_off _ _ _ (by decide)])
              · exact (xRw.rf.pt _ _).rows h11
              · rintro o g3 ⟨rfl, q1, q2, q3, q4, q5⟩
                have ew : j + vJn nx L k + vB1 nx m f k (u ||| 2 ^ k) = j + w k := by rw [hwp, hb]; simp; omega
                have wpos : 0 < w k := by
                  have := vB1_pos nx m f k (u ||| 2 ^ k) (by omega)
                  rw [hwp, hb]; simp; omega
                rw [ew, List.append_assoc, List.singleton_append, ← hpp] at q3 q4 q5
                have := ih (k + 1) (by omega) g3 ((hf.pt _ _).tr q1) (fun i hi2 => by rw [q2 i (by omega), xg_in, if_neg (by omega)]; exact hi i hi2) (by rw [vRs_yes wpos]; exact q3) (by rw [vRs_yes wpos]; exact q4) (by rw [vRs_yes wpos]; exact q5) w5
                rw [nI_succ] at this
                exact xm_run_go hm 5 (xm_cut hm this)
            have lift : ∀ {n : Nat} {T : List Value} {g2 : xG} {L1 : List Value}, xt_X2_tryBest (f + 1) T g2 (fun o g => match o with
              | none => xm_on (xm_run xs_X xk_X2_tryBest [xt_X2_keep, xt_J9_max_7cf53, xt_X2_has, xt_X2_tryBest (f + 1)] xc_X2_tryBest Q 0) (xm_drop 71 xc_X2_tryBest) L1 [] g
              | some x => xm_on (xm_run xs_X xk_X2_tryBest [xt_X2_keep, xt_J9_max_7cf53, xt_X2_has, xt_X2_tryBest (f + 1)] xc_X2_tryBest Q 0) (xm_drop 71 xc_X2_tryBest) L1 [x] g) → xt_X2_tryBest (f + 1) T g2 (fun o g => match o with
              | none => xm_on (xm_run xs_X xk_X2_tryBest [xt_X2_keep, xt_J9_max_7cf53, xt_X2_has, xt_X2_tryBest (f + 1)] xc_X2_tryBest Q n) (xm_drop 71 xc_X2_tryBest) L1 [] g
              | some x => xm_on (xm_run xs_X xk_X2_tryBest [xt_X2_keep, xt_J9_max_7cf53, xt_X2_has, xt_X2_tryBest (f + 1)] xc_X2_tryBest Q n) (xm_drop 71 xc_X2_tryBest) L1 [x] g) := fun h => xn_X2_tryBest (f + 1) _ _ _ _ (fun o g q => by
                cases o with
                | none => exact xm_on_mono (fun _ _ _ _ z => xm_go_run hm _ z) q
                | some x => exact xm_on_mono (fun _ _ _ _ z => xm_go_run hm _ z) q) h
            refine xm_run_go hm 60 ⟨fun q => ?_, fun _ => ⟨(u, k), ⟨rfl, hu, hk6⟩, ⟨fun q => ?_, fun q => ⟨dp, ⟨d52, rfl⟩, ⟨fun y => ?_, fun y => ?_⟩⟩⟩⟩⟩
            · rw [h11.1] at q
              exact absurd q (nI_ge (by omega) (by omega))
            · have hb : u.testBit k = true := by
                cases z : u.testBit k with
                | true => rfl
                | false => rw [z] at q; exact absurd rfl q
              have z : w k = 0 := by rw [hwp, hb, if_pos rfl]
              have := ih (k + 1) (by omega) g1 hf hi (by rw [vRs_no z]; exact c1) (by rw [vRs_no z]; exact c2) (by rw [vRs_no z]; exact c3)
              rw [nI_succ] at this
              exact xm_cut hm (this _)
            · have hb : u.testBit k = false := by
                cases z : u.testBit k with
                | false => rfl
                | true => rw [z] at q; exact absurd q (by decide)
              have hd0 : dp = 0 := by
                rcases Nat.eq_zero_or_pos dp with z | z
                · exact z
                · exact absurd y (nI_nle z (by omega))
              have hL7 : L = 7 := by rcases hl with z | z <;> omega
              exact lift (rw1 rfl hb _ (by rw [hL7, vJn_7]; exact Int32.add_zero _) _)
            · have hb : u.testBit k = false := by
                cases z : u.testBit k with
                | false => rfl
                | true => rw [z] at q; exact absurd q (by decide)
              have hd0 : 0 < dp := by
                rcases Nat.eq_zero_or_pos dp with z | z
                · rw [z] at y; exact absurd y (by decide)
                · exact z
              rcases hl with ⟨z, -⟩ | ⟨z1, z2, z3, z4⟩
              · omega
              · obtain ⟨b1, b2⟩ := h11.2.2.1 L z3
                have hL7 : L ≠ 7 := by omega
                refine ⟨dp - 1, ⟨by omega, xn_dec hd0⟩, L, ⟨by omega, ?_⟩, (nx L, k), ⟨?_, b2, hk6⟩, ⟨fun x => ?_, fun x => ?_⟩⟩
                · rw [xg_in, if_neg (by omega), hi _ (by omega)]; exact z4
                · rw [xg_off _ _ _ (by decide), b1]
                · have nb : (nx L).testBit k = false := by
                    cases z : (nx L).testBit k with
                    | false => rfl
                    | true => rw [z] at x; exact absurd x (by decide)
                  exact lift (rw1 rfl hb _ (by unfold vJn; rw [nb, Bool.and_false]; exact Int32.add_zero _) _)
                · have nb : (nx L).testBit k = true := by
                    cases z : (nx L).testBit k with
                    | true => rfl
                    | false => rw [z] at x; exact absurd rfl x
                  exact lift (rw1 rfl hb _ (by unfold vJn; rw [nb, decide_eq_true hL7]; exact nI_1 j) _)
        have st := loop m 0 (by omega) g xRw.rf (fun _ _ => rfl)
        have mxI : vMax (nI dp) 1 = nI (if dp < 1 then 1 else dp) := by
          unfold vMax
          by_cases z : dp < 1
          · rw [if_pos z, if_pos (show nI dp < 1 from nI_lt (b := 1) z (by omega))]; rfl
          · rw [if_neg z, if_neg (show ¬ nI dp < 1 from nI_nlt (b := 1) (by omega) (by omega))]
        have bI : (nI j + nI m - vMax (nI dp) 1).toInt = (j : Int) + m - (if dp < 1 then 1 else dp : Nat) := by
          rw [mxI, xi_sub (a := (j : Int) + m) (b := ((if dp < 1 then 1 else dp : Nat) : Int)) (xi_add jI (nI_toInt (by omega)) (by omega) (by omega)) (nI_toInt (by split <;> omega)) (by split <;> omega) (by split <;> omega)]
        have bnd : vB1 nx m (f + 1) L u + (if dp < 1 then 1 else dp : Nat) ≤ m + 1 := by
          rcases hl with ⟨z, rfl⟩ | ⟨z1, z2, z3, z4⟩
          · have := vB1_7 nx m (f + 1) u (by omega)
            rw [if_pos (by omega)]
            omega
          · have := vB1_le nx m (f + 1) L u
            rw [if_neg (by omega)]
            omega
        refine xm_run_go hm 60 ⟨fun _ => ⟨(nI dp, 1), ⟨rfl, trivial⟩, ⟨fun q => ?_, fun q => ?_⟩⟩, fun y => ?_⟩
        · exact xm_cut hm (st (by rw [vRs_0]; exact e0) (by rw [vRs_0]; exact hM) (by rw [vRs_0]; exact hls) _)
        · rw [h1, e0, xi_le, bI, MI] at q
          have : ¬ M < j + vB1 nx m (f + 1) L u := by omega
          rw [if_neg this] at hQ
          exact hQ _ _ ⟨rfl, xRw.rf, fun _ _ => rfl, e0, hM, hls⟩
        · rw [h1] at y
          exact absurd y (nI_ge hdm (by omega))
def xt_X2_tryBestA : xT := fun av g Q => ∃ f, f ≤ 8 ∧ xt_X2_tryBest f av g Q
theorem xp_X2_tryBestA {l : Launch} {D : va_G} {cA : Nat → ClassId} {B : List (Nat × Cell)} : xm_Met l D cA B xs_X 11 yX2_tryBest cX2_tryBest 6 none xt_X2_tryBestA := fun ad sz av g Q ⟨f, hf, h⟩ => xp_X2_tryBest f 8 hf ad sz av g Q h
theorem xn_X2_tryBestA : xm_mono xt_X2_tryBestA := fun av g Q Q' h ⟨f, hf, k⟩ => ⟨f, hf, xn_X2_tryBest f av g Q Q' h k⟩
theorem vMs_0 : ∀ m, vMs 0 m = m
  | 0 => rfl
  | m + 1 => by simp [vMs, vMs_0 m]
def xt_X2_findBest : xT := xm_rl (Z := Nat × Nat × (Nat → Nat)) (fun (m, sh, nx) av g => av = [.ref 49] ∧ xRows m sh nx g) (fun (m, sh, nx) g o g' => o = none ∧ xRw g g' ∧ g'.1 49 0 = nI (vB1 nx m m 7 0) - 1 ∧ xLs g' 50 (vBp nx m m 7 0))
set_option maxRecDepth 100000 in
set_option maxHeartbeats 4000000 in
theorem xp_X2_findBest {l : Launch} {D : va_G} {cA : Nat → ClassId} {B : List (Nat × Cell)} : xm_Met l D cA B xs_X 12 yX2_findBest cX2_findBest 1 none xt_X2_findBest := by
  have hm : xm_monos [xt_X2_tryBestA] := ⟨xn_X2_tryBestA, trivial⟩
  refine xm_meth (own := RX2) (ks := xk_X2_findBest) (C := xc_X2_findBest) (Ts := [xt_X2_tryBestA]) (by decide +kernel) rfl xm_clsok xs_X_ok xf_X2_ok xi_X2_ok xj_X2_ok (xm_lk xl_X2_56 xp_X2_tryBestA (by decide) xm_lk0) xo_X2_findBest ?_ ?_
  · rintro av g Q ⟨z, ⟨rfl, -⟩, -⟩
    exact Nat.le_of_ble_eq_true rfl
  · rintro av g Q ⟨⟨m, sh, nx⟩, ⟨rfl, hr⟩, hQ⟩
    dsimp only at hQ hr
    have hm8 : m + 1 ≤ 8 := by have := hr.2.2.2.1; omega
    have z6 : (0 : Nat) < 64 := by decide
    have z7 : (0 : Nat) ≤ 20 := by decide
    have zm : 0 + m = m := by omega
    have h1 := (xRw.rf (g := g)).p9 (j := 0) (-1) (by omega)
    have hp := vB1_pos nx m m 7 0 (vMs_0 m)
    refine xm_run_go hm 20 ⟨m + 1, hm8, (0, 0, 0, 7, [], 0, [], m, sh, nx), ⟨rfl, z6, zm, vMs_0 m, Nat.le_refl 0, rfl, xLs_nil, Or.inl ⟨rfl, rfl⟩, z7, ?_, xLs_nil, h1.rows hr⟩, ?_⟩
    · rw [xg_in, if_pos rfl]; decide
    · rintro o g2 ⟨rfl, q1, q2, q3, q4, q5⟩
      rw [Nat.zero_add, List.nil_append, if_pos (show 0 < vB1 nx m m 7 0 from hp)] at q3 q5
      exact hQ _ _ ⟨rfl, h1.tr q1, q3, q5⟩
