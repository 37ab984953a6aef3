def xt_X3_rinse : xT := xm_rl (Z := Nat × Nat × Nat) (fun (b, p, n) av g => av = [.ref b, .int (nI p)] ∧ (b = 11 ∨ b = 20) ∧ p < 6 ∧ n ≤ 5 ∧ g.2.2 b 10 = 29 ∧ g.1 29 8 = nI n) (fun (b, p, n) g o g' => o = none ∧ xFr (b + 1) (b + 1) g g' ∧ ∀ i, g'.1 (b + 1) i = if p * 5 ≤ i ∧ i < p * 5 + n then g.1 (b + 1) i / 2 else g.1 (b + 1) i)
set_option maxRecDepth 100000 in
set_option maxHeartbeats 4000000 in
theorem xp_X3_rinse {l : Launch} {D : va_G} {cA : Nat → ClassId} {B : List (Nat × Cell)} : xm_Met l D cA B xs_X 1 yX3_rinse cX3_rinse 3 none xt_X3_rinse := by
  have hm : xm_monos [xt_X3_cell] := ⟨(by first | exact xm_fn_mono _ _ _ | exact xm_rl_mono _ _), trivial⟩
  refine xm_meth (own := RX3) (ks := xk_X3_rinse) (C := xc_X3_rinse) (Ts := [xt_X3_cell]) (by decide +kernel) rfl xm_clsok xs_X_ok xf_X3_ok xi_X3_ok xj_X3_ok (xm_lk xl_X3_91 xp_X3_cell (by decide) xm_lk0) xo_X3_rinse ?_ ?_
  · rintro av g Q ⟨z, ⟨rfl, -⟩, -⟩
    exact Nat.le_of_ble_eq_true rfl
  · rintro av g Q ⟨⟨b, p, n⟩, ⟨rfl, hb, hp, hn, hst, hn8⟩, hQ⟩
    dsimp only at hQ
    have loop : ∀ d s, s + d = n → ∀ g1, xFr (b + 1) (b + 1) g g1 → (∀ i, g1.1 (b + 1) i = if p * 5 ≤ i ∧ i < p * 5 + s then g.1 (b + 1) i / 2 else g.1 (b + 1) i) → xm_go xs_X xk_X3_rinse [xt_X3_cell] xc_X3_rinse Q (xm_drop 2 xc_X3_rinse) [.ref b, .int (nI p), .int (nI s)] [] g1 := by
      intro d
      induction d with
      | zero =>
        intro s hs g1 hf hi
        have hs : s = n := by omega
        subst hs
        have fin := hQ _ _ ⟨rfl, hf, hi⟩
        have a1 : g1.2.2 b 10 = 29 := by rw [hf.1]; exact hst
        have a2 : g1.1 29 8 = nI s := by rw [hf.2 29 (by omega)]; exact hn8
        rcases hb with rfl | rfl
        all_goals
          refine xm_run_go hm 20 ⟨a1, ⟨fun _ => fin, fun q => ?_⟩⟩
          rw [a2] at q
          exact absurd q (nI_nlt (Nat.le_refl _) (by omega))
      | succ d ih =>
        intro s hs g1 hf hi
        have a1 : g1.2.2 b 10 = 29 := by rw [hf.1]; exact hst
        have a2 : g1.1 29 8 = nI n := by rw [hf.2 29 (by omega)]; exact hn8
        have e0 := xn_cell p s
        have nx : xm_go xs_X xk_X3_rinse [xt_X3_cell] xc_X3_rinse Q (xm_drop 2 xc_X3_rinse) [.ref b, .int (nI p), .int (nI s + 1)] [] (xm_sI g1 (b + 1) (p * 5 + s) (g1.1 (b + 1) (p * 5 + s) / 2)) := by
          rw [nI_1]
          refine ih (s + 1) (by omega) _ (hf.put _ _ (by omega) (by omega)) (fun i => ?_)
          rw [xg_in]
          by_cases z : i = p * 5 + s
          · rw [if_pos z, if_pos (by omega), hi, if_neg (by omega), z]
          · rw [if_neg z, hi]
            by_cases y : p * 5 ≤ i ∧ i < p * 5 + s
            · rw [if_pos y, if_pos (by omega)]
            · rw [if_neg y, if_neg (by omega)]
        rcases hb with rfl | rfl
        all_goals
          refine xm_run_go hm 30 ⟨a1, ⟨fun q => ?_, fun _ => ⟨(nI p, nI s), ⟨rfl, trivial⟩, p * 5 + s, ⟨by omega, e0⟩, by decide, p * 5 + s, ⟨by omega, e0⟩, xm_cut hm nx⟩⟩⟩
          rw [a2] at q
          exact absurd q (nI_ge (by omega) (by omega))
    exact xm_run_go hm 10 (xm_cut hm (loop n 0 (by omega) g xFr.rf (fun i => by rw [if_neg (by omega)])))
theorem xn_dec {n : Nat} (h : 0 < n) : nI n - 1 = nI (n - 1) := by
  obtain ⟨k, rfl⟩ : ∃ k, n = k + 1 := ⟨n - 1, by omega⟩
  rw [nI_pred]; rfl
def xt_X3_move : xT := xm_rl (Z := Nat × Nat × Nat × vSt × vSc) (fun (b, p, s, t, c) av g => av = [.ref b, .int (nI p), .int (nI s)] ∧ p < tM t ∧ s < tM t ∧ vCok t c ∧ xIn b t c g) (fun (b, p, s, t, c) g o g' => o = none ∧ xIn b t (vMove c p s) g' ∧ xFr b (b + 8) g g')
set_option maxRecDepth 100000 in
set_option maxHeartbeats 4000000 in
theorem xp_X3_move {l : Launch} {D : va_G} {cA : Nat → ClassId} {B : List (Nat × Cell)} : xm_Met l D cA B xs_X 3 yX3_move cX3_move 5 none xt_X3_move := by
  have hm : xm_monos [xt_X3_settle] := ⟨(by first | exact xm_fn_mono _ _ _ | exact xm_rl_mono _ _), trivial⟩
  refine xm_meth (own := RX3) (ks := xk_X3_move) (C := xc_X3_move) (Ts := [xt_X3_settle]) (by decide +kernel) rfl xm_clsok xs_X_ok xf_X3_ok xi_X3_ok xj_X3_ok (xm_lk xl_X3_53 xp_X3_settle (by decide) xm_lk0) xo_X3_move ?_ ?_
  · rintro av g Q ⟨z, ⟨rfl, -⟩, -⟩
    exact Nat.le_of_ble_eq_true rfl
  · rintro av g Q ⟨⟨b, p, s, t, c⟩, ⟨rfl, hp, hs, hc, h⟩, hQ⟩
    dsimp only at h hQ
    have hb := h.1
    have hm6 := h.2.1.2.1
    have hfr := (hc.2.1 p hp).1
    have hb29 : b + 9 ≤ 29 := by omega
    generalize hfrom : cS c p = f at hfr
    have e0 : g.1 (b + 3) p = nI f := by rw [← hfrom]; exact (h.2.2.2.2 p hp).1
    obtain ⟨r0, r1, r2, r3, r4⟩ := h.2.2.2.1
    have fin : ∀ g1, xFr (b + 2) (b + 2) g g1 → (∀ k, k < 6 → g1.1 (b + 2) k = nI (if f ≤ k ∧ k < s then cR c (k + 1) else if s < k ∧ k ≤ f then cR c (k - 1) else cR c k)) →
        xRaw b (vMove c p s) (xm_sI g1 (b + 2) s (nI p)) ∧ xSto 29 t (xm_sI g1 (b + 2) s (nI p)) ∧ xFr b (b + 8) g (xm_sI g1 (b + 2) s (nI p)) := by
      intro g1 hf hi
      refine ⟨⟨by rw [xg_2, hf.1]; exact r0, fun i hi2 => ?_, fun k hk => ?_, ?_, ?_⟩, h.2.2.1.fr (fun k h1 h2 => (xg_off _ _ _ (by omega)).trans (hf.2 k (by omega))), (hf.up (by omega) (by omega)).put _ _ (by omega) (by omega)⟩
      · rw [xg_off _ _ _ (by omega), hf.2 _ (by omega)]; exact r1 i hi2
      · rw [xg_in]
        show _ = nI (if k = s then p else if cS c p ≤ k ∧ k < s then cR c (k + 1) else if s < k ∧ k ≤ cS c p then cR c (k - 1) else cR c k)
        rw [hfrom]
        by_cases z : k = s
        · rw [if_pos z, if_pos z]
        · rw [if_neg z, if_neg z]; exact hi k hk
      · rw [xg_off _ _ _ (by omega), hf.2 _ (by omega)]; exact r3
      · rw [xg_off _ _ _ (by omega), hf.2 _ (by omega)]; exact r4
    have ok := vMove_ok h.2.1 hc hp hs
    have loop2 : ∀ d j, j = (if f ≤ s then f else s) + d → j ≤ f → ∀ g1, xFr (b + 2) (b + 2) g g1 → (∀ k, k < 6 → g1.1 (b + 2) k = nI (if f ≤ k ∧ k < s then cR c (k + 1) else if j < k ∧ k ≤ f then cR c (k - 1) else cR c k)) → xm_go xs_X xk_X3_move [xt_X3_settle] xc_X3_move Q (xm_drop 24 xc_X3_move) [.ref b, .int (nI p), .int (nI s), .int (nI f), .int (nI j)] [] g1 := by
      intro d
      induction d with
      | zero =>
        intro j hj hjf g1 hf hi
        have hle : j ≤ s := by split at hj <;> omega
        obtain ⟨k1, k2, k3⟩ := fin g1 hf (fun k hk => by
          rw [hi k hk]
          by_cases z : f ≤ k ∧ k < s
          · rw [if_pos z, if_pos z]
          · rw [if_neg z, if_neg z]
            split at hj
            · rw [if_neg (by omega), if_neg (by omega)]
            · rw [show j = s by omega])
        rcases hb with rfl | rfl
        all_goals
          refine xm_run_go hm 20 ⟨fun _ => ⟨s, ⟨by omega, rfl⟩, ⟨(_, t, vMove c p s), ⟨rfl, h.1, h.2.1, ok, k2, k1⟩, ?_⟩⟩, fun q => ?_⟩
          · rintro o g2 ⟨rfl, h3, h4⟩
            exact hQ _ _ ⟨rfl, ⟨h.1, h.2.1, k2.fr (fun k h1 h2 => h4.2 k (by dsimp only; omega)), h3⟩, k3.tr (h4.up (by dsimp only; omega) (by dsimp only; omega))⟩
          · exact absurd q (nI_nlt hle (by omega))
      | succ d ih =>
        intro j hj hjf g1 hf hi
        have hlt : s < j := by split at hj <;> omega
        have e1 : nI j - 1 = nI (j - 1) := xn_dec (by omega)
        have e2 : nI j + (-1) = nI (j - 1) := sb_m1 (by omega)
        have nx : xm_go xs_X xk_X3_move [xt_X3_settle] xc_X3_move Q (xm_drop 24 xc_X3_move) [.ref b, .int (nI p), .int (nI s), .int (nI f), .int (nI j + (-1))] [] (xm_sI g1 (b + 2) j (g1.1 (b + 2) (j - 1))) := by
          rw [e2]
          refine ih (j - 1) (by omega) (by omega) _ (hf.put _ _ (by omega) (by omega)) (fun k hk => ?_)
          rw [xg_in]
          by_cases z : k = j
          · rw [if_pos z, hi _ (by omega), z, if_neg (by omega), if_neg (by omega), if_neg (by omega), if_pos (by omega)]
          · rw [if_neg z, hi k hk]
            by_cases y : f ≤ k ∧ k < s
            · rw [if_pos y, if_pos y]
            · rw [if_neg y, if_neg y]
              by_cases x : j < k ∧ k ≤ f
              · rw [if_pos x, if_pos (by omega)]
              · rw [if_neg x, if_neg (by omega)]
        rcases hb with rfl | rfl
        all_goals
          refine xm_run_go hm 30 ⟨fun q => ?_, fun _ => ⟨j - 1, ⟨by omega, e1⟩, j, ⟨by omega, rfl⟩, xm_cut hm nx⟩⟩
          exact absurd q (nI_ge hlt (by omega))
    have loop1 : ∀ d i, i + d = (if f ≤ s then s else f) → f ≤ i → ∀ g1, xFr (b + 2) (b + 2) g g1 → (∀ k, k < 6 → g1.1 (b + 2) k = nI (if f ≤ k ∧ k < i then cR c (k + 1) else cR c k)) → xm_go xs_X xk_X3_move [xt_X3_settle] xc_X3_move Q (xm_drop 7 xc_X3_move) [.ref b, .int (nI p), .int (nI s), .int (nI f), .int (nI i)] [] g1 := by
      intro d
      induction d with
      | zero =>
        intro i hi2 hfi g1 hf hi
        have hle : s ≤ i := by split at hi2 <;> omega
        have nx := loop2 (f - (if f ≤ s then f else s)) f (by split <;> omega) (Nat.le_refl _) g1 hf (fun k hk => by
          rw [hi k hk]
          by_cases z : f ≤ k ∧ k < s
          · rw [if_pos z, if_pos (by omega)]
          · rw [if_neg z, if_neg (by split at hi2 <;> omega), if_neg (by omega)])
        rcases hb with rfl | rfl
        all_goals
          refine xm_run_go hm 20 ⟨fun _ => xm_cut hm nx, fun q => ?_⟩
          exact absurd q (nI_nlt hle (by split at hi2 <;> omega))
      | succ d ih =>
        intro i hi2 hfi g1 hf hi
        have hlt : i < s := by split at hi2 <;> omega
        have e1 : nI i + 1 = nI (i + 1) := nI_1 i
        have nx : xm_go xs_X xk_X3_move [xt_X3_settle] xc_X3_move Q (xm_drop 7 xc_X3_move) [.ref b, .int (nI p), .int (nI s), .int (nI f), .int (nI i + 1)] [] (xm_sI g1 (b + 2) i (g1.1 (b + 2) (i + 1))) := by
          rw [e1]
          refine ih (i + 1) (by omega) (by omega) _ (hf.put _ _ (by omega) (by omega)) (fun k hk => ?_)
          rw [xg_in]
          by_cases z : k = i
          · rw [if_pos z, hi _ (by omega), if_neg (by omega), if_pos (by omega), z]
          · rw [if_neg z, hi k hk]
            by_cases y : f ≤ k ∧ k < i
            · rw [if_pos y, if_pos (by omega)]
            · rw [if_neg y, if_neg (by omega)]
        rcases hb with rfl | rfl
        all_goals
          refine xm_run_go hm 30 ⟨fun q => ?_, fun _ => ⟨i + 1, ⟨by omega, e1⟩, i, ⟨by omega, rfl⟩, xm_cut hm nx⟩⟩
          exact absurd q (nI_ge hlt (by omega))
    have start := loop1 ((if f ≤ s then s else f) - f) f (by split <;> omega) (Nat.le_refl _) g xFr.rf (fun k hk => by rw [if_neg (by omega)]; exact r2 k hk)
    rw [← e0] at start
    rcases hb with rfl | rfl
    all_goals
      exact xm_run_go hm 20 ⟨p, ⟨by omega, rfl⟩, xm_cut hm start⟩
