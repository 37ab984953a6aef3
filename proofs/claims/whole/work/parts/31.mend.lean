-- the fewest slides to be thrown so that the row joins
def vChp (c : Nat → Nat) (ok : Nat → Bool) (F : Nat) : Nat → Int32 × Nat
  | 0 => (-2, F)
  | k + 1 => if ok k && decide (c k < (vChp c ok F k).2) then (nI k, c k) else vChp c ok F k
def vAt (t : vSt) (c : vSc) (k s : Nat) : Nat := if vPic t c (cR c k) = nI s then 0 else 1
def vCs (t : vSt) (c : vSc) (F : Nat) : Nat → Nat → Nat
  | 0, s => vAt t c (tM t - 1) s
  | r + 1, s => vAt t c (tM t - 1 - (r + 1)) s + (vChp (vCs t c F r) (fun o => decide (tL t o = tR t s)) F (tN t)).2
theorem vChp_le (c : Nat → Nat) (ok : Nat → Bool) (F : Nat) : ∀ n, (vChp c ok F n).2 ≤ F
  | 0 => Nat.le_refl _
  | n + 1 => by
    have ih := vChp_le c ok F n
    unfold vChp
    split
    · rename_i h
      simp only [Bool.and_eq_true, decide_eq_true_eq] at h
      exact Nat.le_of_lt (Nat.lt_of_lt_of_le h.2 ih)
    · exact ih
theorem vCs_le (t : vSt) (c : vSc) (F r s : Nat) : vCs t c F r s ≤ F + 1 := by
  have ha : ∀ k, vAt t c k s ≤ 1 := fun k => by unfold vAt; split <;> omega
  cases r with
  | zero => have := ha (tM t - 1); simp only [vCs]; omega
  | succ r =>
    have h1 := ha (tM t - 1 - (r + 1))
    have h2 := vChp_le (vCs t c F r) (fun o => decide (tL t o = tR t s)) F (tN t)
    simp only [vCs]
    omega
theorem vChp_pic (c : Nat → Nat) (ok : Nat → Bool) (F : Nat) : ∀ n, ((vChp c ok F n).1 = -2 ∧ (vChp c ok F n).2 = F) ∨ ∃ s, s < n ∧ (vChp c ok F n).1 = nI s ∧ (vChp c ok F n).2 = c s ∧ ok s = true
  | 0 => Or.inl ⟨rfl, rfl⟩
  | n + 1 => by
    unfold vChp
    split
    · rename_i h
      simp only [Bool.and_eq_true] at h
      exact Or.inr ⟨n, by omega, rfl, rfl, h.1⟩
    · rcases vChp_pic c ok F n with h | ⟨s, h1, h2⟩
      · exact Or.inl h
      · exact Or.inr ⟨s, by omega, h2⟩
def xt_X2_cheapest : xT := xm_fn (Z := Nat × Int32 × (Nat → Nat) × vSt) (fun (k, e, c, t) av g => av = [.ref 49, .ref 29, .int (nI k), .int e] ∧ k < 6 ∧ vTok t ∧ xSto 29 t g ∧ ∀ s, s < tN t → g.1 53 (k * 5 + s) = nI (c s) ∧ c s ≤ 1001) (fun (k, e, c, t) _ => some (.int (vChp c (fun o => decide (e = -1) || decide (tL t o = e)) 1000 (tN t)).1)) (fun _ g => g)
set_option maxRecDepth 100000 in
set_option maxHeartbeats 400000 in
theorem xp_X2_cheapest {l : Launch} {D : va_G} {cA : Nat → ClassId} {B : List (Nat × Cell)} : xm_Met l D cA B xs_X 1 yX2_cheapest cX2_cheapest 8 (some .int) xt_X2_cheapest := by
  have hm : xm_monos [xt_X3_cell] := ⟨(by first | exact xm_fn_mono _ _ _ | exact xm_rl_mono _ _), trivial⟩
  refine xm_meth (own := RX2) (ks := xk_X2_cheapest) (C := xc_X2_cheapest) (Ts := [xt_X3_cell]) (by decide +kernel) rfl xm_clsok xs_X_ok xf_X2_ok xi_X2_ok xj_X2_ok (xm_lk xl_X2_109 xp_X3_cell (by decide) xm_lk0) xo_X2_cheapest ?_ ?_
  · rintro av g Q ⟨z, ⟨rfl, -⟩, -⟩
    exact Nat.le_of_ble_eq_true rfl
  · rintro av g Q ⟨⟨k, e, c, t⟩, ⟨rfl, hk, ht, hs, hc⟩, hQ⟩
    dsimp only at hk ht hs hc hQ
    have hn5 := ht.1
    generalize hok : (fun o => decide (e = -1) || decide (tL t o = e)) = ok at hQ
    have okp : ∀ o, ok o = (decide (e = -1) || decide (tL t o = e)) := fun o => by rw [← hok]
    have loop : ∀ d s, s + d = tN t → ∀ v4 v5, v4 = (vChp c ok 1000 s).1 → v5 = nI (vChp c ok 1000 s).2 → ∀ w7, xm_go xs_X xk_X2_cheapest [xt_X3_cell] xc_X2_cheapest Q (xm_drop 6 xc_X2_cheapest) [.ref 49, .ref 29, .int (nI k), .int e, .int v4, .int v5, .int (nI s), w7] [] g := by
      intro d
      induction d with
      | zero =>
        intro s h7 v4 v5 e4 e5 w7
        have h7 : s = tN t := by omega
        subst h7
        subst e4
        refine xm_run_go hm 30 ⟨fun _ => hQ, fun q => ?_⟩
        rw [hs.1] at q
        exact absurd q (nI_nlt (Nat.le_refl _) (by omega))
      | succ d ih =>
        intro s h7 v4 v5 e4 e5 w7
        obtain ⟨b1, b2⟩ := hc s (by omega)
        have b3 := (hs.2.2.1 s (by omega)).1
        have hle := vChp_le c ok 1000 s
        have nx := ih (s + 1) (by omega)
        rw [nI_succ] at nx
        have no : ¬ (ok s && decide (c s < (vChp c ok 1000 s).2)) = true → ∀ w7, xm_go xs_X xk_X2_cheapest [xt_X3_cell] xc_X2_cheapest Q (xm_drop 6 xc_X2_cheapest) [.ref 49, .ref 29, .int (nI k), .int e, .int v4, .int v5, .int (nI s + 1), w7] [] g := fun z w7 =>
          nx v4 v5 (by rw [vChp, if_neg z]; exact e4) (by rw [vChp, if_neg z]; exact e5) w7
        have yes : (ok s && decide (c s < (vChp c ok 1000 s).2)) = true → ∀ v w7, v = nI (c s) → xm_go xs_X xk_X2_cheapest [xt_X3_cell] xc_X2_cheapest Q (xm_drop 6 xc_X2_cheapest) [.ref 49, .ref 29, .int (nI k), .int e, .int (nI s), .int v, .int (nI s + 1), w7] [] g := fun z v w7 hv =>
          nx _ v (by rw [vChp, if_pos z]) (by rw [vChp, if_pos z]; exact hv) w7
        have l1 : ok s = true → ¬ g.1 53 (k * 5 + s) < v5 → ¬ (ok s && decide (c s < (vChp c ok 1000 s).2)) = true := fun z q y => by
          simp only [Bool.and_eq_true, decide_eq_true_eq] at y
          rw [b1, e5] at q
          exact q ((nI_ltI (by omega) (by omega)).mpr y.2)
        have l2 : ok s = true → g.1 53 (k * 5 + s) < v5 → (ok s && decide (c s < (vChp c ok 1000 s).2)) = true := fun z q => by
          rw [b1, e5] at q
          rw [z, Bool.true_and, decide_eq_true_eq]
          exact (nI_ltI (by omega) (by omega)).mp q
        have o1 : e = -1 → ok s = true := fun q => by rw [okp, decide_eq_true q]; rfl
        have o2 : g.1 30 s = e → ok s = true := fun y => by
          rw [b3] at y
          rw [okp, decide_eq_true y, Bool.or_true]
        refine xm_run_go hm 50 ⟨fun q => ?_, fun _ => ⟨(nI k, nI s), ⟨rfl, trivial⟩, k * 5 + s, ⟨by omega, xn_cell k s⟩, ⟨fun q => ⟨fun y => xm_cut hm (no (l1 (o1 q) (Int32.not_lt.mpr y)) _), fun y => xm_cut hm (yes (l2 (o1 q) y) _ _ b1)⟩, fun q => ⟨s, ⟨by omega, rfl⟩, ⟨fun y => xm_cut hm (no (fun z => ?_) _), fun x => ⟨fun y => xm_cut hm (no (l1 (o2 x) (Int32.not_lt.mpr y)) _), fun y => xm_cut hm (yes (l2 (o2 x) y) _ _ b1)⟩⟩⟩⟩⟩⟩
        · rw [hs.1] at q
          exact absurd q (nI_ge (by omega) (by omega))
        · rw [b3] at y
          rw [okp, decide_eq_false q, decide_eq_false y] at z
          exact absurd z (by simp)
    exact xm_run_go hm 20 (xm_cut hm (loop (tN t) 0 (by omega) _ _ rfl (xn_c 1000) _))

theorem vOk_pos {t : vSt} {e : Int32} (h : 0 ≤ e) : (fun o => decide (e = -1) || decide (tL t o = e)) = fun o => decide (tL t o = e) := by
  funext o
  rw [decide_eq_false (fun z => by rw [z] at h; exact absurd h (by decide)), Bool.false_or]
theorem vOk_neg {t : vSt} : (fun o => decide ((-1 : Int32) = -1) || decide (tL t o = -1)) = fun _ => true := by
  funext o
  rw [decide_eq_true rfl, Bool.true_or]
def vDn (t : vSt) (c : vSc) (j : Nat) (g : xG) : Prop := ∀ k, j ≤ k → k < tM t → ∀ s, s < tN t → g.1 53 (k * 5 + s) = nI (vCs t c 1000 (tM t - 1 - k) s)
def xt_X2_weigh : xT := xm_rl (Z := vSt × vSc) (fun (t, c) av g => av = [.ref 49, .ref 11] ∧ xIn 11 t c g ∧ vCok t c) (fun (t, c) g o g' => o = none ∧ vDn t c 0 g' ∧ xFr 53 53 g g')
set_option maxRecDepth 100000 in
set_option maxHeartbeats 400000 in
theorem xp_X2_weigh {l : Launch} {D : va_G} {cA : Nat → ClassId} {B : List (Nat × Cell)} : xm_Met l D cA B xs_X 2 yX2_weigh cX2_weigh 7 none xt_X2_weigh := by
  have hm : xm_monos [xt_X2_cheapest, xt_X3_cell] := ⟨(by first | exact xm_fn_mono _ _ _ | exact xm_rl_mono _ _), (by first | exact xm_fn_mono _ _ _ | exact xm_rl_mono _ _), trivial⟩
  refine xm_meth (own := RX2) (ks := xk_X2_weigh) (C := xc_X2_weigh) (Ts := [xt_X2_cheapest, xt_X3_cell]) (by decide +kernel) rfl xm_clsok xs_X_ok xf_X2_ok xi_X2_ok xj_X2_ok (xm_lk xl_X2_105 xp_X2_cheapest (by decide) (xm_lk xl_X2_109 xp_X3_cell (by decide) xm_lk0)) xo_X2_weigh ?_ ?_
  · rintro av g Q ⟨z, ⟨rfl, -⟩, -⟩
    exact Nat.le_of_ble_eq_true rfl
  · rintro av g Q ⟨⟨t, c⟩, ⟨rfl, h, hc⟩, hQ⟩
    dsimp only at h hc hQ
    have hn5 := h.2.1.1
    have hm6 := h.2.1.2.1
    have base : ∀ {g1 : xG}, xFr 53 53 g g1 → xIn 11 t c g1 := fun hf => ⟨Or.inl rfl, h.2.1, h.2.2.1.fr (fun k h1 h2 => hf.2 k (by omega)), h.2.2.2.fr hf.1 (fun k h1 h2 => hf.2 k (by omega))⟩
    have inner : ∀ k, k < tM t → (∀ g1, xFr 53 53 g g1 → vDn t c k g1 → ∀ v, v = nI k - 1 → ∀ w4 w5 w6, xm_go xs_X xk_X2_weigh [xt_X2_cheapest, xt_X3_cell] xc_X2_weigh Q (xm_drop 8 xc_X2_weigh) [.ref 49, .ref 11, .ref 29, .int v, w4, w5, w6] [] g1) →
        ∀ d s, s + d = tN t → ∀ g1, xFr 53 53 g g1 → vDn t c (k + 1) g1 → (∀ s', s' < s → g1.1 53 (k * 5 + s') = nI (vCs t c 1000 (tM t - 1 - k) s')) → ∀ w5 w6, xm_go xs_X xk_X2_weigh [xt_X2_cheapest, xt_X3_cell] xc_X2_weigh Q (xm_drop 12 xc_X2_weigh) [.ref 49, .ref 11, .ref 29, .int (nI k), .int (nI s), w5, w6] [] g1 := by
      intro k hk hout d
      have hk6 : k < 6 := by omega
      induction d with
      | zero =>
        intro s hs g1 hf a1 a2 w5 w6
        have hs : s = tN t := by omega
        subst hs
        have h1 := base hf
        have nx := hout g1 hf (fun j hj1 hj2 s hs => by
          by_cases z : j = k
          · rw [z]; exact a2 s hs
          · exact a1 j (by omega) hj2 s hs) (nI k + -1) (Int32.sub_eq_add_neg _ _).symm
        refine xm_run_go hm 20 ⟨fun _ => xm_cut hm (nx _ _ _), fun z => ?_⟩
        rw [h1.2.2.1.1] at z
        exact absurd z (nI_nlt (Nat.le_refl _) (by omega))
      | succ d ih =>
        intro s hs g1 hf a1 a2 w5 w6
        have h1 := base hf
        have hsn : s < tN t := by omega
        have hks : k * 5 + s < 30 := by omega
        have rk : g1.1 13 k = nI (cR c k) := h1.2.2.2.1.2.2.1 k hk6
        have rl : cR c k < tM t := (hc.1 k hk).1
        have r6 : cR c k < 6 := by omega
        have pk := (h1.2.2.2.2 (cR c k) rl).2.1
        have rr : g1.1 31 s = tR t s := (h1.2.2.1.2.2.1 s hsn).2.1
        have r0 : 0 ≤ tR t s := (h.2.1.2.2 s hsn).2
        have nx : ∀ x, x = nI (vCs t c 1000 (tM t - 1 - k) s) → ∀ w5 w6, xm_go xs_X xk_X2_weigh [xt_X2_cheapest, xt_X3_cell] xc_X2_weigh Q (xm_drop 12 xc_X2_weigh) [.ref 49, .ref 11, .ref 29, .int (nI k), .int (nI s + 1), w5, w6] [] (xm_sI g1 53 (k * 5 + s) x) := fun x hx w5 w6 => by
          rw [nI_1]
          refine ih (s + 1) (by omega) _ (hf.put _ _ (by omega) (by omega)) (fun j hj1 hj2 s2 hs2 => ?_) (fun s2 hs2 => ?_) w5 w6
          · rw [xg_in, if_neg (by omega)]; exact a1 j hj1 hj2 s2 hs2
          · rw [xg_in]
            by_cases z : s2 = s
            · rw [if_pos (by omega), z]; exact hx
            · rw [if_neg (by omega)]; exact a2 s2 (by omega)
        have at0 : ∀ {x : Int32}, (g1.1 15 (cR c k) = nI s → x = 0) → (¬ g1.1 15 (cR c k) = nI s → x = 1) → x = nI (vAt t c k s) := fun {x} y1 y2 => by
          unfold vAt
          rw [← pk]
          split
          · rename_i z; exact y1 z
          · rename_i z; exact y2 z
        have w1 : tM t ≤ k + 1 → vCs t c 1000 (tM t - 1 - k) s = vAt t c k s := fun z => by
          rw [show tM t - 1 - k = 0 by omega, vCs, show tM t - 1 = k by omega]
        by_cases hl : k + 1 < tM t
        · generalize hz : vChp (vCs t c 1000 (tM t - 1 - (k + 1))) (fun o => decide (tR t s = -1) || decide (tL t o = tR t s)) 1000 (tN t) = z
          have w2 : vCs t c 1000 (tM t - 1 - k) s = vAt t c k s + z.2 := by
            rw [show tM t - 1 - k = (tM t - 1 - (k + 1)) + 1 by omega, vCs, show tM t - 1 - (tM t - 1 - (k + 1) + 1) = k by omega, ← hz, vOk_pos r0]
          have z3 : (z.1 = -2 ∧ z.2 = 1000) ∨ ∃ o, o < tN t ∧ z.1 = nI o ∧ z.2 = vCs t c 1000 (tM t - 1 - (k + 1)) o := by
            rw [← hz]
            rcases vChp_pic (vCs t c 1000 (tM t - 1 - (k + 1))) (fun o => decide (tR t s = -1) || decide (tL t o = tR t s)) 1000 (tN t) with q | ⟨o, q1, q2, q3, -⟩
            · exact Or.inl q
            · exact Or.inr ⟨o, q1, q2, q3⟩
          have pre : ∀ s, s < tN t → g1.1 53 ((k + 1) * 5 + s) = nI (vCs t c 1000 (tM t - 1 - (k + 1)) s) ∧ vCs t c 1000 (tM t - 1 - (k + 1)) s ≤ 1001 := fun s hs => ⟨a1 (k + 1) (Nat.le_refl _) hl s hs, vCs_le _ _ _ _ _⟩
          have k1 : k + 1 < 6 := by omega
          have ea : [Value.ref 49, .ref 29, .int (nI k + 1), .int (g1.1 31 s)] = [Value.ref 49, .ref 29, .int (nI (k + 1)), .int (g1.1 31 s)] := by rw [nI_succ]
          have zz : (vChp (vCs t c 1000 (tM t - 1 - (k + 1))) (fun o => decide (g1.1 31 s = -1) || decide (tL t o = g1.1 31 s)) 1000 (tN t)).1 = z.1 := by rw [rr, hz]
          refine xm_run_go hm 60 ⟨fun q => ?_, fun _ => ⟨k, ⟨hk6, rfl⟩, cR c k, ⟨r6, rk⟩, ⟨fun q => ?_, fun q => ?_⟩⟩⟩
          · rw [h1.2.2.1.1] at q
            exact absurd q (nI_ge hsn (by omega))
          all_goals
            have e5 := at0 (fun y => by first | exact absurd y q | rfl) (fun y => by first | exact absurd q y | rfl)
            refine ⟨fun y => ?_, fun y => ⟨s, ⟨by omega, rfl⟩, (k + 1, g1.1 31 s, vCs t c 1000 (tM t - 1 - (k + 1)), t), ⟨ea, k1, h.2.1, h1.2.2.1, pre⟩, ⟨fun x => ?_, fun x => ?_⟩⟩⟩
            · rw [h1.2.2.1.2.1] at y
              rw [← nI_succ] at y
              exact absurd y (nI_ge hl (by omega))
            · rw [zz] at x
              rcases z3 with ⟨z1, z2⟩ | ⟨o, z0, z1, z2⟩
              · rw [z1] at x; exact absurd x (by decide)
              · refine ⟨(nI k + 1, (vChp (vCs t c 1000 (tM t - 1 - (k + 1))) (fun o => decide (g1.1 31 s = -1) || decide (tL t o = g1.1 31 s)) 1000 (tN t)).1), ⟨rfl, trivial⟩, (k + 1) * 5 + o, ⟨by omega, ?_⟩, (nI k, nI s), ⟨rfl, trivial⟩, k * 5 + s, ⟨hks, xn_cell k s⟩, xm_cut hm (nx _ ?_ _ _)⟩
                · rw [zz, z1, ← xn_cell, nI_succ]
                · rw [w2, z2, e5, (pre o z0).1, nI_add]
            · rw [zz] at x
              rcases z3 with ⟨z1, z2⟩ | ⟨o, z0, z1, z2⟩
              · refine ⟨(nI k, nI s), ⟨rfl, trivial⟩, k * 5 + s, ⟨hks, xn_cell k s⟩, xm_cut hm (nx _ ?_ _ _)⟩
                rw [w2, z2, e5, ← nI_add]
                exact congrArg (nI _ + ·) (xn_c 1000)
              · rw [z1] at x; exact absurd x (nI_pos (by omega))
        · refine xm_run_go hm 60 ⟨fun q => ?_, fun _ => ⟨k, ⟨hk6, rfl⟩, cR c k, ⟨r6, rk⟩, ⟨fun q => ?_, fun q => ?_⟩⟩⟩
          · rw [h1.2.2.1.1] at q
            exact absurd q (nI_ge hsn (by omega))
          all_goals
            have e5 := at0 (fun y => by first | exact absurd y q | rfl) (fun y => by first | exact absurd q y | rfl)
            refine ⟨fun y => ⟨(nI k, nI s), ⟨rfl, trivial⟩, k * 5 + s, ⟨hks, xn_cell k s⟩, xm_cut hm (nx _ ?_ _ _)⟩, fun y => ?_⟩
            · rw [w1 (by omega)]; exact e5
            · rw [h1.2.2.1.2.1, ← nI_succ] at y
              exact absurd y (nI_nlt (by omega) (by omega))
    have outer : ∀ j, j ≤ tM t → ∀ g1, xFr 53 53 g g1 → vDn t c j g1 → ∀ v, v = nI j - 1 → ∀ w4 w5 w6, xm_go xs_X xk_X2_weigh [xt_X2_cheapest, xt_X3_cell] xc_X2_weigh Q (xm_drop 8 xc_X2_weigh) [.ref 49, .ref 11, .ref 29, .int v, w4, w5, w6] [] g1 := by
      intro j
      induction j with
      | zero =>
        intro hj g1 hf a1 v hv w4 w5 w6
        refine xm_run_go hm 20 ⟨fun _ => hQ _ _ ⟨rfl, a1, hf⟩, fun z => ?_⟩
        rw [hv] at z
        exact absurd z (by decide)
      | succ j ih =>
        intro hj g1 hf a1 v hv w4 w5 w6
        have hv : v = nI j := by rw [hv, nI_succ, Int32.add_sub_cancel]
        subst hv
        refine xm_run_go hm 20 ⟨fun z => absurd z (nI_pos (by omega)), fun _ => xm_cut hm (inner j (by omega) (ih (by omega)) (tN t) 0 (by omega) g1 hf a1 (fun _ z => by omega) _ _)⟩
    have fin := outer (tM t) (Nat.le_refl _) g xFr.rf (fun k h1 h2 => by omega) (g.1 29 9 - 1) (by rw [h.m])
    exact xm_run_go hm 20 ⟨h.st, xm_cut hm (fin _ _ _)⟩

/-- the slide that comes to a seat -/
def vMd (t : vSt) (c : vSc) (F : Nat) : Nat → Int32
  | 0 => (vChp (vCs t c F (tM t - 1)) (fun _ => true) F (tN t)).1
  | i + 1 => if vMd t c F i < 0 then vMd t c F i else (vChp (vCs t c F (tM t - 1 - (i + 1))) (fun o => decide (tL t o = tR t (vMd t c F i).toNatClampNeg)) F (tN t)).1
def vMended (t : vSt) (c : vSc) (i : Int32) : Int32 :=
  if tM t = 0 then 0 else if vMd t c 1000 0 < 0 then -2 else if i = -1 then nI (vChp (vCs t c 1000 (tM t - 1)) (fun _ => true) 1000 (tN t)).2 else vMd t c 1000 i.toNatClampNeg
theorem vMd_or (t : vSt) (c : vSc) (F i : Nat) : vMd t c F i = -2 ∨ ∃ s, s < tN t ∧ vMd t c F i = nI s := by
  induction i with
  | zero =>
    rcases vChp_pic (vCs t c F (tM t - 1)) (fun _ => true) F (tN t) with h | ⟨s, h1, h2, -⟩
    · exact Or.inl h.1
    · exact Or.inr ⟨s, h1, h2⟩
  | succ i ih =>
    simp only [vMd]
    split
    · exact ih
    · rcases vChp_pic (vCs t c F (tM t - 1 - (i + 1))) (fun o => decide (tL t o = tR t (vMd t c F i).toNatClampNeg)) F (tN t) with h | ⟨s, h1, h2, -⟩
      · exact Or.inl h.1
      · exact Or.inr ⟨s, h1, h2⟩
theorem vMd_st (t : vSt) (c : vSc) (F i : Nat) (h : vMd t c F i < 0) : ∀ d, vMd t c F (i + d) = vMd t c F i
  | 0 => rfl
  | d + 1 => by
    have ih := vMd_st t c F i h d
    show vMd t c F (i + d + 1) = _
    rw [vMd, ih, if_pos h]
def xt_X2_mended : xT := xm_rl (Z := Int32 × vSt × vSc) (fun (i, t, c) av g => av = [.ref 49, .ref 11, .int i] ∧ xIn 11 t c g ∧ vCok t c ∧ (i = -1 ∨ ∃ k, k < tM t ∧ i = nI k)) (fun (i, t, c) g o g' => o = some (.int (vMended t c i)) ∧ xFr 53 53 g g')
set_option maxRecDepth 100000 in
set_option maxHeartbeats 400000 in
theorem xp_X2_mended {l : Launch} {D : va_G} {cA : Nat → ClassId} {B : List (Nat × Cell)} : xm_Met l D cA B xs_X 3 yX2_mended cX2_mended 6 (some .int) xt_X2_mended := by
  have hm : xm_monos [xt_X2_weigh, xt_X2_cheapest, xt_X3_cell] := ⟨(by first | exact xm_fn_mono _ _ _ | exact xm_rl_mono _ _), (by first | exact xm_fn_mono _ _ _ | exact xm_rl_mono _ _), (by first | exact xm_fn_mono _ _ _ | exact xm_rl_mono _ _), trivial⟩
  refine xm_meth (own := RX2) (ks := xk_X2_mended) (C := xc_X2_mended) (Ts := [xt_X2_weigh, xt_X2_cheapest, xt_X3_cell]) (by decide +kernel) rfl xm_clsok xs_X_ok xf_X2_ok xi_X2_ok xj_X2_ok (xm_lk xl_X2_101 xp_X2_weigh (by decide) (xm_lk xl_X2_105 xp_X2_cheapest (by decide) (xm_lk xl_X2_109 xp_X3_cell (by decide) xm_lk0))) xo_X2_mended ?_ ?_
  · rintro av g Q ⟨z, ⟨rfl, -⟩, -⟩
    exact Nat.le_of_ble_eq_true rfl
  · rintro av g Q ⟨⟨i, t, c⟩, ⟨rfl, h, hc, hi⟩, hQ⟩
    dsimp only at h hc hi hQ
    have hn5 := h.2.1.1
    have hm6 := h.2.1.2.1
    by_cases h0 : tM t = 0
    · have fin := hQ (some (.int 0)) g ⟨by rw [vMended, if_pos h0], xFr.rf⟩
      refine xm_run_go hm 20 ⟨h.st, fun z => ?_, fun _ => fin⟩
      rw [h.m, h0] at z
      exact absurd rfl z
    have base : ∀ {g1 : xG}, xFr 53 53 g g1 → xIn 11 t c g1 := fun hf => ⟨Or.inl rfl, h.2.1, h.2.2.1.fr (fun k h1 h2 => hf.2 k (by omega)), h.2.2.2.fr hf.1 (fun k h1 h2 => hf.2 k (by omega))⟩
    refine xm_run_go hm 60 ⟨h.st, fun _ => ⟨(t, c), ⟨rfl, h, hc⟩, ?_⟩, fun z => ?_⟩
    · rintro o g1 ⟨rfl, hd, hf⟩
      have h1 := base hf
      have pre : ∀ k, k < tM t → ∀ s, s < tN t → g1.1 53 (k * 5 + s) = nI (vCs t c 1000 (tM t - 1 - k) s) ∧ vCs t c 1000 (tM t - 1 - k) s ≤ 1001 := fun k hk s hs => ⟨hd k (by omega) hk s hs, vCs_le _ _ _ _ _⟩
      have z0 : (vChp (vCs t c 1000 (tM t - 1 - 0)) (fun o => decide ((-1 : Int32) = -1) || decide (tL t o = -1)) 1000 (tN t)).1 = vMd t c 1000 0 := by rw [vOk_neg]; rfl
      have z0' : (vChp (vCs t c 1000 (tM t - 1 - 0)) (fun o => decide ((-1 : Int32) = -1) || decide (tL t o = -1)) 1000 (tN t)).2 = (vChp (vCs t c 1000 (tM t - 1)) (fun _ => true) 1000 (tN t)).2 := by rw [vOk_neg]; rfl
      have loop : ∀ k, k < tM t → i = nI k → 0 ≤ vMd t c 1000 0 → ∀ d j, j + d = k → ∀ v, v = vMd t c 1000 j → ∀ x, x = nI (j + 1) → xm_go xs_X xk_X2_mended [xt_X2_weigh, xt_X2_cheapest, xt_X3_cell] xc_X2_mended Q (xm_drop 33 xc_X2_mended) [.ref 49, .ref 11, .int i, .ref 29, .int v, .int x] [] g1 := by
        intro k hk hik hp d
        have fin : ∀ v, v = vMd t c 1000 k → Q (some (.int v)) g1 := fun v hv => hQ (some (.int v)) g1 ⟨by
          rw [vMended, if_neg h0, if_neg (Int32.not_lt.mpr hp), hik, if_neg (fun z => absurd (show nI k < 0 by rw [z]; decide) (nI_pos (by omega))), nI_clamp (by omega), hv], hf⟩
        induction d with
        | zero =>
          intro j hj v hv x hx
          have hj : j = k := by omega
          subst hj
          refine xm_run_go hm 20 ⟨fun _ => fin v hv, fun z => ?_⟩
          rw [hx, hik] at z
          exact absurd z (nI_ge (by omega) (by omega))
        | succ d ih =>
          intro j hj v hv x hx
          have hxi : ¬ i < x := by rw [hx, hik]; exact nI_nlt (by omega) (by omega)
          rcases vMd_or t c 1000 j with q | ⟨s, hs, q⟩
          · have e : v = vMd t c 1000 k := by
              have := vMd_st t c 1000 j (by rw [q]; decide) (k - j)
              rw [show j + (k - j) = k by omega] at this
              rw [this, hv]
            refine xm_run_go hm 20 ⟨fun z => absurd z hxi, fun _ => ⟨fun _ => fin v e, fun z => ?_⟩⟩
            rw [hv, q] at z
            exact absurd z (by decide)
          · have vs : v = nI s := hv.trans q
            subst vs
            have rr : g1.1 31 s = tR t s := (h1.2.2.1.2.2.1 s hs).2.1
            have r0 : 0 ≤ tR t s := (h.2.1.2.2 s hs).2
            have j6 : j + 1 < 6 := by omega
            have ea : [Value.ref 49, .ref 29, .int x, .int (g1.1 31 s)] = [Value.ref 49, .ref 29, .int (nI (j + 1)), .int (g1.1 31 s)] := by rw [hx]
            have nx := ih (j + 1) (by omega) (vChp (vCs t c 1000 (tM t - 1 - (j + 1))) (fun o => decide (g1.1 31 s = -1) || decide (tL t o = g1.1 31 s)) 1000 (tN t)).1 (by
              rw [vMd, q, if_neg (nI_pos (by omega)), nI_clamp (by omega), rr, vOk_pos r0]) (x + 1) (by rw [hx, ← nI_succ])
            exact xm_run_go hm 20 ⟨fun z => absurd z hxi, fun _ => ⟨fun z => absurd z (nI_pos (by omega)), fun _ => ⟨s, ⟨by omega, rfl⟩, (j + 1, g1.1 31 s, vCs t c 1000 (tM t - 1 - (j + 1)), t), ⟨ea, j6, h.2.1, h1.2.2.1, pre (j + 1) (by omega)⟩, xm_cut hm nx⟩⟩⟩
      refine ⟨(0, -1, vCs t c 1000 (tM t - 1 - 0), t), ⟨rfl, by decide, h.2.1, h1.2.2.1, pre 0 (by omega)⟩, ⟨fun z => ⟨fun y => ?_, fun y => ?_⟩, fun z => ?_⟩⟩
      · rw [z0] at z
        rcases hi with hi | ⟨k, hk, hi⟩
        · exact absurd hi y
        · exact xm_cut hm (loop k hk hi z k 0 (by omega) _ z0 _ rfl)
      · rw [z0] at z
        rcases vChp_pic (vCs t c 1000 (tM t - 1 - 0)) (fun o => decide ((-1 : Int32) = -1) || decide (tL t o = -1)) 1000 (tN t) with ⟨q, -⟩ | ⟨s, q1, q2, q3, -⟩
        · rw [z0] at q; rw [q] at z; exact absurd z (by decide)
        · refine ⟨(0, (vChp (vCs t c 1000 (tM t - 1 - 0)) (fun o => decide ((-1 : Int32) = -1) || decide (tL t o = -1)) 1000 (tN t)).1), ⟨rfl, trivial⟩, s, ⟨by omega, ?_⟩, hQ _ _ ⟨?_, hf⟩⟩
          · rw [q2]; exact Int32.zero_add _
          · rw [vMended, if_neg h0, if_neg (Int32.not_lt.mpr z), if_pos y, ← z0', q3, ← (pre 0 (by omega) s q1).1, Nat.zero_mul, Nat.zero_add]
      · rw [z0] at z
        refine hQ _ _ ⟨?_, hf⟩
        rw [vMended, if_neg h0, if_pos z]
    · rw [h.m] at z
      exact absurd ((nI_eq (b := 0) (by omega) (by omega)).mp z) h0
