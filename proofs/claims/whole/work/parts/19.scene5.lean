-- what happens: thrown, rinsed, moved, a week
noncomputable def vThrow (t : vSt) (c : vSc) (p s : Nat) : vSc := (fun i => if i = p * 5 + s then vMin 99 (cG c (p * 5 + s) + vTakes t c p (nI s)) else cG c i, cR c, cS c, cK c, cP c)
def vRinse (t : vSt) (c : vSc) (p : Nat) : vSc := (fun i => if p * 5 ≤ i ∧ i < p * 5 + tN t then cG c i / 2 else cG c i, cR c, cS c, cK c, cP c)
def vMove (c : vSc) (p to : Nat) : vSc := (cG c, (fun k => if k = to then p else if cS c p ≤ k ∧ k < to then cR c (k + 1) else if to < k ∧ k ≤ cS c p then cR c (k - 1) else cR c k),
  (fun q => if q = p then to else if cS c p < cS c q ∧ cS c q ≤ to then cS c q - 1 else if to ≤ cS c q ∧ cS c q < cS c p then cS c q + 1 else cS c q), cK c, cP c)
theorem vMin_le (x y : Int32) : vMin x y ≤ x := by
  unfold vMin
  split
  · rename_i q; exact Int32.le_of_lt q
  · exact Int32.le_refl _
theorem vMax_ge (x y : Int32) : x ≤ vMax x y := by
  unfold vMax
  split
  · rename_i q; exact Int32.le_of_lt q
  · exact Int32.le_refl _
theorem vMax_le {x y z : Int32} (h1 : x ≤ z) (h2 : y ≤ z) : vMax x y ≤ z := by
  unfold vMax
  split
  · exact h2
  · exact h1
theorem vHeld_in (v most : Int32) (h : 0 ≤ most) : 0 ≤ vHeld v most ∧ vHeld v most ≤ most := ⟨vMax_ge _ _, vMax_le h (vMin_le _ _)⟩
theorem xi_le {a b : Int32} : a ≤ b ↔ a.toInt ≤ b.toInt := Int32.le_iff_toInt_le
theorem xi_lt {a b : Int32} : a < b ↔ a.toInt < b.toInt := Int32.lt_iff_toInt_lt
theorem xi_in {x : Int32} (h : 0 ≤ x) (h2 : x ≤ 99) : 0 ≤ x.toInt ∧ x.toInt ≤ 99 := ⟨by simpa using xi_le.mp h, by simpa using xi_le.mp h2⟩
theorem xi_add {x y : Int32} {a b : Int} (hx : x.toInt = a) (hy : y.toInt = b) (h1 : -1000000 ≤ a + b) (h2 : a + b ≤ 1000000) : (x + y).toInt = a + b := by
  rw [Int32.toInt_add, hx, hy, Int.bmod_eq_of_le (by omega) (by omega)]
theorem xi_sub {x y : Int32} {a b : Int} (hx : x.toInt = a) (hy : y.toInt = b) (h1 : -1000000 ≤ a - b) (h2 : a - b ≤ 1000000) : (x - y).toInt = a - b := by
  rw [Int32.toInt_sub, hx, hy, Int.bmod_eq_of_le (by omega) (by omega)]
theorem xi_half {x : Int32} (h : 0 ≤ x) (h2 : x ≤ 99) : 0 ≤ x / 2 ∧ x / 2 ≤ 99 := by
  obtain ⟨a, b⟩ := xi_in h h2
  obtain ⟨j, hj, rfl⟩ := nI_of (Int32.not_lt.mpr h)
  rw [nI_toInt hj] at a b
  rw [show (2 : Int32) = nI 2 from rfl, pk_div hj (by omega) (by omega)]
  exact ⟨nI_pos' (by omega), nI_le (b := 99) (by omega) (by omega)⟩
theorem vThrow_ok {t : vSt} {c : vSc} {p s : Nat} (ht : vTok t) (h : vCok t c) (hp : p < tM t) (hs : s < tN t) : vCok t (vThrow t c p s) := by
  obtain ⟨h1, h2, h3, h4, h5⟩ := h
  have hn := ht.1
  have hm := ht.2.1
  refine ⟨h1, h2, h3, fun i hi => ?_, fun q r hq hr hrn => ?_⟩
  · show 0 ≤ (if i = p * 5 + s then vMin 99 (cG c (p * 5 + s) + vTakes t c p (nI s)) else cG c i) ∧ (if i = p * 5 + s then vMin 99 (cG c (p * 5 + s) + vTakes t c p (nI s)) else cG c i) ≤ (99 : Int32)
    by_cases e : i = p * 5 + s
    · rw [if_pos e]
      refine ⟨?_, vMin_le _ _⟩
      obtain ⟨a1, a2⟩ := h4 (p * 5 + s) (by omega)
      obtain ⟨b1, b2⟩ := vHeld_in (tX t 0 (vVar t c p (nI s))) 99 (by decide)
      change 0 ≤ vTakes t c p (nI s) at b1
      change vTakes t c p (nI s) ≤ 99 at b2
      have ha := xi_in a1 a2
      have hb := xi_in b1 b2
      have hs := xi_add (x := cG c (p * 5 + s)) (y := vTakes t c p (nI s)) rfl rfl (by omega) (by omega)
      unfold vMin
      split
      · exact xi_le.mpr (by rw [hs]; simp; omega)
      · decide
    · rw [if_neg e]; exact h4 i hi
  · show (if q * 5 + r = p * 5 + s then _ else cG c (q * 5 + r)) = 0
    rw [if_neg (by omega)]
    exact h5 q r hq hr hrn
theorem vRinse_ok {t : vSt} {c : vSc} {p : Nat} (h : vCok t c) : vCok t (vRinse t c p) := by
  obtain ⟨h1, h2, h3, h4, h5⟩ := h
  refine ⟨h1, h2, h3, fun i hi => ?_, fun q r hq hr hrn => ?_⟩
  · show 0 ≤ (if p * 5 ≤ i ∧ i < p * 5 + tN t then cG c i / 2 else cG c i) ∧ (if p * 5 ≤ i ∧ i < p * 5 + tN t then cG c i / 2 else cG c i) ≤ (99 : Int32)
    split
    · exact xi_half (h4 i hi).1 (h4 i hi).2
    · exact h4 i hi
  · show (if p * 5 ≤ q * 5 + r ∧ q * 5 + r < p * 5 + tN t then cG c (q * 5 + r) / 2 else cG c (q * 5 + r)) = 0
    rw [h5 q r hq hr hrn]
    split
    · decide
    · rfl
theorem vMove_ok {t : vSt} {c : vSc} {p to : Nat} (ht : vTok t) (h : vCok t c) (hp : p < tM t) (hs : to < tM t) : vCok t (vMove c p to) := by
  obtain ⟨h1, h2, h3, h4, h5⟩ := h
  have hm := ht.2.1
  have hsp := h2 p hp
  refine ⟨fun k hk => ?_, fun q hq => ?_, fun k hk => ?_, h4, h5⟩
  · show (if k = to then p else if cS c p ≤ k ∧ k < to then cR c (k + 1) else if to < k ∧ k ≤ cS c p then cR c (k - 1) else cR c k) < tM t ∧ (fun q => if q = p then to else if cS c p < cS c q ∧ cS c q ≤ to then cS c q - 1 else if to ≤ cS c q ∧ cS c q < cS c p then cS c q + 1 else cS c q) (if k = to then p else if cS c p ≤ k ∧ k < to then cR c (k + 1) else if to < k ∧ k ≤ cS c p then cR c (k - 1) else cR c k) = k
    have inj : ∀ j, j < tM t → j ≠ cS c p → cR c j ≠ p := fun j hj hne e => hne (by rw [← e, (h1 j hj).2])
    by_cases e1 : k = to
    · rw [if_pos e1]; exact ⟨hp, by dsimp only; rw [if_pos rfl, e1]⟩
    · rw [if_neg e1]
      by_cases e2 : cS c p ≤ k ∧ k < to
      · rw [if_pos e2]
        have q := h1 (k + 1) (by omega)
        refine ⟨q.1, ?_⟩
        dsimp only
        rw [if_neg (inj _ (by omega) (by omega)), q.2, if_pos (by omega)]
        omega
      · rw [if_neg e2]
        by_cases e3 : to < k ∧ k ≤ cS c p
        · rw [if_pos e3]
          have q := h1 (k - 1) (by omega)
          refine ⟨q.1, ?_⟩
          dsimp only
          rw [if_neg (inj _ (by omega) (by omega)), q.2, if_neg (by omega), if_pos (by omega)]
          omega
        · rw [if_neg e3]
          have q := h1 k hk
          refine ⟨q.1, ?_⟩
          dsimp only
          rw [if_neg (inj _ hk (by omega)), q.2, if_neg (by omega), if_neg (by omega)]
  · show (if q = p then to else if cS c p < cS c q ∧ cS c q ≤ to then cS c q - 1 else if to ≤ cS c q ∧ cS c q < cS c p then cS c q + 1 else cS c q) < tM t ∧ (fun k => if k = to then p else if cS c p ≤ k ∧ k < to then cR c (k + 1) else if to < k ∧ k ≤ cS c p then cR c (k - 1) else cR c k) (if q = p then to else if cS c p < cS c q ∧ cS c q ≤ to then cS c q - 1 else if to ≤ cS c q ∧ cS c q < cS c p then cS c q + 1 else cS c q) = q
    have hq2 := h2 q hq
    by_cases e1 : q = p
    · rw [if_pos e1]; exact ⟨hs, by dsimp only; rw [if_pos rfl, e1]⟩
    · rw [if_neg e1]
      have hne : cS c q ≠ cS c p := fun z => e1 (by rw [← hq2.2, z, hsp.2])
      by_cases e2 : cS c p < cS c q ∧ cS c q ≤ to
      · rw [if_pos e2]
        refine ⟨by omega, ?_⟩
        dsimp only
        rw [if_neg (by omega), if_pos (by omega), show cS c q - 1 + 1 = cS c q by omega]
        exact hq2.2
      · rw [if_neg e2]
        by_cases e3 : to ≤ cS c q ∧ cS c q < cS c p
        · rw [if_pos e3]
          refine ⟨by omega, ?_⟩
          dsimp only
          rw [if_neg (by omega), if_neg (by omega), if_pos (by omega), show cS c q + 1 - 1 = cS c q by omega]
          exact hq2.2
        · rw [if_neg e3]
          refine ⟨hq2.1, ?_⟩
          dsimp only
          rw [if_neg (by omega), if_neg (by omega), if_neg (by omega)]
          exact hq2.2
  · show (if k = to then p else if cS c p ≤ k ∧ k < to then cR c (k + 1) else if to < k ∧ k ≤ cS c p then cR c (k - 1) else cR c k) < 6
    split
    · omega
    · split
      · exact h3 _ (by omega)
      · split
        · exact h3 _ (by omega)
        · exact h3 k hk
def xt_X3_throwUpon : xT := xm_rl (Z := Nat × Nat × Nat × vSt × vSc) (fun (b, p, s, t, c) av g => av = [.ref b, .int (nI p), .int (nI s)] ∧ p < tM t ∧ s < tN t ∧ vCok t c ∧ xIn b t c g) (fun (b, p, s, t, c) g o g' => o = none ∧ xIn b t (vThrow t c p s) g' ∧ xFr b (b + 8) g g')
set_option maxRecDepth 100000 in
set_option maxHeartbeats 4000000 in
theorem xp_X3_throwUpon {l : Launch} {D : va_G} {cA : Nat → ClassId} {B : List (Nat × Cell)} : xm_Met l D cA B xs_X 4 yX3_throwUpon cX3_throwUpon 4 none xt_X3_throwUpon := by
  have hm : xm_monos [xt_X3_cell, xt_X3_takes, xt_J9_min_7cf53, xt_X3_settle] := ⟨(by first | exact xm_fn_mono _ _ _ | exact xm_rl_mono _ _), (by first | exact xm_fn_mono _ _ _ | exact xm_rl_mono _ _), (by first | exact xm_fn_mono _ _ _ | exact xm_rl_mono _ _), (by first | exact xm_fn_mono _ _ _ | exact xm_rl_mono _ _), trivial⟩
  refine xm_meth (own := RX3) (ks := xk_X3_throwUpon) (C := xc_X3_throwUpon) (Ts := [xt_X3_cell, xt_X3_takes, xt_J9_min_7cf53, xt_X3_settle]) (by decide +kernel) rfl xm_clsok xs_X_ok xf_X3_ok xi_X3_ok xj_X3_ok (xm_lk xl_X3_91 xp_X3_cell (by decide) (xm_lk xl_X3_138 xp_X3_takes (by decide) (xm_lk xl_X3_108 xp_J9_min_7cf53 (by decide) (xm_lk xl_X3_53 xp_X3_settle (by decide) xm_lk0)))) xo_X3_throwUpon ?_ ?_
  · rintro av g Q ⟨z, ⟨rfl, -⟩, -⟩
    exact Nat.le_of_ble_eq_true rfl
  · rintro av g Q ⟨⟨b, p, s, t, c⟩, ⟨rfl, hp, hs, hc, h⟩, hQ⟩
    dsimp only at h hQ
    have hb := h.1
    have hn5 := h.2.1.1
    have hm6 := h.2.1.2.1
    have hi : p * 5 + s < 30 := by omega
    have e0 := xn_cell p s
    have key : ∀ g1, xFr (b + 8) (b + 8) g g1 → xRaw b (vThrow t c p s) (xm_sI g1 (b + 1) (p * 5 + s) (vMin 99 (g.1 (b + 1) (p * 5 + s) + vTakes t c p (nI s)))) ∧ xSto 29 t (xm_sI g1 (b + 1) (p * 5 + s) (vMin 99 (g.1 (b + 1) (p * 5 + s) + vTakes t c p (nI s)))) ∧ xFr b (b + 8) g (xm_sI g1 (b + 1) (p * 5 + s) (vMin 99 (g.1 (b + 1) (p * 5 + s) + vTakes t c p (nI s)))) := by
      intro g1 hf
      have h1 := h.f8 hf
      obtain ⟨r0, r1, r2, r3, r4⟩ := h1.2.2.2.1
      refine ⟨⟨r0, fun i hi2 => ?_, fun k hk => ?_, ?_, ?_⟩, h1.2.2.1.fr (fun k h1 h2 => xg_off _ _ _ (by omega)), (hf.up (by omega) (by omega)).put _ _ (by omega) (by omega)⟩
      · rw [xg_in]
        show _ = if i = p * 5 + s then vMin 99 (cG c (p * 5 + s) + vTakes t c p (nI s)) else cG c i
        rw [h.2.2.2.1.2.1 _ hi, r1 i hi2]
      · rw [xg_off _ _ _ (by omega)]; exact r2 k hk
      · rw [xg_off _ _ _ (by omega)]; exact r3
      · rw [xg_off _ _ _ (by omega)]; exact r4
    have ok := vThrow_ok h.2.1 hc hp hs
    rcases hb with rfl | rfl
    all_goals
      refine xm_run_go hm 40 ⟨(nI p, nI s), ⟨rfl, trivial⟩, ⟨fun q => ?_, fun _ => ⟨fun _ => ⟨p * 5 + s, ⟨hi, e0⟩, (_, p, s, t, c), ⟨rfl, hp, hs, h⟩, ?_⟩, fun q => ?_⟩⟩⟩
      · rw [show nI p * 5 + nI s = nI (p * 5 + s) from e0] at q
        exact absurd q (nI_pos (by omega))
      · rintro o g1 ⟨rfl, hf⟩
        obtain ⟨k1, k2, k3⟩ := key g1 hf
        refine ⟨(_, _), ⟨rfl, trivial⟩, p * 5 + s, ⟨hi, e0⟩, ⟨(_, t, vThrow t c p s), ⟨rfl, h.1, h.2.1, ok, k2, k1⟩, ?_⟩⟩
        rintro o g2 ⟨rfl, h3, h4⟩
        exact hQ _ _ ⟨rfl, ⟨h.1, h.2.1, k2.fr (fun k h1 h2 => h4.2 k (by dsimp only; omega)), h3⟩, k3.tr (h4.up (by dsimp only; omega) (by dsimp only; omega))⟩
      · rw [show nI p * 5 + nI s = nI (p * 5 + s) from e0] at q
        exact absurd q (nI_ge (b := 30) hi (by omega))
