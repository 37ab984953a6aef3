theorem vPk_cong {f f' : Nat → Int32} : ∀ {n : Nat}, (∀ s, s < n → f s = f' s) → vPk f n = vPk f' n
  | 0, _ => rfl
  | n + 1, h => by
    have ih := vPk_cong (n := n) (fun s hs => h s (by omega))
    simp only [vPk, ih, h n (by omega)]
noncomputable def vPj (t : vSt) (c : vSc) (k p : Nat) : Nat := vN (0 < cS c p ∧ cS c p - 1 < k ∧ vJk t c (cS c p - 1)) + vN (cS c p < k ∧ vJk t c (cS c p))
theorem vN_iff {p q : Prop} (h : p ↔ q) : vN p = vN q := by rw [propext h]
theorem vB_iff {p q : Prop} (h : p ↔ q) : vB p = vB q := by rw [propext h]
theorem vPj_0 (t : vSt) (c : vSc) (p : Nat) : vPj t c 0 p = 0 := by
  unfold vPj
  rw [vN_f (by omega), vN_f (by omega)]
theorem vPj_end {t : vSt} {c : vSc} {k p : Nat} (h : tM t ≤ k + 1) : vPj t c k p = vJoins t c p := by
  unfold vPj vJoins
  have h1 : ∀ j, vJk t c j → j < k := fun j q => by have := q.1; omega
  rw [vN_iff (p := 0 < cS c p ∧ cS c p - 1 < k ∧ vJk t c (cS c p - 1)) (q := 0 < cS c p ∧ vJk t c (cS c p - 1)) ⟨fun z => ⟨z.1, z.2.2⟩, fun z => ⟨z.1, h1 _ z.2, z.2⟩⟩, vN_iff (p := cS c p < k ∧ vJk t c (cS c p)) (q := vJk t c (cS c p)) ⟨fun z => z.2, fun z => ⟨h1 _ z, z⟩⟩]
theorem vPj_no {t : vSt} {c : vSc} {k p : Nat} (h : ¬ vJk t c k) : vPj t c (k + 1) p = vPj t c k p := by
  unfold vPj
  rw [vN_iff (p := cS c p < k + 1 ∧ vJk t c (cS c p)) (q := cS c p < k ∧ vJk t c (cS c p)) ⟨fun z => ⟨?_, z.2⟩, fun z => ⟨by omega, z.2⟩⟩,
    vN_iff (p := 0 < cS c p ∧ cS c p - 1 < k + 1 ∧ vJk t c (cS c p - 1)) (q := 0 < cS c p ∧ cS c p - 1 < k ∧ vJk t c (cS c p - 1)) ⟨fun z => ⟨z.1, ?_, z.2.2⟩, fun z => ⟨z.1, by omega, z.2.2⟩⟩]
  · rcases Nat.lt_or_ge (cS c p - 1) k with q | q
    · exact q
    · exact absurd (by rw [show k = cS c p - 1 by omega]; exact z.2.2) h
  · rcases Nat.lt_or_ge (cS c p) k with q | q
    · exact q
    · exact absurd (by rw [show k = cS c p by omega]; exact z.2) h
theorem vPj_yes {t : vSt} {c : vSc} {k p : Nat} (h : vJk t c k) : vPj t c (k + 1) p = vPj t c k p + (if cS c p = k then 1 else 0) + (if cS c p = k + 1 then 1 else 0) := by
  unfold vPj
  by_cases h1 : cS c p = k
  · rw [if_pos h1, if_neg (by omega), h1, vN_t (p := k < k + 1 ∧ vJk t c k) ⟨by omega, h⟩, vN_f (p := k < k ∧ vJk t c k) (by omega),
      vN_iff (p := 0 < k ∧ k - 1 < k + 1 ∧ vJk t c (k - 1)) (q := 0 < k ∧ k - 1 < k ∧ vJk t c (k - 1)) ⟨fun z => ⟨z.1, by omega, z.2.2⟩, fun z => ⟨z.1, by omega, z.2.2⟩⟩]
  · rw [if_neg h1]
    by_cases h2 : cS c p = k + 1
    · rw [if_pos h2, h2, show k + 1 - 1 = k by omega, vN_t (p := 0 < k + 1 ∧ k < k + 1 ∧ vJk t c k) ⟨by omega, by omega, h⟩, vN_f (p := 0 < k + 1 ∧ k < k ∧ vJk t c k) (by omega), vN_f (p := k + 1 < k + 1 ∧ vJk t c (k + 1)) (by omega), vN_f (p := k + 1 < k ∧ vJk t c (k + 1)) (by omega)]
    · rw [if_neg h2, vN_iff (p := cS c p < k + 1 ∧ vJk t c (cS c p)) (q := cS c p < k ∧ vJk t c (cS c p)) ⟨fun z => ⟨by omega, z.2⟩, fun z => ⟨by omega, z.2⟩⟩,
        vN_iff (p := 0 < cS c p ∧ cS c p - 1 < k + 1 ∧ vJk t c (cS c p - 1)) (q := 0 < cS c p ∧ cS c p - 1 < k ∧ vJk t c (cS c p - 1)) ⟨fun z => ⟨z.1, by omega, z.2.2⟩, fun z => ⟨z.1, by omega, z.2.2⟩⟩]
      rfl
def xt_X3_settle : xT := xm_rl (Z := Nat × vSt × vSc) (fun z av g => av = [.ref z.1] ∧ (z.1 = 11 ∨ z.1 = 20) ∧ vTok z.2.1 ∧ vCok z.2.1 z.2.2 ∧ xSto 29 z.2.1 g ∧ xRaw z.1 z.2.2 g) (fun z g o g' => o = none ∧ xScn z.1 z.2.1 z.2.2 g' ∧ xFr (z.1 + 3) (z.1 + 6) g g')
set_option maxRecDepth 100000 in
set_option maxHeartbeats 4000000 in
theorem xp_X3_settle {l : Launch} {D : va_G} {cA : Nat → ClassId} {B : List (Nat × Cell)} : xm_Met l D cA B xs_X 2 yX3_settle cX3_settle 4 none xt_X3_settle := by
  have hm : xm_monos [xt_X3_settlePicture, xt_X3_meet] := ⟨(by first | exact xm_fn_mono _ _ _ | exact xm_rl_mono _ _), (by first | exact xm_fn_mono _ _ _ | exact xm_rl_mono _ _), trivial⟩
  refine xm_meth (own := RX3) (ks := xk_X3_settle) (C := xc_X3_settle) (Ts := [xt_X3_settlePicture, xt_X3_meet]) (by decide +kernel) rfl xm_clsok xs_X_ok xf_X3_ok xi_X3_ok xj_X3_ok (xm_lk xl_X3_80 xp_X3_settlePicture (by decide) (xm_lk xl_X3_84 xp_X3_meet (by decide) xm_lk0)) xo_X3_settle ?_ ?_
  · rintro av g Q ⟨z, ⟨rfl, -⟩, -⟩
    exact Nat.le_of_ble_eq_true rfl
  · rintro av g Q ⟨⟨b, t, c⟩, ⟨rfl, hb, ht, hc, hs, hr⟩, hQ⟩
    dsimp only at hb ht hc hs hr hQ
    have hn5 := ht.1
    have hm6 := ht.2.1
    obtain ⟨hc1, hc2, hc6, -, -⟩ := hc
    have hb29 : b + 9 ≤ 29 := by omega
    have base : ∀ {g1 : xG}, xFr (b + 3) (b + 6) g g1 → g1.2.2 b 10 = 29 ∧ xSto 29 t g1 ∧ g1.1 29 8 = nI (tN t) ∧ g1.1 29 9 = nI (tM t) ∧ (∀ k, k < 6 → g1.1 (b + 2) k = nI (cR c k)) ∧ (∀ i, i < 30 → g1.1 (b + 1) i = cG c i) := by
      intro g1 h
      have h29 : g1.1 29 = g.1 29 := h.2 29 (by omega)
      refine ⟨by rw [h.1]; exact hr.1, hs.fr (fun k h1 h2 => h.2 k (by omega)), ?_, ?_, fun k hk => ?_, fun i hi => ?_⟩
      · rw [h29]; exact hs.1
      · rw [h29]; exact hs.2.1
      · rw [h.2 (b + 2) (by omega)]; exact hr.2.2.1 k hk
      · rw [h.2 (b + 1) (by omega)]; exact hr.2.1 i hi
    have loop2 : ∀ d k, k + d = tM t → ∀ g1, xFr (b + 3) (b + 6) g g1 → (∀ p, p < tM t → g1.1 (b + 3) p = nI (cS c p) ∧ g1.1 (b + 4) p = vPic t c p ∧ g1.1 (b + 5) p = vTot t c p ∧ g1.1 (b + 6) p = nI (vPj t c k p)) → ∀ w2 w3, xm_go xs_X xk_X3_settle [xt_X3_settlePicture, xt_X3_meet] xc_X3_settle Q (xm_drop 27 xc_X3_settle) [.ref b, .int (nI k), w2, w3] [] g1 := by
      intro d
      induction d with
      | zero =>
        intro k hk g1 hf hi w2 w3
        obtain ⟨a1, a2, a3, a4, a5, a6⟩ := base hf
        have hfin : Q none g1 := hQ none g1 ⟨rfl, ⟨hr.fr hf.1 (fun k h1 h2 => hf.2 k (by omega)), fun p hp => by have := hi p hp; rw [vPj_end (by omega)] at this; exact this⟩, hf⟩
        have e1 : nI k + 1 = nI (k + 1) := nI_1 k
        rcases hb with rfl | rfl
        all_goals
          refine xm_run_go hm 50 ⟨a1, ⟨fun _ => hfin, fun h => ?_⟩⟩
          rw [a4] at h
          exact absurd h (e1 ▸ nI_nlt (by omega) (by omega))
      | succ d ih =>
        intro k hk g1 hf hi w2 w3
        obtain ⟨a1, a2, a3, a4, a5, a6⟩ := base hf
        have e1 : nI k + 1 = nI (k + 1) := nI_1 k
        by_cases hk1 : k + 1 < tM t
        · have p1 := hc1 k (by omega)
          have p2 := hc1 (k + 1) hk1
          have l1 : cR c k < 6 := by omega
          have l2 : cR c (k + 1) < 6 := by omega
          have q1 := a5 k (by omega)
          have q2 := a5 (k + 1) (by omega)
          have hJ : vJk t c k ↔ vJ t c (cR c k) (cR c (k + 1)) := ⟨fun z => z.2, fun z => ⟨hk1, z⟩⟩
          have hne : cR c k ≠ cR c (k + 1) := fun z => by have := p1.2; rw [z, p2.2] at this; omega
          have next1 : ¬ vJk t c k → ∀ w2 w3, xm_go xs_X xk_X3_settle [xt_X3_settlePicture, xt_X3_meet] xc_X3_settle Q (xm_drop 27 xc_X3_settle) [.ref b, .int (nI k + 1), w2, w3] [] g1 := fun h w2 w3 => by
            rw [e1]
            exact ih (k + 1) (by omega) g1 hf (fun p hp => by have := hi p hp; rw [vPj_no h]; exact this) w2 w3
          have next2 : vJk t c k → ∀ w2 w3, xm_go xs_X xk_X3_settle [xt_X3_settlePicture, xt_X3_meet] xc_X3_settle Q (xm_drop 27 xc_X3_settle) [.ref b, .int (nI k + 1), w2, w3] [] (xm_sI (xm_sI g1 (b + 6) (cR c k) (g1.1 (b + 6) (cR c k) + 1)) (b + 6) (cR c (k + 1)) ((xm_sI g1 (b + 6) (cR c k) (g1.1 (b + 6) (cR c k) + 1)).1 (b + 6) (cR c (k + 1)) + 1)) := fun h w2 w3 => by
            rw [e1]
            refine ih (k + 1) (by omega) _ ((hf.put _ _ (by omega) (by omega)).put _ _ (by omega) (by omega)) (fun p hp => ?_) w2 w3
            obtain ⟨i1, i2, i3, i4⟩ := hi p hp
            rw [xg_off _ _ _ (by omega), xg_off _ _ _ (by omega), xg_off _ _ _ (by omega), xg_off _ _ _ (by omega), xg_off _ _ _ (by omega), xg_off _ _ _ (by omega)]
            refine ⟨i1, i2, i3, ?_⟩
            rw [vPj_yes h, xg_in, xg_in, xg_in, if_neg (Ne.symm hne)]
            have s1 : cS c p = k ↔ p = cR c k := ⟨fun z => by rw [← z]; exact (hc2 p hp).2.symm, fun z => by rw [z]; exact p1.2⟩
            have s2 : cS c p = k + 1 ↔ p = cR c (k + 1) := ⟨fun z => by rw [← z]; exact (hc2 p hp).2.symm, fun z => by rw [z]; exact p2.2⟩
            by_cases z1 : p = cR c (k + 1)
            · rw [if_pos z1, if_pos (s2.mpr z1), if_neg (fun y => hne ((s1.mp y).symm.trans z1)), ← z1, i4, nI_1]
            · rw [if_neg z1, if_neg (fun y => z1 (s2.mp y))]
              by_cases z2 : p = cR c k
              · rw [if_pos z2, if_pos (s1.mpr z2), ← z2, i4, nI_1]
              · rw [if_neg z2, if_neg (fun y => z2 (s1.mp y))]
                exact i4
          rcases hb with rfl | rfl
          all_goals
            refine xm_run_go hm 60 ⟨a1, ⟨fun h => ?_, fun _ => ⟨k, ⟨by omega, rfl⟩, k + 1, ⟨by omega, e1⟩, ⟨(_, cR c k, cR c (k + 1), t, c), ⟨?_, ?_, l1, l2, ht, a2, a1, (hi _ p1.1).2.1, (hi _ p2.1).2.1⟩, ⟨fun h => ?_, fun h => ⟨cR c k, ⟨by omega, q1⟩, cR c k, ⟨by omega, q1⟩, cR c (k + 1), ⟨by omega, q2⟩, cR c (k + 1), ⟨by omega, q2⟩, ?_⟩⟩⟩⟩⟩⟩
            · rw [a4, e1] at h
              exact absurd h (nI_ge hk1 (by omega))
            · rw [q1, q2]
            · first | exact Or.inl rfl | exact Or.inr rfl
            · refine xm_cut hm (next1 (fun z => ?_) _ _)
              rw [vB_t (hJ.mp z)] at h
              exact absurd h (by decide)
            · refine xm_cut hm (next2 (Classical.byContradiction fun z => ?_) _ _)
              rw [vB_f (fun y => z (hJ.mpr y))] at h
              exact h rfl
        · have hfin : Q none g1 := hQ none g1 ⟨rfl, ⟨hr.fr hf.1 (fun k h1 h2 => hf.2 k (by omega)), fun p hp => by have := hi p hp; rw [vPj_end (by omega)] at this; exact this⟩, hf⟩
          rcases hb with rfl | rfl
          all_goals
            refine xm_run_go hm 50 ⟨a1, ⟨fun _ => hfin, fun h => ?_⟩⟩
            rw [a4, e1] at h
            exact absurd h (nI_nlt (by omega) (by omega))
    have loop1 : ∀ d k, k + d = tM t → ∀ g1, xFr (b + 3) (b + 6) g g1 → (∀ p, p < k → g1.1 (b + 3) (cR c p) = nI p ∧ g1.1 (b + 4) p = vPic t c p ∧ g1.1 (b + 5) p = vTot t c p ∧ g1.1 (b + 6) p = 0) → ∀ w2 w3, xm_go xs_X xk_X3_settle [xt_X3_settlePicture, xt_X3_meet] xc_X3_settle Q (xm_drop 2 xc_X3_settle) [.ref b, .int (nI k), w2, w3] [] g1 := by
      intro d
      induction d with
      | zero =>
        intro k hk g1 hf hi w2 w3
        obtain ⟨a1, a2, a3, a4, a5, a6⟩ := base hf
        have hk : k = tM t := by omega
        have nx := loop2 (tM t) 0 (by omega) g1 hf (fun p hp => by
          obtain ⟨h1, h2⟩ := hc2 p hp
          obtain ⟨i1, -⟩ := hi (cS c p) (by omega)
          obtain ⟨-, i2, i3, i4⟩ := hi p (by omega)
          rw [h2] at i1
          exact ⟨i1, i2, i3, by rw [vPj_0]; exact i4⟩)
        rcases hb with rfl | rfl
        all_goals
          refine xm_run_go hm 50 ⟨a1, ⟨fun _ => xm_cut hm (nx _ _), fun h => ?_⟩⟩
          rw [a4] at h
          exact absurd h (nI_nlt (by omega) (by omega))
      | succ d ih =>
        intro k hk g1 hf hi w2 w3
        obtain ⟨a1, a2, a3, a4, a5, a6⟩ := base hf
        have e1 : nI k + 1 = nI (k + 1) := nI_1 k
        have p1 := hc1 k (by omega)
        have q1 := a5 k (by omega)
        have hk6 : k < 6 := by omega
        have q9 : ∀ v1 v2, (xm_sI (xm_sI g1 (b + 4) k v1) (b + 5) k v2).1 (b + 2) k = nI (cR c k) := fun v1 v2 => by rw [xg_off _ _ _ (by omega), xg_off _ _ _ (by omega)]; exact q1
        have epk : vPk (fun s => g1.1 (b + 1) (k * 5 + s)) (tN t) = vPk (fun s => cG c (k * 5 + s)) (tN t) := vPk_cong (fun s hs => a6 _ (by omega))
        have nx : ∀ w2 w3, xm_go xs_X xk_X3_settle [xt_X3_settlePicture, xt_X3_meet] xc_X3_settle Q (xm_drop 2 xc_X3_settle) [.ref b, .int (nI k + 1), w2, w3] [] (xm_sI (xm_sI (xm_sI (xm_sI g1 (b + 4) k (vPk (fun s => g1.1 (b + 1) (k * 5 + s)) (tN t)).1) (b + 5) k (vPk (fun s => g1.1 (b + 1) (k * 5 + s)) (tN t)).2.2) (b + 3) (cR c k) (nI k)) (b + 6) k 0) := by
          intro w2 w3
          rw [e1]
          refine ih (k + 1) (by omega) _ ((((hf.put _ _ (by omega) (by omega)).put _ _ (by omega) (by omega)).put _ _ (by omega) (by omega)).put _ _ (by omega) (by omega)) (fun p hp => ?_) w2 w3
          rw [xg_off _ _ _ (show b + 3 ≠ b + 6 by omega), xg_in, xg_off _ _ _ (show b + 4 ≠ b + 6 by omega), xg_off _ _ _ (show b + 4 ≠ b + 3 by omega), xg_off _ _ _ (show b + 4 ≠ b + 5 by omega), xg_in, xg_off _ _ _ (show b + 5 ≠ b + 6 by omega), xg_off _ _ _ (show b + 5 ≠ b + 3 by omega), xg_in, xg_in]
          by_cases z : p = k
          · subst z
            rw [if_pos rfl, if_pos rfl, if_pos rfl, if_pos rfl, epk]
            exact ⟨rfl, rfl, rfl, rfl⟩
          · obtain ⟨i1, i2, i3, i4⟩ := hi p (by omega)
            have hne : cR c p ≠ cR c k := fun y => by
              have h1 := (hc1 p (by omega)).2
              rw [y, p1.2] at h1
              exact z h1.symm
            rw [if_neg z, if_neg z, if_neg z, if_neg hne, xg_off _ _ _ (show b + 5 ≠ b + 4 by omega), xg_off _ _ _ (show b + 3 ≠ b + 5 by omega), xg_off _ _ _ (show b + 3 ≠ b + 4 by omega), xg_off _ _ _ (show b + 6 ≠ b + 3 by omega), xg_off _ _ _ (show b + 6 ≠ b + 5 by omega), xg_off _ _ _ (show b + 6 ≠ b + 4 by omega)]
            exact ⟨i1, i2, i3, i4⟩
        rcases hb with rfl | rfl
        all_goals
          refine xm_run_go hm 50 ⟨a1, ⟨fun h => ?_, fun _ => ⟨(_, k, tN t), ⟨rfl, ?_, hk6, a1, a3, hn5⟩, k, ⟨by omega, rfl⟩, cR c k, ⟨by omega, ?_⟩, k, ⟨by omega, rfl⟩, xm_cut hm (nx _ _)⟩⟩⟩
          · rw [a4] at h
            exact absurd h (nI_ge (by omega) (by omega))
          · first | exact Or.inl rfl | exact Or.inr rfl
          · exact q9 _ _
    refine xm_run_go hm 10 (xm_cut hm (loop1 (tM t) 0 (by omega) g xFr.rf (fun p hp => by omega) _ _))
