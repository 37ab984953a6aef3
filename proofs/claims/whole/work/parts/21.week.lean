-- a week
def vBit (w : Int32) (p : Nat) : Prop := (w >>> (nI p &&& 31)) &&& 1 = 1
noncomputable def vLess (t : vSt) (c : vSc) (i : Nat) : Int32 := if 0 < cG c i then vFades t c (i / 5) (nI (i % 5)) else 0
noncomputable def vWk1 (t : vSt) (c : vSc) (i : Nat) : Int32 := vMax 0 (cG c i - vLess t c i)
noncomputable def vWk2 (t : vSt) (c : vSc) (w : Int32) (i : Nat) : Int32 := @ite _ (vBit w (i / 5)) (Classical.propDecidable _) (vWk1 t c i / 2) (vWk1 t c i)
noncomputable def vWeek (t : vSt) (c : vSc) (w : Int32) : vSc := (fun i => if i / 5 < tM t ∧ i % 5 < tN t then vWk2 t c w i else cG c i, cR c, cS c, cK c + 1, cP c + vSum (vPays t c) (tM t))
theorem vWk1_in {t : vSt} {c : vSc} {i : Nat} (h : 0 ≤ cG c i) (h2 : cG c i ≤ 99) : 0 ≤ vWk1 t c i ∧ vWk1 t c i ≤ 99 := by
  refine ⟨vMax_ge _ _, vMax_le (by decide) ?_⟩
  have hl : 0 ≤ vLess t c i ∧ vLess t c i ≤ 99 := by
    unfold vLess
    split
    · exact vHeld_in _ 99 (by decide)
    · decide
  have a := xi_in h h2
  have b := xi_in hl.1 hl.2
  rw [xi_le, xi_sub rfl rfl (by omega) (by omega)]
  simp
  omega
theorem vWeek_ok {t : vSt} {c : vSc} {w : Int32} (h : vCok t c) : vCok t (vWeek t c w) := by
  obtain ⟨h1, h2, h3, h4, h5⟩ := h
  refine ⟨h1, h2, h3, fun i hi => ?_, fun q r hq hr hrn => ?_⟩
  · show 0 ≤ (if i / 5 < tM t ∧ i % 5 < tN t then vWk2 t c w i else cG c i) ∧ (if i / 5 < tM t ∧ i % 5 < tN t then vWk2 t c w i else cG c i) ≤ (99 : Int32)
    split
    · have := vWk1_in (t := t) (h4 i hi).1 (h4 i hi).2
      unfold vWk2
      split
      · exact xi_half this.1 this.2
      · exact this
    · exact h4 i hi
  · show (if (q * 5 + r) / 5 < tM t ∧ (q * 5 + r) % 5 < tN t then vWk2 t c w (q * 5 + r) else cG c (q * 5 + r)) = 0
    rw [if_neg (by omega)]
    exact h5 q r hq hr hrn
def vPaid (c : vSc) (v : Int32) : vSc := (cG c, cR c, cS c, cK c, v)
theorem xIn.paid {b : Nat} {t : vSt} {c : vSc} {g : xG} (h : xIn b t c g) (v : Int32) : xIn b t (vPaid c v) (xm_sI g b 3 v) := by
  obtain ⟨h1, h2, h3, ⟨r0, r1, r2, r3, r4⟩, h5⟩ := h
  refine ⟨h1, h2, h3.fr (fun k q1 q2 => xg_off _ _ _ (by omega)), ⟨r0, fun i hi => ?_, fun k hk => ?_, ?_, ?_⟩, fun p hp => ?_⟩
  · rw [xg_off _ _ _ (by omega)]; exact r1 i hi
  · rw [xg_off _ _ _ (by omega)]; exact r2 k hk
  · rw [xg_in, if_neg (by decide)]; exact r3
  · rw [xg_in, if_pos rfl]; rfl
  · rw [xg_off _ _ _ (by omega), xg_off _ _ _ (by omega), xg_off _ _ _ (by omega), xg_off _ _ _ (by omega)]
    exact h5 p hp
theorem xn_zb {n : Nat} (w : Int32) : w = 0 ∨ w = 1 → True := fun _ => trivial
def xt_X3_passWeek : xT := xm_rl (Z := Nat × Int32 × Int32 × vSt × vSc) (fun (b, e, z, t, c) av g => av = [.ref b, .int e, .int z] ∧ vCok t c ∧ xIn b t c g) (fun (b, e, z, t, c) g o g' => o = none ∧ xIn b t (vWeek t c (if z = 0 then 0 else vWashers t c e)) g' ∧ xFr b (b + 8) g g')
set_option maxRecDepth 100000 in
set_option maxHeartbeats 4000000 in
theorem xp_X3_passWeek {l : Launch} {D : va_G} {cA : Nat → ClassId} {B : List (Nat × Cell)} : xm_Met l D cA B xs_X 5 yX3_passWeek cX3_passWeek 6 none xt_X3_passWeek := by
  have hm : xm_monos [xt_X3_allPays, xt_X3_washers, xt_X3_cell, xt_X3_fades, xt_J9_max_7cf53, xt_X3_rinse, xt_X3_settle] := ⟨(by first | exact xm_fn_mono _ _ _ | exact xm_rl_mono _ _), (by first | exact xm_fn_mono _ _ _ | exact xm_rl_mono _ _), (by first | exact xm_fn_mono _ _ _ | exact xm_rl_mono _ _), (by first | exact xm_fn_mono _ _ _ | exact xm_rl_mono _ _), (by first | exact xm_fn_mono _ _ _ | exact xm_rl_mono _ _), (by first | exact xm_fn_mono _ _ _ | exact xm_rl_mono _ _), (by first | exact xm_fn_mono _ _ _ | exact xm_rl_mono _ _), trivial⟩
  refine xm_meth (own := RX3) (ks := xk_X3_passWeek) (C := xc_X3_passWeek) (Ts := [xt_X3_allPays, xt_X3_washers, xt_X3_cell, xt_X3_fades, xt_J9_max_7cf53, xt_X3_rinse, xt_X3_settle]) (by decide +kernel) rfl xm_clsok xs_X_ok xf_X3_ok xi_X3_ok xj_X3_ok (xm_lk xl_X3_141 xp_X3_allPays (by decide) (xm_lk xl_X3_145 xp_X3_washers (by decide) (xm_lk xl_X3_91 xp_X3_cell (by decide) (xm_lk xl_X3_149 xp_X3_fades (by decide) (xm_lk xl_X3_113 xp_J9_max_7cf53 (by decide) (xm_lk xl_X3_152 xp_X3_rinse (by decide) (xm_lk xl_X3_53 xp_X3_settle (by decide) xm_lk0))))))) xo_X3_passWeek ?_ ?_
  · rintro av g Q ⟨z, ⟨rfl, -⟩, -⟩
    exact Nat.le_of_ble_eq_true rfl
  · rintro av g Q ⟨⟨b, sd, z, t, c⟩, ⟨rfl, hc, h⟩, hQ⟩
    dsimp only at h hQ
    have hb := h.1
    have hn5 := h.2.1.1
    have hm6 := h.2.1.2.1
    have hb29 : b + 9 ≤ 29 := by omega
    generalize hPd : cP c + vSum (vPays t c) (tM t) = pd
    generalize hWd : (if z = 0 then (0 : Int32) else vWashers t c sd) = wd at hQ
    obtain ⟨h41, h42, h43, h44, h45⟩ := id hc
    -- behind the loops: glows are as they are at the week's end
    have tail : ∀ g1, xFr b (b + 8) g g1 → g1.2.2 b 10 = 29 → (∀ i, i < 30 → g1.1 (b + 1) i = cG (vWeek t c wd) i) → (∀ k, k < 6 → g1.1 (b + 2) k = nI (cR c k)) → g1.1 b 2 = cK c → g1.1 b 3 = pd → xSto 29 t g1 → ∀ w3 w5, xm_go xs_X xk_X3_passWeek [xt_X3_allPays, xt_X3_washers, xt_X3_cell, xt_X3_fades, xt_J9_max_7cf53, xt_X3_rinse, xt_X3_settle] xc_X3_passWeek Q (xm_drop 54 xc_X3_passWeek) [.ref b, .int sd, .int z, w3, .int (nI (tM t)), w5] [] g1 := by
      intro g1 hf a0 a1 a2 a3 a4 a5 w3 w5
      have k1 : xRaw b (vWeek t c wd) (xm_sI g1 b 2 (g1.1 b 2 + 1)) := by
        refine ⟨a0, fun i hi => ?_, fun k hk => ?_, ?_, ?_⟩
        · rw [xg_off _ _ _ (by omega)]; exact a1 i hi
        · rw [xg_off _ _ _ (by omega)]; exact a2 k hk
        · rw [xg_in, if_pos rfl, a3]; rfl
        · rw [xg_in, if_neg (by decide), a4, ← hPd]; rfl
      have k2 : xSto 29 t (xm_sI g1 b 2 (g1.1 b 2 + 1)) := a5.fr (fun k q1 q2 => xg_off _ _ _ (by omega))
      have k3 : xFr b (b + 8) g (xm_sI g1 b 2 (g1.1 b 2 + 1)) := hf.put _ _ (by omega) (by omega)
      have ok := vWeek_ok (w := wd) hc
      have a6 := a5.2.1
      rcases hb with rfl | rfl
      all_goals
        refine xm_run_go hm 20 ⟨a0, ⟨fun _ => ⟨(_, t, vWeek t c wd), ⟨rfl, h.1, h.2.1, ok, k2, k1⟩, ?_⟩, fun q => ?_⟩⟩
        · rintro o g2 ⟨rfl, h3, h4⟩
          exact hQ _ _ ⟨rfl, ⟨h.1, h.2.1, k2.fr (fun k h1 h2 => h4.2 k (by dsimp only; omega)), h3⟩, k3.tr (h4.up (by dsimp only; omega) (by dsimp only; omega))⟩
        · rw [a6] at q
          exact absurd q (nI_nlt (Nat.le_refl _) (by omega))
    -- the second pair of loops: glows fade, who washes washes
    have second : ∀ g0, xFr b (b + 8) g g0 → g0.2.2 b 10 = 29 → (∀ i, i < 30 → g0.1 (b + 1) i = cG c i) → (∀ k, k < 6 → g0.1 (b + 2) k = nI (cR c k)) → g0.1 b 2 = cK c → g0.1 b 3 = pd → xSto 29 t g0 → (∀ p s, p < tM t → s < tN t → g0.1 (b + 7) (p * 5 + s) = vLess t c (p * 5 + s)) →
        ∀ w5, xm_go xs_X xk_X3_passWeek [xt_X3_allPays, xt_X3_washers, xt_X3_cell, xt_X3_fades, xt_J9_max_7cf53, xt_X3_rinse, xt_X3_settle] xc_X3_passWeek Q (xm_drop 54 xc_X3_passWeek) [.ref b, .int sd, .int z, .int wd, .int (nI 0), w5] [] g0 := by
      intro g0 hf0 a0 a1 a2 a3 a4 a5 a7
      -- what the glows are when the persons below p are done, and of p the slides below s
      have fd : ∀ g1, xFr (b + 1) (b + 1) g0 g1 → xFr b (b + 8) g g1 ∧ g1.2.2 b 10 = 29 ∧ (∀ k, k < 6 → g1.1 (b + 2) k = nI (cR c k)) ∧ g1.1 b 2 = cK c ∧ g1.1 b 3 = pd ∧ xSto 29 t g1 ∧ (∀ p s, p < tM t → s < tN t → g1.1 (b + 7) (p * 5 + s) = vLess t c (p * 5 + s)) := by
        intro g1 hf
        refine ⟨hf0.tr (hf.up (by omega) (by omega)), by rw [hf.1]; exact a0, fun k hk => ?_, ?_, ?_, a5.fr (fun k q1 q2 => hf.2 k (by omega)), fun p s hp hs => ?_⟩
        · rw [hf.2 _ (by omega)]; exact a2 k hk
        · rw [hf.2 _ (by omega)]; exact a3
        · rw [hf.2 _ (by omega)]; exact a4
        · rw [hf.2 _ (by omega)]; exact a7 p s hp hs
      have inner : ∀ p, p < tM t → (∀ g1, xFr (b + 1) (b + 1) g0 g1 → (∀ i, i < 30 → g1.1 (b + 1) i = if i / 5 < p + 1 ∧ i % 5 < tN t then vWk2 t c wd i else cG c i) → ∀ w5, xm_go xs_X xk_X3_passWeek [xt_X3_allPays, xt_X3_washers, xt_X3_cell, xt_X3_fades, xt_J9_max_7cf53, xt_X3_rinse, xt_X3_settle] xc_X3_passWeek Q (xm_drop 54 xc_X3_passWeek) [.ref b, .int sd, .int z, .int wd, .int (nI p + 1), w5] [] g1) →
          ∀ d s, s + d = tN t → ∀ g1, xFr (b + 1) (b + 1) g0 g1 → (∀ i, i < 30 → g1.1 (b + 1) i = if i / 5 < p ∧ i % 5 < tN t then vWk2 t c wd i else if i / 5 = p ∧ i % 5 < s then vWk1 t c i else cG c i) → xm_go xs_X xk_X3_passWeek [xt_X3_allPays, xt_X3_washers, xt_X3_cell, xt_X3_fades, xt_J9_max_7cf53, xt_X3_rinse, xt_X3_settle] xc_X3_passWeek Q (xm_drop 61 xc_X3_passWeek) [.ref b, .int sd, .int z, .int wd, .int (nI p), .int (nI s)] [] g1 := by
        intro p hp hout d
        induction d with
        | zero =>
          intro s hs g1 hf hi
          obtain ⟨f0, f1, f2, f3, f4, f5, f6⟩ := fd g1 hf
          have hs : s = tN t := by omega
          subst hs
          have hp6 : p < 6 := by omega
          have e5 := f5.1
          have no : ¬ vBit wd p → ∀ w5, xm_go xs_X xk_X3_passWeek [xt_X3_allPays, xt_X3_washers, xt_X3_cell, xt_X3_fades, xt_J9_max_7cf53, xt_X3_rinse, xt_X3_settle] xc_X3_passWeek Q (xm_drop 54 xc_X3_passWeek) [.ref b, .int sd, .int z, .int wd, .int (nI p + 1), w5] [] g1 := fun hnb => hout g1 hf (fun i hi2 => by
            rw [hi i hi2]
            by_cases y : i / 5 < p ∧ i % 5 < tN t
            · rw [if_pos y, if_pos (by omega)]
            · rw [if_neg y]
              by_cases x : i / 5 = p ∧ i % 5 < tN t
              · rw [if_pos x, if_pos (by omega)]
                unfold vWk2
                rw [x.1, if_neg hnb]
              · rw [if_neg x, if_neg (by omega)])
          have yes : vBit wd p → ∀ g2, xFr (b + 1) (b + 1) g1 g2 → (∀ i, g2.1 (b + 1) i = if p * 5 ≤ i ∧ i < p * 5 + tN t then g1.1 (b + 1) i / 2 else g1.1 (b + 1) i) → ∀ w5, xm_go xs_X xk_X3_passWeek [xt_X3_allPays, xt_X3_washers, xt_X3_cell, xt_X3_fades, xt_J9_max_7cf53, xt_X3_rinse, xt_X3_settle] xc_X3_passWeek Q (xm_drop 54 xc_X3_passWeek) [.ref b, .int sd, .int z, .int wd, .int (nI p + 1), w5] [] g2 := fun hyb g2 hf2 hg2 => hout g2 (hf.tr hf2) (fun i hi2 => by
            rw [hg2 i, hi i hi2]
            by_cases y : i / 5 < p ∧ i % 5 < tN t
            · rw [if_pos y, if_neg (by omega), if_pos (by omega)]
            · rw [if_neg y]
              by_cases x : i / 5 = p ∧ i % 5 < tN t
              · rw [if_pos x, if_pos (by omega), if_pos (by omega)]
                unfold vWk2
                rw [x.1, if_pos hyb]
              · rw [if_neg x, if_neg (by omega), if_neg (by omega)])
          rcases hb with rfl | rfl
          all_goals
            refine xm_run_go hm 40 ⟨f1, ⟨fun _ => ⟨fun q => xm_cut hm (no q _), fun q => ⟨(_, p, tN t), ⟨rfl, h.1, hp6, hn5, f1, e5⟩, ?_⟩⟩, fun q => ?_⟩⟩
            · rintro o g2 ⟨rfl, q1, q2⟩
              exact xm_cut hm (yes q g2 q1 q2 _)
            · rw [e5] at q
              exact absurd q (nI_nlt (Nat.le_refl _) (by omega))
        | succ d ih =>
          intro s hs g1 hf hi
          obtain ⟨f0, f1, f2, f3, f4, f5, f6⟩ := fd g1 hf
          have e0 := xn_cell p s
          have e5 := f5.1
          have l30 : p * 5 + s < 30 := by omega
          have d1 : (p * 5 + s) / 5 = p := by omega
          have d2 : (p * 5 + s) % 5 = s := by omega
          have gv : g1.1 (b + 1) (p * 5 + s) = cG c (p * 5 + s) := by
            rw [hi _ l30, d1, d2, if_neg (by omega), if_neg (by omega)]
          have nx : xm_go xs_X xk_X3_passWeek [xt_X3_allPays, xt_X3_washers, xt_X3_cell, xt_X3_fades, xt_J9_max_7cf53, xt_X3_rinse, xt_X3_settle] xc_X3_passWeek Q (xm_drop 61 xc_X3_passWeek) [.ref b, .int sd, .int z, .int wd, .int (nI p), .int (nI s + 1)] [] (xm_sI g1 (b + 1) (p * 5 + s) (vMax 0 (g1.1 (b + 1) (p * 5 + s) - g1.1 (b + 7) (p * 5 + s)))) := by
            rw [nI_1]
            refine ih (s + 1) (by omega) _ (hf.put _ _ (by omega) (by omega)) (fun i hi2 => ?_)
            rw [xg_in]
            by_cases y : i = p * 5 + s
            · rw [if_pos y, y, d1, d2, if_neg (by omega), if_pos (by omega), gv, f6 p s hp (by omega)]
              rfl
            · rw [if_neg y, hi i hi2]
              by_cases y2 : i / 5 < p ∧ i % 5 < tN t
              · rw [if_pos y2, if_pos y2]
              · rw [if_neg y2, if_neg y2]
                by_cases x : i / 5 = p ∧ i % 5 < s
                · rw [if_pos x, if_pos (by omega)]
                · rw [if_neg x, if_neg (by omega)]
          rcases hb with rfl | rfl
          all_goals
            refine xm_run_go hm 40 ⟨f1, ⟨fun q => ?_, fun _ => ⟨(nI p, nI s), ⟨rfl, trivial⟩, (nI p, nI s), ⟨rfl, trivial⟩, p * 5 + s, ⟨l30, e0⟩, (nI p, nI s), ⟨rfl, trivial⟩, p * 5 + s, ⟨l30, e0⟩, (_, _), ⟨rfl, trivial⟩, p * 5 + s, ⟨l30, e0⟩, xm_cut hm nx⟩⟩⟩
            rw [e5] at q
            exact absurd q (nI_ge (by omega) (by omega))
      have outer : ∀ d p, p + d = tM t → ∀ g1, xFr (b + 1) (b + 1) g0 g1 → (∀ i, i < 30 → g1.1 (b + 1) i = if i / 5 < p ∧ i % 5 < tN t then vWk2 t c wd i else cG c i) → ∀ w5, xm_go xs_X xk_X3_passWeek [xt_X3_allPays, xt_X3_washers, xt_X3_cell, xt_X3_fades, xt_J9_max_7cf53, xt_X3_rinse, xt_X3_settle] xc_X3_passWeek Q (xm_drop 54 xc_X3_passWeek) [.ref b, .int sd, .int z, .int wd, .int (nI p), w5] [] g1 := by
        intro d
        induction d with
        | zero =>
          intro p hp g1 hf hi w5
          obtain ⟨f0, f1, f2, f3, f4, f5, f6⟩ := fd g1 hf
          have hp : p = tM t := by omega
          subst hp
          exact tail g1 f0 f1 hi f2 f3 f4 f5 _ _
        | succ d ih =>
          intro p hp g1 hf hi w5
          obtain ⟨f0, f1, f2, f3, f4, f5, f6⟩ := fd g1 hf
          have e6 := f5.2.1
          have nx := inner p (by omega) (fun g2 hf2 hi2 w5 => by rw [nI_1]; exact ih (p + 1) (by omega) g2 hf2 hi2 w5) (tN t) 0 (by omega) g1 hf (fun i hi2 => by
            rw [hi i hi2]
            by_cases y : i / 5 < p ∧ i % 5 < tN t
            · rw [if_pos y, if_pos y]
            · rw [if_neg y, if_neg y, if_neg (by omega)])
          rcases hb with rfl | rfl
          all_goals
            refine xm_run_go hm 20 ⟨f1, ⟨fun q => ?_, fun _ => xm_cut hm nx⟩⟩
            rw [e6] at q
            exact absurd q (nI_ge (by omega) (by omega))
      exact fun w5 => outer (tM t) 0 (by omega) g0 xFr.rf (fun i hi => by rw [if_neg (by omega)]; exact a1 i hi) w5
    -- the first pair: how much each glow fades
    have first : ∀ g0, xFr b (b + 8) g g0 → xIn b t (vPaid c pd) g0 → ∀ w5, xm_go xs_X xk_X3_passWeek [xt_X3_allPays, xt_X3_washers, xt_X3_cell, xt_X3_fades, xt_J9_max_7cf53, xt_X3_rinse, xt_X3_settle] xc_X3_passWeek Q (xm_drop 17 xc_X3_passWeek) [.ref b, .int sd, .int z, .int wd, .int (nI 0), w5] [] g0 := by
      intro g0 hf0 h0
      have inner : ∀ p, p < tM t → (∀ g1, xFr (b + 7) (b + 8) g0 g1 → (∀ q s, q < p + 1 → s < tN t → g1.1 (b + 7) (q * 5 + s) = vLess t c (q * 5 + s)) → ∀ w5, xm_go xs_X xk_X3_passWeek [xt_X3_allPays, xt_X3_washers, xt_X3_cell, xt_X3_fades, xt_J9_max_7cf53, xt_X3_rinse, xt_X3_settle] xc_X3_passWeek Q (xm_drop 17 xc_X3_passWeek) [.ref b, .int sd, .int z, .int wd, .int (nI p + 1), w5] [] g1) →
          ∀ d s, s + d = tN t → ∀ g1, xFr (b + 7) (b + 8) g0 g1 → (∀ q r, r < tN t → (q < p ∨ (q = p ∧ r < s)) → g1.1 (b + 7) (q * 5 + r) = vLess t c (q * 5 + r)) → xm_go xs_X xk_X3_passWeek [xt_X3_allPays, xt_X3_washers, xt_X3_cell, xt_X3_fades, xt_J9_max_7cf53, xt_X3_rinse, xt_X3_settle] xc_X3_passWeek Q (xm_drop 24 xc_X3_passWeek) [.ref b, .int sd, .int z, .int wd, .int (nI p), .int (nI s)] [] g1 := by
        intro p hp hout d
        induction d with
        | zero =>
          intro s hs g1 hf hi
          have h1 := h0.fr hf
          have e5 := h1.n
          have hs : s = tN t := by omega
          subst hs
          have nx := hout g1 hf (fun q r hq hr => hi q r hr (by omega))
          rcases hb with rfl | rfl
          all_goals
            refine xm_run_go hm 20 ⟨h1.st, ⟨fun _ => xm_cut hm (nx _), fun q => ?_⟩⟩
            rw [e5] at q
            exact absurd q (nI_nlt (Nat.le_refl _) (by omega))
        | succ d ih =>
          intro s hs g1 hf hi
          have h1 := h0.fr hf
          have e0 := xn_cell p s
          have e5 := h1.n
          have l30 : p * 5 + s < 30 := by omega
          have hsn : s < tN t := by omega
          have d1 : (p * 5 + s) / 5 = p := by omega
          have d2 : (p * 5 + s) % 5 = s := by omega
          have gv : g1.1 (b + 1) (p * 5 + s) = cG c (p * 5 + s) := h1.2.2.2.1.2.1 _ l30
          have nx : ∀ g2 v, xFr (b + 8) (b + 8) g1 g2 → v = vLess t c (p * 5 + s) → xm_go xs_X xk_X3_passWeek [xt_X3_allPays, xt_X3_washers, xt_X3_cell, xt_X3_fades, xt_J9_max_7cf53, xt_X3_rinse, xt_X3_settle] xc_X3_passWeek Q (xm_drop 24 xc_X3_passWeek) [.ref b, .int sd, .int z, .int wd, .int (nI p), .int (nI s + 1)] [] (xm_sI g2 (b + 7) (p * 5 + s) v) := by
            intro g2 v hf2 hv
            rw [nI_1]
            refine ih (s + 1) (by omega) _ ((hf.tr (hf2.up (by omega) (by omega))).put _ _ (by omega) (by omega)) (fun q r hr hqr => ?_)
            rw [xg_in]
            by_cases y : q * 5 + r = p * 5 + s
            · rw [if_pos y, hv, y]
            · rw [if_neg y, hf2.2 _ (by omega)]
              exact hi q r hr (by omega)
          rcases hb with rfl | rfl
          all_goals
            refine xm_run_go hm 40 ⟨h1.st, ⟨fun q => ?_, fun _ => ⟨(nI p, nI s), ⟨rfl, trivial⟩, (nI p, nI s), ⟨rfl, trivial⟩, p * 5 + s, ⟨l30, e0⟩, ⟨fun q => ⟨p * 5 + s, ⟨l30, e0⟩, xm_cut hm (nx _ _ xFr.rf ?_)⟩, fun q => ⟨(_, p, s, t, vPaid c pd), ⟨rfl, hp, hsn, h1⟩, ?_⟩⟩⟩⟩⟩
            · rw [e5] at q
              exact absurd q (nI_ge (by omega) (by omega))
            · rw [gv] at q
              rw [vLess, if_neg (Int32.not_lt.mpr q)]
            · rintro o g2 ⟨rfl, hf2⟩
              refine ⟨p * 5 + s, ⟨l30, e0⟩, xm_cut hm (nx _ _ hf2 ?_)⟩
              rw [gv] at q
              rw [vLess, if_pos q, d1, d2]
              rfl
      have outer : ∀ d p, p + d = tM t → ∀ g1, xFr (b + 7) (b + 8) g0 g1 → (∀ q s, q < p → s < tN t → g1.1 (b + 7) (q * 5 + s) = vLess t c (q * 5 + s)) → ∀ w5, xm_go xs_X xk_X3_passWeek [xt_X3_allPays, xt_X3_washers, xt_X3_cell, xt_X3_fades, xt_J9_max_7cf53, xt_X3_rinse, xt_X3_settle] xc_X3_passWeek Q (xm_drop 17 xc_X3_passWeek) [.ref b, .int sd, .int z, .int wd, .int (nI p), w5] [] g1 := by
        intro d
        induction d with
        | zero =>
          intro p hp g1 hf hi w5
          have h1 := h0.fr hf
          have e6 := h1.m
          have hp : p = tM t := by omega
          subst hp
          obtain ⟨r0, r1, r2, r3, r4⟩ := h1.2.2.2.1
          have nx := second g1 (hf0.tr (hf.up (by omega) (by omega))) r0 r1 r2 r3 r4 h1.2.2.1 hi
          rcases hb with rfl | rfl
          all_goals
            refine xm_run_go hm 20 ⟨h1.st, ⟨fun _ => xm_cut hm (nx _), fun q => ?_⟩⟩
            rw [e6] at q
            exact absurd q (nI_nlt (Nat.le_refl _) (by omega))
        | succ d ih =>
          intro p hp g1 hf hi w5
          have h1 := h0.fr hf
          have e6 := h1.m
          have nx := inner p (by omega) (fun g2 hf2 hi2 w5 => by rw [nI_1]; exact ih (p + 1) (by omega) g2 hf2 hi2 w5) (tN t) 0 (by omega) g1 hf (fun q r hr hqr => hi q r (by omega) hr)
          rcases hb with rfl | rfl
          all_goals
            refine xm_run_go hm 20 ⟨h1.st, ⟨fun q => ?_, fun _ => xm_cut hm nx⟩⟩
            rw [e6] at q
            exact absurd q (nI_ge (by omega) (by omega))
      exact fun w5 => outer (tM t) 0 (by omega) g0 xFr.rf (fun q s hq => by omega) w5
    -- the beginning
    have ep : g.1 b 3 = cP c := h.2.2.2.1.2.2.2.2
    have pd1 : ∀ g1, xFr (b + 8) (b + 8) g g1 → xIn b t (vPaid c pd) (xm_sI g1 b 3 (g.1 b 3 + vSum (vPays t c) (tM t))) ∧ xFr b (b + 8) g (xm_sI g1 b 3 (g.1 b 3 + vSum (vPays t c) (tM t))) := by
      intro g1 hf
      rw [ep, hPd]
      exact ⟨(h.f8 hf).paid pd, (hf.up (by omega) (by omega)).put _ _ (by omega) (by omega)⟩
    rcases hb with rfl | rfl
    all_goals
      refine xm_run_go hm 40 ⟨(_, t, c), ⟨rfl, h⟩, ?_⟩
      rintro o g1 ⟨rfl, hf⟩
      obtain ⟨k1, k2⟩ := pd1 g1 hf
      refine ⟨fun q => ?_, fun q => ⟨(_, sd, t, vPaid c pd), ⟨rfl, k1⟩, ?_⟩⟩
      · rw [if_pos q] at hWd
        subst hWd
        exact xm_cut hm (first _ k2 k1 _)
      · rintro o g2 ⟨rfl, hf2⟩
        rw [if_neg q] at hWd
        subst hWd
        exact xm_cut hm (first _ (k2.tr (hf2.up (by omega) (by omega))) (k1.f8 hf2) _)
