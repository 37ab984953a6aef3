def vFirst (c : Nat → Bool) : Nat → Nat → Int32
  | 0, _ => -2
  | d + 1, k => if c k then nI k else vFirst c d (k + 1)
def vWst (m sh : Nat) (nx : Nat → Nat) : Int32 := vFirst (fun p => sh.testBit p && !vWin nx m (m - 1) p (2 ^ p)) m 0
def xt_X2_winningStart : xT := xm_fn (Z := Nat × Nat × (Nat → Nat)) (fun (m, sh, nx) av g => av = [.ref 49] ∧ xRows m sh nx g) (fun (m, sh, nx) _ => some (.int (vWst m sh nx))) (fun _ g => g)
set_option maxRecDepth 100000 in
set_option maxHeartbeats 4000000 in
theorem xp_X2_winningStart {l : Launch} {D : va_G} {cA : Nat → ClassId} {B : List (Nat × Cell)} : xm_Met l D cA B xs_X 10 yX2_winningStart cX2_winningStart 2 (some .int) xt_X2_winningStart := by
  have hm : xm_monos [xt_X2_has, xt_X2_canWinA] := ⟨(by first | exact xm_fn_mono _ _ _ | exact xm_rl_mono _ _), xn_X2_canWinA, trivial⟩
  refine xm_meth (own := RX2) (ks := xk_X2_winningStart) (C := xc_X2_winningStart) (Ts := [xt_X2_has, xt_X2_canWinA]) (by decide +kernel) rfl xm_clsok xs_X_ok xf_X2_ok xi_X2_ok xj_X2_ok (xm_lk xl_X2_70 xp_X2_has (by decide) (xm_lk xl_X2_98 xp_X2_canWinA (by decide) xm_lk0)) xo_X2_winningStart ?_ ?_
  · rintro av g Q ⟨z, ⟨rfl, -⟩, -⟩
    exact Nat.le_of_ble_eq_true rfl
  · rintro av g Q ⟨⟨m, sh, nx⟩, ⟨rfl, hr⟩, hQ⟩
    dsimp only at hQ hr
    obtain ⟨h1, h2, h3, h4, h5⟩ := id hr
    unfold vWst at hQ
    generalize hcd : (fun p => sh.testBit p && !vWin nx m (m - 1) p (2 ^ p)) = cd at hQ
    have hcp : ∀ p, cd p = (sh.testBit p && !vWin nx m (m - 1) p (2 ^ p)) := fun p => by rw [← hcd]
    have loop : ∀ d k, k + d = m → vFirst cd d k = vFirst cd m 0 → xm_go xs_X xk_X2_winningStart [xt_X2_has, xt_X2_canWinA] xc_X2_winningStart Q (xm_drop 2 xc_X2_winningStart) [.ref 49, .int (nI k)] [] g := by
      intro d
      induction d with
      | zero =>
        intro k hk hv
        refine xm_run_go hm 30 ⟨fun _ => xq_i hQ hv, fun q => ?_⟩
        rw [h1] at q
        exact absurd q (nI_nlt (by omega) (by omega))
      | succ d ih =>
        intro k hk hv
        have hk6 : k < 6 := by omega
        have hkm : k < m := by omega
        have hd : 1 + (m - 1) = m := by omega
        have hm8 : m - 1 + 1 ≤ 8 := by omega
        have nx1 : cd k = false → xm_go xs_X xk_X2_winningStart [xt_X2_has, xt_X2_canWinA] xc_X2_winningStart Q (xm_drop 2 xc_X2_winningStart) [.ref 49, .int (nI k + 1)] [] g := fun z => by
          rw [nI_1]
          exact ih (k + 1) (by omega) (by rw [← hv, vFirst, z]; rfl)
        refine xm_run_go hm 30 ⟨fun q => ?_, fun _ => ⟨(sh, k), ⟨?_, h5, hk6⟩, ⟨fun q => xm_cut hm (nx1 ?_), fun q => ⟨m - 1 + 1, hm8, (k, 2 ^ k, 1, m, sh, nx), ⟨?_, hkm, ub_pow hk6, hd, hr⟩, ⟨fun y => xm_cut hm (nx1 ?_), fun y => ?_⟩⟩⟩⟩⟩
        · rw [h1] at q
          exact absurd q (nI_ge (by omega) (by omega))
        · rw [h2]
        · rw [hcp]
          cases z : sh.testBit k with
          | true => rw [z] at q; exact absurd q (by decide)
          | false => rfl
        · rw [ub_one k hk6]; rfl
        · rw [hcp]
          cases z : vWin nx m (m - 1) k (2 ^ k) with
          | true => rw [Bool.not_true, Bool.and_false]
          | false => rw [z] at y; exact absurd rfl y
        · have ct : cd k = true := by
            rw [hcp]
            cases z : sh.testBit k with
            | false => rw [z] at q; exact absurd rfl q
            | true =>
              cases z2 : vWin nx m (m - 1) k (2 ^ k) with
              | true => rw [z2] at y; exact absurd y (by decide)
              | false => rfl
          rw [vFirst, ct, if_pos rfl] at hv
          exact xq_i hQ hv
    exact xm_run_go hm 10 (xm_cut hm (loop m 0 (by omega) rfl))
/-- the last who stands there; 7: nobody -/
def xLast (d L m : Nat) (g : xG) : Prop := (d = 0 ∧ L = 7) ∨ (0 < d ∧ d ≤ 6 ∧ L < m ∧ g.1 52 (d - 1) = nI L)
def vCf (nx : Nat → Nat) (L u p : Nat) : Bool := !u.testBit p && (decide (L = 7) || (nx L).testBit p)
def xt_X2_canFollow : xT := xm_fn (Z := Nat × Nat × Nat × Nat × Nat × Nat × (Nat → Nat)) (fun (d, u, p, L, m, sh, nx) av g => av = [.ref 49, .int (nI d), .int (nI u), .int (nI p)] ∧ u < 64 ∧ p < 6 ∧ xLast d L m g ∧ xRows m sh nx g) (fun (d, u, p, L, m, sh, nx) _ => some (.int (if vCf nx L u p then 1 else 0))) (fun _ g => g)
set_option maxRecDepth 100000 in
set_option maxHeartbeats 4000000 in
theorem xp_X2_canFollow {l : Launch} {D : va_G} {cA : Nat → ClassId} {B : List (Nat × Cell)} : xm_Met l D cA B xs_X 1 yX2_canFollow cX2_canFollow 4 (some .boolean) xt_X2_canFollow := by
  have hm : xm_monos [xt_X2_has] := ⟨(by first | exact xm_fn_mono _ _ _ | exact xm_rl_mono _ _), trivial⟩
  refine xm_meth (own := RX2) (ks := xk_X2_canFollow) (C := xc_X2_canFollow) (Ts := [xt_X2_has]) (by decide +kernel) rfl xm_clsok xs_X_ok xf_X2_ok xi_X2_ok xj_X2_ok (xm_lk xl_X2_70 xp_X2_has (by decide) xm_lk0) xo_X2_canFollow ?_ ?_
  · rintro av g Q ⟨z, ⟨rfl, -⟩, -⟩
    exact Nat.le_of_ble_eq_true rfl
  · rintro av g Q ⟨⟨d, u, p, L, m, sh, nx⟩, ⟨rfl, hu, hp, hl, hr⟩, hQ⟩
    dsimp only at hQ hr hl hu hp
    obtain ⟨h1, h2, h3, h4, h5⟩ := id hr
    unfold vCf at hQ
    refine xm_run_go hm 40 ⟨(u, p), ⟨rfl, hu, hp⟩, ⟨fun q => ⟨Or.inl rfl, ?_⟩, fun q => ?_⟩⟩
    · cases z : u.testBit p with
      | false => rw [z] at q; exact absurd rfl q
      | true => rw [z] at hQ; exact hQ
    · have z : u.testBit p = false := by
        cases z : u.testBit p with
        | false => rfl
        | true => rw [z] at q; exact absurd q (by decide)
      rw [z] at hQ
      rcases hl with ⟨rfl, rfl⟩ | ⟨hd0, hd6, hL, e⟩
      · refine ⟨fun _ => ⟨Or.inr rfl, hQ⟩, fun y => absurd rfl y⟩
      · obtain ⟨b1, b2⟩ := h3 L hL
        have hL7 : ¬ L = 7 := by omega
        rw [decide_eq_false hL7] at hQ
        refine ⟨fun y => absurd y (nI_ne0 hd0 (by omega)), fun _ => ⟨d - 1, ⟨by omega, xn_dec hd0⟩, L, ⟨by omega, e⟩, (nx L, p), ⟨?_, b2, hp⟩, ⟨fun y => ⟨Or.inl rfl, ?_⟩, fun y => ⟨Or.inr rfl, ?_⟩⟩⟩⟩
        · rw [b1]
        · cases w : (nx L).testBit p with
          | true => rw [w] at y; exact absurd y (by decide)
          | false => rw [w] at hQ; exact hQ
        · cases w : (nx L).testBit p with
          | false => rw [w] at y; exact absurd rfl y
          | true => rw [w] at hQ; exact hQ
def xt_X2_keep : xT := xm_rl (Z := Nat × Int32) (fun (n, v) av g => av = [.ref 49, .int (nI n), .int v] ∧ n ≤ 6) (fun (n, v) g o g' => o = none ∧ xRw g g' ∧ g'.1 49 0 = v ∧ (∀ j, 1 ≤ j → g'.1 49 j = g.1 49 j) ∧ g'.1 52 = g.1 52 ∧ ∀ i, i < n → g'.1 50 i = g.1 52 i)
set_option maxRecDepth 100000 in
set_option maxHeartbeats 4000000 in
theorem xp_X2_keep {l : Launch} {D : va_G} {cA : Nat → ClassId} {B : List (Nat × Cell)} : xm_Met l D cA B xs_X 2 yX2_keep cX2_keep 3 none xt_X2_keep := by
  have hm : xm_monos [(fun _ _ _ => False)] := ⟨(fun _ _ _ _ _ h => h), trivial⟩
  refine xm_meth (own := RX2) (ks := xk_X2_keep) (C := xc_X2_keep) (Ts := [(fun _ _ _ => False)]) (by decide +kernel) rfl xm_clsok xs_X_ok xf_X2_ok xi_X2_ok xj_X2_ok (xm_lkc xl_X2_73 (by decide) xm_lk0) xo_X2_keep ?_ ?_
  · rintro av g Q ⟨z, ⟨rfl, -⟩, -⟩
    exact Nat.le_of_ble_eq_true rfl
  · rintro av g Q ⟨⟨n, v⟩, ⟨rfl, hn⟩, hQ⟩
    dsimp only at hQ hn
    refine xm_run_go hm 30 ⟨0, 0, n, ⟨rfl, rfl, rfl, by omega, by omega⟩, hQ _ _ ⟨rfl, ⟨rfl, fun k a b c => ?_, fun j hj => ?_⟩, ?_, fun j hj => ?_, ?_, fun i hi => ?_⟩⟩
    · rw [xg_aoff _ _ b, xg_off _ _ _ a]
    · rw [xg_aoff _ _ (by decide), xg_in, if_neg (by omega)]
    · rw [xg_aoff _ _ (by decide), xg_in, if_pos rfl]
    · rw [xg_aoff _ _ (by decide), xg_in, if_neg (by omega)]
    · rw [xg_aoff _ _ (by decide), xg_off _ _ _ (by decide)]
    · rw [xg_a, pk_cpy_in (by omega) (by omega), xg_off _ _ _ (by decide), show 0 + (i - 0) = i by omega]
-- in how many orders all join
def vSn (w : Nat → Nat) : Nat → Nat
  | 0 => 0
  | n + 1 => vSn w n + w n
def vFu (nx : Nat → Nat) (m : Nat) : Nat → Nat → Nat → Nat
  | 0, _, _ => 1
  | f + 1, L, u => vSn (fun p => if vCf nx L u p then vFu nx m f p (u ||| 2 ^ p) else 0) m
def vCl (nx : Nat → Nat) (m : Nat) : Nat → Nat → Nat → Nat → Nat
  | 0, L, _, F => if decide (1 < m) && (nx L).testBit F then 1 else 0
  | f + 1, L, u, F => vSn (fun p => if vCf nx L u p then vCl nx m f p (u ||| 2 ^ p) (if L = 7 then p else F) else 0) m
def xt_X2_tryFull : Nat → xT
  | 0 => fun _ _ _ => False
  | f + 1 => xm_rl (Z := Nat × Nat × Nat × Nat × Nat × Nat × Nat × Nat × (Nat → Nat)) (fun (d, u, L, F, fu, cl, m, sh, nx) av g => av = [.ref 49, .int (nI d), .int (nI u)] ∧ u < 64 ∧ d + f = m ∧ xLast d L m g ∧ (0 < d → F < m ∧ g.1 52 0 = nI F) ∧ g.1 49 1 = nI fu ∧ g.1 49 2 = nI cl ∧ xRows m sh nx g)
      (fun (d, u, L, F, fu, cl, m, sh, nx) g o g' => o = none ∧ xRw g g' ∧ (∀ i, i < d → g'.1 52 i = g.1 52 i) ∧ g'.1 49 1 = nI (fu + vFu nx m f L u) ∧ g'.1 49 2 = nI (cl + vCl nx m f L u F))
theorem xn_X2_tryFull : ∀ f, xm_mono (xt_X2_tryFull f)
  | 0 => fun _ _ _ _ _ h => h
  | _ + 1 => xm_rl_mono _ _
set_option maxRecDepth 100000 in
set_option maxHeartbeats 4000000 in
theorem xp_X2_tryFull {l : Launch} {D : va_G} {cA : Nat → ClassId} {B : List (Nat × Cell)} : ∀ (f R : Nat), f ≤ R → xm_Met l D cA B xs_X (R + 2) yX2_tryFull cX2_tryFull 4 none (xt_X2_tryFull f)
  | 0, _, _ => fun _ _ _ _ _ h => h.elim
  | _ + 1, 0, hR => absurd hR (by omega)
  | f + 1, R + 1, hR => by
    have hm : xm_monos [xt_X2_has, xt_X2_canFollow, xt_X2_tryFull f] := ⟨(by first | exact xm_fn_mono _ _ _ | exact xm_rl_mono _ _), (by first | exact xm_fn_mono _ _ _ | exact xm_rl_mono _ _), xn_X2_tryFull f, trivial⟩
    refine xm_meth (own := RX2) (ks := xk_X2_tryFull) (C := xc_X2_tryFull) (Ts := [xt_X2_has, xt_X2_canFollow, xt_X2_tryFull f]) (by decide +kernel) rfl xm_clsok xs_X_ok xf_X2_ok xi_X2_ok xj_X2_ok (xm_lk xl_X2_70 xp_X2_has (by omega) (xm_lk xl_X2_88 xp_X2_canFollow (by omega) (xm_lk xl_X2_85 (xp_X2_tryFull f R (by omega))  (by omega) xm_lk0))) xo_X2_tryFull ?_ ?_
    · rintro av g Q ⟨z, ⟨rfl, -⟩, -⟩
      exact Nat.le_of_ble_eq_true rfl
    · rintro av g Q ⟨⟨dp, u, L, F, fu, cl, m, sh, nx⟩, ⟨rfl, hu, hd, hl, hF, e1, e2, hr⟩, hQ⟩
      dsimp only at hQ hu hd hl hF e1 e2 hr
      obtain ⟨h1, h2, h3, h4, h5⟩ := id hr
      cases f with
      | zero =>
        have hdm : dp = m := by omega
        subst hdm
        have a1 : nI fu + 1 = nI (fu + 1) := nI_1 fu
        by_cases h1m : 1 < dp
        · rcases hl with ⟨z, -⟩ | ⟨-, hd6, hL, e⟩
          · omega
          · obtain ⟨hFm, eF⟩ := hF (by omega)
            obtain ⟨b1, b2⟩ := h3 L hL
            have hF6 : F < 6 := by omega
            refine xm_run_go hm 60 ⟨fun q => ?_, fun _ => ⟨fun q => ?_, fun _ => ⟨dp - 1, ⟨by omega, xn_dec (by omega)⟩, L, ⟨by omega, e⟩, 0, ⟨by omega, rfl⟩, (nx L, F), ⟨?_, b2, hF6⟩, ⟨fun q => ?_, fun q => ?_⟩⟩⟩⟩
            · rw [h1] at q
              exact absurd q (nI_nlt (Nat.le_refl _) (by omega))
            · exact absurd q (nI_ge (b := dp) (a := 1) h1m (by omega))
            · rw [xg_off _ _ _ (by decide), b1, xg_off _ _ _ (by decide), eF]
            · refine hQ _ _ ⟨rfl, xRw.rf.p9 _ (by omega), fun i _ => by rw [xg_off _ _ _ (by decide)], ?_, ?_⟩
              · rw [xg_in, if_pos rfl, e1, a1]; rfl
              · rw [xg_in, if_neg (by decide), e2]
                have z : (nx L).testBit F = false := by
                  cases z : (nx L).testBit F with
                  | false => rfl
                  | true => rw [z] at q; exact absurd q (by decide)
                rw [vCl, z, Bool.and_false]; rfl
            · refine hQ _ _ ⟨rfl, (xRw.rf.p9 _ (by omega)).p9 _ (by omega), fun i _ => by rw [xg_off _ _ _ (by decide), xg_off _ _ _ (by decide)], ?_, ?_⟩
              · rw [xg_in, if_neg (by decide), xg_in, if_pos rfl, e1, a1]; rfl
              · rw [xg_in, if_pos rfl, xg_in, if_neg (by decide), e2, nI_1]
                have z : (nx L).testBit F = true := by
                  cases z : (nx L).testBit F with
                  | true => rfl
                  | false => rw [z] at q; exact absurd rfl q
                rw [vCl, z, decide_eq_true h1m]; rfl
        · refine xm_run_go hm 60 ⟨fun q => ?_, fun _ => ⟨fun _ => ?_, fun q => ?_⟩⟩
          · rw [h1] at q
            exact absurd q (nI_nlt (Nat.le_refl _) (by omega))
          · refine hQ _ _ ⟨rfl, xRw.rf.p9 _ (by omega), fun i _ => by rw [xg_off _ _ _ (by decide)], ?_, ?_⟩
            · rw [xg_in, if_pos rfl, e1, a1]; rfl
            · rw [xg_in, if_neg (by decide), e2, vCl, decide_eq_false h1m]; rfl
          · exact absurd q (nI_nlt (a := 1) (b := dp) (by omega) (by omega))
      | succ f =>
        have hdm : dp < m := by omega
        have d1 : nI dp + 1 = nI (dp + 1) := nI_1 dp
        have hd1 : dp + 1 + f = m := by omega
        have loop : ∀ d k, k + d = m → ∀ g1, xRw g g1 → (∀ i, i < dp → g1.1 52 i = g.1 52 i) → g1.1 49 1 = nI (fu + vSn (fun p => if vCf nx L u p then vFu nx m f p (u ||| 2 ^ p) else 0) k) → g1.1 49 2 = nI (cl + vSn (fun p => if vCf nx L u p then vCl nx m f p (u ||| 2 ^ p) (if L = 7 then p else F) else 0) k) → xm_go xs_X xk_X2_tryFull [xt_X2_has, xt_X2_canFollow, xt_X2_tryFull (f + 1)] xc_X2_tryFull Q (xm_drop 37 xc_X2_tryFull) [.ref 49, .int (nI dp), .int (nI u), .int (nI k)] [] g1 := by
          intro d
          induction d with
          | zero =>
            intro k hk g1 hf hi c1 c2
            have hk : k = m := by omega
            subst hk
            have h11 := hf.rows hr
            refine xm_run_go hm 30 ⟨fun _ => hQ _ _ ⟨rfl, hf, hi, c1, c2⟩, fun q => ?_⟩
            rw [h11.1] at q
            exact absurd q (nI_nlt (Nat.le_refl _) (by omega))
          | succ d ih =>
            intro k hk g1 hf hi c1 c2
            have h11 := hf.rows hr
            have hk6 : k < 6 := by omega
            have hkm : k < m := by omega
            have hl1 : xLast dp L m g1 := by
              rcases hl with z | ⟨z1, z2, z3, z4⟩
              · exact Or.inl z
              · exact Or.inr ⟨z1, z2, z3, by rw [hi _ (by omega)]; exact z4⟩
            refine xm_run_go hm 50 ⟨fun q => ?_, fun _ => ⟨(dp, u, k, L, m, sh, nx), ⟨rfl, hu, hk6, hl1, h11⟩, ⟨fun q => ?_, fun q => ⟨dp, ⟨by omega, rfl⟩, (dp + 1, u ||| 2 ^ k, k, (if L = 7 then k else F), fu + vSn (fun p => if vCf nx L u p then vFu nx m f p (u ||| 2 ^ p) else 0) k, cl + vSn (fun p => if vCf nx L u p then vCl nx m f p (u ||| 2 ^ p) (if L = 7 then p else F) else 0) k, m, sh, nx), ⟨?_, ub_orlt hu (ub_pow hk6), hd1, ?_, ?_, ?_, ?_, ?_⟩, ?_⟩⟩⟩⟩
            · rw [h11.1] at q
              exact absurd q (nI_ge (by omega) (by omega))
            · have z : vCf nx L u k = false := by
                cases z : vCf nx L u k with
                | false => rfl
                | true => rw [z] at q; exact absurd q (by decide)
              have := ih (k + 1) (by omega) g1 hf hi (by rw [vSn, z]; exact c1) (by rw [vSn, z]; exact c2)
              rw [nI_succ] at this
              exact xm_cut hm this
            · rw [ub_or1 u hu k hk6, d1]
            · exact Or.inr ⟨by omega, by omega, hkm, by rw [show dp + 1 - 1 = dp by omega, xg_in, if_pos rfl]⟩
            · intro _
              by_cases z : L = 7
              · have hd0 : dp = 0 := by rcases hl with y | y <;> omega
                rw [if_pos z, hd0]
                exact ⟨hkm, by rw [xg_in, if_pos rfl]⟩
              · have hd0 : 0 < dp := by rcases hl with y | y <;> omega
                rw [if_neg z]
                refine ⟨(hF hd0).1, ?_⟩
                rw [xg_in, if_neg (by omega), hi 0 hd0]
                exact (hF hd0).2
            · rw [xg_off _ _ _ (by decide)]; exact c1
            · rw [xg_off _ _ _ (by decide)]; exact c2
            · exact (xRw.rf.pt _ _).rows h11
            · rintro o g2 ⟨rfl, q1, q2, q3, q4⟩
              have z : vCf nx L u k = true := by
                cases z : vCf nx L u k with
                | true => rfl
                | false => rw [z] at q; exact absurd rfl q
              have := ih (k + 1) (by omega) g2 ((hf.pt _ _).tr q1) (fun i hi2 => by rw [q2 i (by omega), xg_in, if_neg (by omega)]; exact hi i hi2) (by rw [vSn, z, if_pos rfl, ← Nat.add_assoc]; exact q3) (by rw [vSn, z, if_pos rfl, ← Nat.add_assoc]; exact q4)
              rw [nI_succ] at this
              exact xm_cut hm this
        refine xm_run_go hm 30 ⟨fun _ => xm_cut hm (loop m 0 (by omega) g xRw.rf (fun _ _ => rfl) e1 e2), fun q => ?_⟩
        rw [h1] at q
        exact absurd q (nI_ge hdm (by omega))
def xt_X2_tryFullA : xT := fun av g Q => ∃ f, f ≤ 8 ∧ xt_X2_tryFull f av g Q
theorem xp_X2_tryFullA {l : Launch} {D : va_G} {cA : Nat → ClassId} {B : List (Nat × Cell)} : xm_Met l D cA B xs_X 10 yX2_tryFull cX2_tryFull 4 none xt_X2_tryFullA := fun ad sz av g Q ⟨f, hf, h⟩ => xp_X2_tryFull f 8 hf ad sz av g Q h
theorem xn_X2_tryFullA : xm_mono xt_X2_tryFullA := fun av g Q Q' h ⟨f, hf, k⟩ => ⟨f, hf, xn_X2_tryFull f av g Q Q' h k⟩
def xt_X2_countFull : xT := xm_rl (Z := Nat × Nat × (Nat → Nat)) (fun (m, sh, nx) av g => av = [.ref 49] ∧ xRows m sh nx g) (fun (m, sh, nx) g o g' => o = none ∧ xRw g g' ∧ g'.1 49 1 = nI (vFu nx m m 7 0) ∧ g'.1 49 2 = nI (vCl nx m m 7 0 0))
set_option maxRecDepth 100000 in
set_option maxHeartbeats 4000000 in
theorem xp_X2_countFull {l : Launch} {D : va_G} {cA : Nat → ClassId} {B : List (Nat × Cell)} : xm_Met l D cA B xs_X 11 yX2_countFull cX2_countFull 1 none xt_X2_countFull := by
  have hm : xm_monos [xt_X2_tryFullA] := ⟨xn_X2_tryFullA, trivial⟩
  refine xm_meth (own := RX2) (ks := xk_X2_countFull) (C := xc_X2_countFull) (Ts := [xt_X2_tryFullA]) (by decide +kernel) rfl xm_clsok xs_X_ok xf_X2_ok xi_X2_ok xj_X2_ok (xm_lk xl_X2_85 xp_X2_tryFullA (by decide) xm_lk0) xo_X2_countFull ?_ ?_
  · rintro av g Q ⟨z, ⟨rfl, -⟩, -⟩
    exact Nat.le_of_ble_eq_true rfl
  · rintro av g Q ⟨⟨m, sh, nx⟩, ⟨rfl, hr⟩, hQ⟩
    dsimp only at hQ hr
    have hm8 : m + 1 ≤ 8 := by have := hr.2.2.2.1; omega
    have z6 : (0 : Nat) < 64 := by decide
    have zm : 0 + m = m := by omega
    have h1 := ((xRw.rf (g := g)).p9 (j := 1) 0 (by omega)).p9 (j := 2) 0 (by omega)
    refine xm_run_go hm 20 ⟨m + 1, hm8, (0, 0, 7, 0, 0, 0, m, sh, nx), ⟨rfl, z6, zm, Or.inl ⟨rfl, rfl⟩, fun z => absurd z (by decide), ?_, ?_, h1.rows hr⟩, ?_⟩
    · rw [xg_in, if_neg (by decide), xg_in, if_pos rfl]; rfl
    · rw [xg_in, if_pos rfl]; rfl
    · rintro o g2 ⟨rfl, q1, q2, q3, q4⟩
      rw [Nat.zero_add] at q3 q4
      exact hQ _ _ ⟨rfl, h1.tr q1, q3, q4⟩
