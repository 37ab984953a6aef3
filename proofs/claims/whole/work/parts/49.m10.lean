-- what would be
theorem vBe_pos {f : Nat → Int32} {i0 : Int32} (hi : i0 < 0) : ∀ n, 0 < n → n < 2 ^ 31 → (∀ k, k < n → 0 ≤ f k) → ∃ j, j < n ∧ (vBe f i0 n).1 = nI j
  | 0, h, _, _ => absurd h (by omega)
  | n + 1, _, hn, hf => by
    rw [vBe]
    by_cases z : (vBe f i0 n).2 < f n
    · rw [if_pos z]; exact ⟨n, by omega, rfl⟩
    · rw [if_neg z]
      rcases Nat.eq_zero_or_pos n with q | q
      · subst q
        exact absurd (Int32.lt_of_lt_of_le hi (hf 0 (by omega))) z
      · obtain ⟨j, h1, h2⟩ := vBe_pos hi n q (by omega) (fun k hk => hf k (by omega))
        exact ⟨j, by omega, h2⟩
def xt_X9_best : xT := xm_rl (Z := vS × Int32 × Int32) (fun (σ, p, w) av g => av = [.ref 0, .int p, .int w] ∧ mTop σ g) (fun (σ, p, w) g o g' => o = some (.int (aBest σ p w)) ∧ mTop σ g')
set_option maxRecDepth 100000 in
set_option maxHeartbeats 400000 in
theorem xp_X9_best {l : Launch} {D : va_G} {cA : Nat → ClassId} {B : List (Nat × Cell)} : xm_Met l D cA B xs_M 8 yX9_best cX9_best 6 (some .int) xt_X9_best := by
  have hm : xm_monos [xt_X9_isPerson, xt_X9_in, xt_X9_copies, xt_X9_throwsUpon, xt_X9_rowJoins] := ⟨(by first | exact xm_fn_mono _ _ _ | exact xm_rl_mono _ _), (by first | exact xm_fn_mono _ _ _ | exact xm_rl_mono _ _), (by first | exact xm_fn_mono _ _ _ | exact xm_rl_mono _ _), (by first | exact xm_fn_mono _ _ _ | exact xm_rl_mono _ _), (by first | exact xm_fn_mono _ _ _ | exact xm_rl_mono _ _), trivial⟩
  refine xm_meth (own := RX9) (ks := xk_X9_best) (C := xc_X9_best) (Ts := [xt_X9_isPerson, xt_X9_in, xt_X9_copies, xt_X9_throwsUpon, xt_X9_rowJoins]) (by decide +kernel) rfl xm_clsok xs_M_ok xf_X9_ok xi_X9_ok xj_X9_ok (xm_lk xl_X9_412 xp_X9_isPerson (by decide) (xm_lk xl_X9_307 xp_X9_in (by decide) (xm_lk xl_X9_320 xp_X9_copies (by decide) (xm_lk xl_X9_317 xp_X9_throwsUpon (by decide) (xm_lk xl_X9_460 xp_X9_rowJoins (by decide) xm_lk0))))) xo_X9_best ?_ ?_
  · rintro av g Q ⟨z, ⟨rfl, -⟩, -⟩
    exact Nat.le_of_ble_eq_true rfl
  · rintro av g Q ⟨⟨σ, p, w⟩, ⟨rfl, ⟨lv, h⟩⟩, hQ⟩
    dsimp only at h hQ
    have m6 := h.m6
    have n5 := h.n5
    have hl := h.lv
    rcases vDo_c (m := tM (sT σ)) p (by omega) with hp | ⟨p, hp, rfl⟩
    · have fin := hQ (some (.int (-1))) g ⟨by rw [aBest, vDo_n hp], lv, h⟩
      refine xm_run_go hm 30 ⟨(p, lv, tM (sT σ)), ⟨rfl, hl, h.m9, h.l, h.m⟩, ⟨fun _ => fin, fun z => ?_⟩⟩
      exact absurd (vIs_n hp) z
    · have z1 := vIs_y hp (by omega : tM (sT σ) < 2 ^ 31)
      rcases vDo_or (m := 2) w (by omega) with hv | ⟨w, hv, rfl⟩
      · have fin := hQ (some (.int (-1))) g ⟨by rw [aBest, vDo_y hp (by omega), if_neg (fun e => hv (by rw [e]; decide)), if_neg (fun e => hv (by rw [e]; decide))], lv, h⟩
        refine xm_run_go hm 30 ⟨(nI p, lv, tM (sT σ)), ⟨rfl, hl, h.m9, h.l, h.m⟩, ⟨fun _ => fin, fun _ => ⟨(w, 0, 1), ⟨rfl, trivial⟩, ⟨fun z => ?_, fun _ => fin⟩⟩⟩⟩
        exact absurd (vIn_n (k := 1) rfl (by omega) hv) z
      · have z2 := vIn_y (k := 1) (hi := 1) rfl (by omega) hv
        unfold aBest at hQ
        rw [vDo_y hp (by omega)] at hQ
        generalize hf : (fun s => vRowJoins (sT σ) (vThrow (sT σ) (sC σ) p s)) = f at hQ
        have fp : ∀ s, vRowJoins (sT σ) (vThrow (sT σ) (sC σ) p s) = f s := fun s => by rw [← hf]
        have f0 : ∀ s, s < tN (sT σ) → 0 ≤ f s := fun s hs => by
          rw [← fp, vRowJoins_k h.1.1 (vThrow_ok h.1.1 h.c hp hs)]
          have := vSn_le (f := fun k => vN (vJk (sT σ) (vThrow (sT σ) (sC σ) p s) k)) (b := 1) (fun k => vN_le _) (tM (sT σ))
          exact nI_pos' (by omega)
        have fin : ∀ x3 x4 g1, x3 = (vBe f (-2) (tN (sT σ))).1 → x4 = (vBe f (-2) (tN (sT σ))).2 → mFq g g1 → (nI w = 0 → Q (some (.int x3)) g1) ∧ (¬ nI w = 0 → Q (some (.int x4)) g1) := fun x3 x4 g1 e3 e4 f1 => ⟨fun z => hQ _ _ ⟨by rw [if_pos z, e3], lv, h.q f1⟩, fun z => hQ _ _ ⟨by
          have : w = 1 := by
            have : w ≠ 0 := fun e => z (by rw [e]; rfl)
            omega
          subst this
          rw [if_neg z, if_pos (show nI 1 = 1 from rfl), e4], lv, h.q f1⟩⟩
        have loop : ∀ d s, s + d = tN (sT σ) → ∀ x3 x4, ((s = 0 ∧ x3 = -2 ∧ x4 = -2) ∨ (0 < s ∧ x3 = (vBe f (-2) s).1 ∧ x4 = (vBe f (-2) s).2)) → ∀ g1, mFq g g1 → xm_go xs_M xk_X9_best [xt_X9_isPerson, xt_X9_in, xt_X9_copies, xt_X9_throwsUpon, xt_X9_rowJoins] xc_X9_best Q (xm_drop 17 xc_X9_best) [.ref 0, .int (nI p), .int (nI w), .int x3, .int x4, .int (nI s)] [] g1 := by
          intro d
          induction d with
          | zero =>
            intro s hs x3 x4 hx g1 f1
            have hs : s = tN (sT σ) := by omega
            subst hs
            have h1 := h.q f1
            have e34 : x3 = (vBe f (-2) (tN (sT σ))).1 ∧ x4 = (vBe f (-2) (tN (sT σ))).2 := by
              rcases hx with ⟨a, b, c⟩ | ⟨-, b, c⟩
              · have a0 : tN (sT σ) = 0 := a
                rw [a0]; exact ⟨b, c⟩
              · exact ⟨b, c⟩
            obtain ⟨q1, q2⟩ := fin x3 x4 g1 e34.1 e34.2 f1
            refine xm_run_go hm 40 ⟨lv, ⟨hl, h1.l⟩, ⟨fun _ => ⟨q2, q1⟩, fun z => ?_⟩⟩
            rw [h1.n] at z
            exact absurd z (nI_nlt (Nat.le_refl _) (by omega))
          | succ d ih =>
            intro s hs x3 x4 hx g1 f1
            have h1 := h.q f1
            have hsn : s < tN (sT σ) := by omega
            have nx := ih (s + 1) (by omega)
            rw [nI_succ] at nx
            have neg : x3 < 0 → s = 0 := fun z => by
              rcases hx with ⟨a, -, -⟩ | ⟨a, b, -⟩
              · exact a
              · obtain ⟨j, hj, e⟩ := vBe_pos (f := f) (i0 := -2) (by decide) s a (by omega) (fun k hk => f0 k (by omega))
                rw [b, e] at z
                exact absurd z (nI_pos (by omega))
            have pos : 0 ≤ x3 → 0 < s ∧ x3 = (vBe f (-2) s).1 ∧ x4 = (vBe f (-2) s).2 := fun z => by
              rcases hx with ⟨-, b, -⟩ | q
              · rw [b] at z; exact absurd z (by decide)
              · exact q
            have set : (x3 < 0 ∨ x4 < f s) → nI s = (vBe f (-2) (s + 1)).1 ∧ f s = (vBe f (-2) (s + 1)).2 := fun z => by
              have lt : (vBe f (-2) s).2 < f s := by
                rcases Int32.lt_or_le x3 0 with y | y
                · have s0 := neg y
                  subst s0
                  exact Int32.lt_of_lt_of_le (show (-2 : Int32) < 0 by decide) (f0 0 hsn)
                · rw [← (pos y).2.2]
                  rcases z with z | z
                  · exact absurd z (Int32.not_lt.mpr y)
                  · exact z
              rw [vBe, if_pos lt]; exact ⟨rfl, rfl⟩
            have keep : 0 ≤ x3 → f s ≤ x4 → x3 = (vBe f (-2) (s + 1)).1 ∧ x4 = (vBe f (-2) (s + 1)).2 := fun y z => by
              obtain ⟨-, b, c⟩ := pos y
              rw [vBe, if_neg (by rw [← c]; exact Int32.not_lt.mpr z)]
              exact ⟨b, c⟩
            refine xm_run_go hm 60 ⟨lv, ⟨hl, h1.l⟩, ⟨fun z => ?_, fun _ => ⟨(lv, σ), ⟨rfl, h1⟩, ?_⟩⟩⟩
            · rw [h1.n] at z
              exact absurd z (nI_ge hsn (by omega))
            · rintro o g2 ⟨rfl, i2, f2, -, -⟩
              refine ⟨(p, s, lv, sT σ, sC σ), ⟨rfl, hp, hsn, i2⟩, ?_⟩
              rintro o g3 ⟨rfl, i3, f3⟩
              have ff := (f1.tr f2).tr f3.q
              refine ⟨fun z => ⟨(lv, sT σ, vThrow (sT σ) (sC σ) p s), ⟨rfl, i3⟩, xm_cut hm (nx _ _ (Or.inr ⟨by omega, (set (Or.inl z)).1, (fp s).trans (set (Or.inl z)).2⟩) _ ff)⟩, fun z => ⟨(lv, sT σ, vThrow (sT σ) (sC σ) p s), ⟨rfl, i3⟩, ⟨fun y => ⟨(lv, sT σ, vThrow (sT σ) (sC σ) p s), ⟨rfl, i3⟩, xm_cut hm (nx _ _ (Or.inr ⟨by omega, (set (Or.inr (by rw [← fp]; exact y))).1, (fp s).trans (set (Or.inr (by rw [← fp]; exact y))).2⟩) _ ff)⟩, fun y => xm_cut hm (nx _ _ (Or.inr ⟨by omega, (keep z (by rw [← fp]; exact y)).1, (keep z (by rw [← fp]; exact y)).2⟩) _ ff)⟩⟩⟩
        refine xm_run_go hm 30 ⟨(nI p, lv, tM (sT σ)), ⟨rfl, hl, h.m9, h.l, h.m⟩, ⟨fun z => ?_, fun _ => ⟨(nI w, 0, 1), ⟨rfl, trivial⟩, ⟨fun _ => xm_cut hm (loop (tN (sT σ)) 0 (by omega) _ _ (Or.inl ⟨rfl, rfl, rfl⟩) g mFq.rf), fun z => ?_⟩⟩⟩⟩
        · rw [z1] at z; exact absurd z (by decide)
        · rw [z2] at z; exact absurd z (by decide)
def xt_X9_where : xT := xm_rl (Z := vS × Int32 × Int32) (fun (σ, p, w) av g => av = [.ref 0, .int p, .int w] ∧ mTop σ g) (fun (σ, p, w) g o g' => o = some (.int (aWhere σ p w)) ∧ mTop σ g')
set_option maxRecDepth 100000 in
set_option maxHeartbeats 400000 in
theorem xp_X9_where {l : Launch} {D : va_G} {cA : Nat → ClassId} {B : List (Nat × Cell)} : xm_Met l D cA B xs_M 5 yX9_where cX9_where 6 (some .int) xt_X9_where := by
  have hm : xm_monos [xt_X9_isPerson, xt_X9_in, xt_X9_copies, xt_X9_moves, xt_X9_rowJoins] := ⟨(by first | exact xm_fn_mono _ _ _ | exact xm_rl_mono _ _), (by first | exact xm_fn_mono _ _ _ | exact xm_rl_mono _ _), (by first | exact xm_fn_mono _ _ _ | exact xm_rl_mono _ _), (by first | exact xm_fn_mono _ _ _ | exact xm_rl_mono _ _), (by first | exact xm_fn_mono _ _ _ | exact xm_rl_mono _ _), trivial⟩
  refine xm_meth (own := RX9) (ks := xk_X9_where) (C := xc_X9_where) (Ts := [xt_X9_isPerson, xt_X9_in, xt_X9_copies, xt_X9_moves, xt_X9_rowJoins]) (by decide +kernel) rfl xm_clsok xs_M_ok xf_X9_ok xi_X9_ok xj_X9_ok (xm_lk xl_X9_412 xp_X9_isPerson (by decide) (xm_lk xl_X9_307 xp_X9_in (by decide) (xm_lk xl_X9_320 xp_X9_copies (by decide) (xm_lk xl_X9_418 xp_X9_moves (by decide) (xm_lk xl_X9_460 xp_X9_rowJoins (by decide) xm_lk0))))) xo_X9_where ?_ ?_
  · rintro av g Q ⟨z, ⟨rfl, -⟩, -⟩
    exact Nat.le_of_ble_eq_true rfl
  · rintro av g Q ⟨⟨σ, p, w⟩, ⟨rfl, ⟨lv, h⟩⟩, hQ⟩
    dsimp only at h hQ
    have m6 := h.m6
    have n5 := h.n5
    have hl := h.lv
    rcases vDo_c (m := tM (sT σ)) p (by omega) with hp | ⟨p, hp, rfl⟩
    · have fin := hQ (some (.int (-1))) g ⟨by rw [aWhere, vDo_n hp], lv, h⟩
      refine xm_run_go hm 30 ⟨(p, lv, tM (sT σ)), ⟨rfl, hl, h.m9, h.l, h.m⟩, ⟨fun _ => fin, fun z => ?_⟩⟩
      exact absurd (vIs_n hp) z
    · have z1 := vIs_y hp (by omega : tM (sT σ) < 2 ^ 31)
      rcases vDo_or (m := 2) w (by omega) with hv | ⟨w, hv, rfl⟩
      · have fin := hQ (some (.int (-1))) g ⟨by rw [aWhere, vDo_y hp (by omega), if_neg (fun e => hv (by rw [e]; decide)), if_neg (fun e => hv (by rw [e]; decide))], lv, h⟩
        refine xm_run_go hm 30 ⟨(nI p, lv, tM (sT σ)), ⟨rfl, hl, h.m9, h.l, h.m⟩, ⟨fun _ => fin, fun _ => ⟨(w, 0, 1), ⟨rfl, trivial⟩, ⟨fun z => ?_, fun _ => fin⟩⟩⟩⟩
        exact absurd (vIn_n (k := 1) rfl (by omega) hv) z
      · have z2 := vIn_y (k := 1) (hi := 1) rfl (by omega) hv
        unfold aWhere at hQ
        rw [vDo_y hp (by omega)] at hQ
        generalize hf : (fun s => vRowJoins (sT σ) (vMove (sC σ) p s)) = f at hQ
        have fp : ∀ s, vRowJoins (sT σ) (vMove (sC σ) p s) = f s := fun s => by rw [← hf]
        have f0 : ∀ s, s < tM (sT σ) → 0 ≤ f s := fun s hs => by
          rw [← fp, vRowJoins_k h.1.1 (vMove_ok h.1.1 h.c hp hs)]
          have := vSn_le (f := fun k => vN (vJk (sT σ) (vMove (sC σ) p s) k)) (b := 1) (fun k => vN_le _) (tM (sT σ))
          exact nI_pos' (by omega)
        have fin : ∀ x3 x4 g1, x3 = (vBe f (-1) (tM (sT σ))).1 → x4 = (vBe f (-1) (tM (sT σ))).2 → mFq g g1 → (nI w = 0 → Q (some (.int x3)) g1) ∧ (¬ nI w = 0 → Q (some (.int x4)) g1) := fun x3 x4 g1 e3 e4 f1 => ⟨fun z => hQ _ _ ⟨by rw [if_pos z, e3], lv, h.q f1⟩, fun z => hQ _ _ ⟨by
          have : w = 1 := by
            have : w ≠ 0 := fun e => z (by rw [e]; rfl)
            omega
          subst this
          rw [if_neg z, if_pos (show nI 1 = 1 from rfl), e4], lv, h.q f1⟩⟩
        have loop : ∀ d s, s + d = tM (sT σ) → ∀ x3 x4, ((s = 0 ∧ x3 = -2 ∧ x4 = -2) ∨ (0 < s ∧ x3 = (vBe f (-1) s).1 ∧ x4 = (vBe f (-1) s).2)) → ∀ g1, mFq g g1 → xm_go xs_M xk_X9_where [xt_X9_isPerson, xt_X9_in, xt_X9_copies, xt_X9_moves, xt_X9_rowJoins] xc_X9_where Q (xm_drop 17 xc_X9_where) [.ref 0, .int (nI p), .int (nI w), .int x3, .int x4, .int (nI s)] [] g1 := by
          intro d
          induction d with
          | zero =>
            intro s hs x3 x4 hx g1 f1
            have hs : s = tM (sT σ) := by omega
            subst hs
            have h1 := h.q f1
            have e34 : x3 = (vBe f (-1) (tM (sT σ))).1 ∧ x4 = (vBe f (-1) (tM (sT σ))).2 := by
              rcases hx with ⟨a, b, c⟩ | ⟨-, b, c⟩
              · exact absurd a (by omega)
              · exact ⟨b, c⟩
            obtain ⟨q1, q2⟩ := fin x3 x4 g1 e34.1 e34.2 f1
            refine xm_run_go hm 40 ⟨lv, ⟨hl, h1.l⟩, ⟨fun _ => ⟨q2, q1⟩, fun z => ?_⟩⟩
            rw [h1.m] at z
            exact absurd z (nI_nlt (Nat.le_refl _) (by omega))
          | succ d ih =>
            intro s hs x3 x4 hx g1 f1
            have h1 := h.q f1
            have hsn : s < tM (sT σ) := by omega
            have nx := ih (s + 1) (by omega)
            rw [nI_succ] at nx
            have neg : x3 < 0 → s = 0 := fun z => by
              rcases hx with ⟨a, -, -⟩ | ⟨a, b, -⟩
              · exact a
              · obtain ⟨j, hj, e⟩ := vBe_pos (f := f) (i0 := -1) (by decide) s a (by omega) (fun k hk => f0 k (by omega))
                rw [b, e] at z
                exact absurd z (nI_pos (by omega))
            have pos : 0 ≤ x3 → 0 < s ∧ x3 = (vBe f (-1) s).1 ∧ x4 = (vBe f (-1) s).2 := fun z => by
              rcases hx with ⟨-, b, -⟩ | q
              · rw [b] at z; exact absurd z (by decide)
              · exact q
            have set : (x3 < 0 ∨ x4 < f s) → nI s = (vBe f (-1) (s + 1)).1 ∧ f s = (vBe f (-1) (s + 1)).2 := fun z => by
              have lt : (vBe f (-1) s).2 < f s := by
                rcases Int32.lt_or_le x3 0 with y | y
                · have s0 := neg y
                  subst s0
                  exact Int32.lt_of_lt_of_le (show (-1 : Int32) < 0 by decide) (f0 0 hsn)
                · rw [← (pos y).2.2]
                  rcases z with z | z
                  · exact absurd z (Int32.not_lt.mpr y)
                  · exact z
              rw [vBe, if_pos lt]; exact ⟨rfl, rfl⟩
            have keep : 0 ≤ x3 → f s ≤ x4 → x3 = (vBe f (-1) (s + 1)).1 ∧ x4 = (vBe f (-1) (s + 1)).2 := fun y z => by
              obtain ⟨-, b, c⟩ := pos y
              rw [vBe, if_neg (by rw [← c]; exact Int32.not_lt.mpr z)]
              exact ⟨b, c⟩
            refine xm_run_go hm 60 ⟨lv, ⟨hl, h1.l⟩, ⟨fun z => ?_, fun _ => ⟨(lv, σ), ⟨rfl, h1⟩, ?_⟩⟩⟩
            · rw [h1.m] at z
              exact absurd z (nI_ge hsn (by omega))
            · rintro o g2 ⟨rfl, i2, f2, -, -⟩
              refine ⟨(p, s, lv, sT σ, sC σ), ⟨rfl, hp, hsn, i2⟩, ?_⟩
              rintro o g3 ⟨rfl, i3, f3⟩
              have ff := (f1.tr f2).tr f3.q
              refine ⟨fun z => ⟨(lv, sT σ, vMove (sC σ) p s), ⟨rfl, i3⟩, xm_cut hm (nx _ _ (Or.inr ⟨by omega, (set (Or.inl z)).1, (fp s).trans (set (Or.inl z)).2⟩) _ ff)⟩, fun z => ⟨(lv, sT σ, vMove (sC σ) p s), ⟨rfl, i3⟩, ⟨fun y => ⟨(lv, sT σ, vMove (sC σ) p s), ⟨rfl, i3⟩, xm_cut hm (nx _ _ (Or.inr ⟨by omega, (set (Or.inr (by rw [← fp]; exact y))).1, (fp s).trans (set (Or.inr (by rw [← fp]; exact y))).2⟩) _ ff)⟩, fun y => xm_cut hm (nx _ _ (Or.inr ⟨by omega, (keep z (by rw [← fp]; exact y)).1, (keep z (by rw [← fp]; exact y)).2⟩) _ ff)⟩⟩⟩
        refine xm_run_go hm 30 ⟨(nI p, lv, tM (sT σ)), ⟨rfl, hl, h.m9, h.l, h.m⟩, ⟨fun z => ?_, fun _ => ⟨(nI w, 0, 1), ⟨rfl, trivial⟩, ⟨fun _ => xm_cut hm (loop (tM (sT σ)) 0 (by omega) _ _ (Or.inl ⟨rfl, rfl, rfl⟩) g mFq.rf), fun z => ?_⟩⟩⟩⟩
        · rw [z1] at z; exact absurd z (by decide)
        · rw [z2] at z; exact absurd z (by decide)

def xt_X9_worth : xT := xm_rl (Z := vS × Int32) (fun (σ, n) av g => av = [.ref 0, .int n] ∧ mTop σ g) (fun (σ, n) g o g' => o = some (.int (aWorth σ n)) ∧ mTop σ g')
set_option maxRecDepth 100000 in
set_option maxHeartbeats 400000 in
theorem xp_X9_worth {l : Launch} {D : va_G} {cA : Nat → ClassId} {B : List (Nat × Cell)} : xm_Met l D cA B xs_M 11 yX9_worth cX9_worth 2 (some .int) xt_X9_worth := by
  have hm : xm_monos [xt_X9_isLong, xt_X9_copiesStill, xt_X9_goes] := ⟨(by first | exact xm_fn_mono _ _ _ | exact xm_rl_mono _ _), (by first | exact xm_fn_mono _ _ _ | exact xm_rl_mono _ _), (by first | exact xm_fn_mono _ _ _ | exact xm_rl_mono _ _), trivial⟩
  refine xm_meth (own := RX9) (ks := xk_X9_worth) (C := xc_X9_worth) (Ts := [xt_X9_isLong, xt_X9_copiesStill, xt_X9_goes]) (by decide +kernel) rfl xm_clsok xs_M_ok xf_X9_ok xi_X9_ok xj_X9_ok (xm_lk xl_X9_421 xp_X9_isLong (by decide) (xm_lk xl_X9_463 xp_X9_copiesStill (by decide) (xm_lk xl_X9_424 xp_X9_goes (by decide) xm_lk0))) xo_X9_worth ?_ ?_
  · rintro av g Q ⟨z, ⟨rfl, -⟩, -⟩
    exact Nat.le_of_ble_eq_true rfl
  · rintro av g Q ⟨⟨σ, n⟩, ⟨rfl, ⟨lv, h⟩⟩, hQ⟩
    dsimp only at h hQ
    rcases vDo_or (m := 61) n (by omega) with hn | ⟨n, hn, rfl⟩
    · have fin := hQ (some (.int (-1))) g ⟨by rw [aWorth, vDo_n hn], lv, h⟩
      refine xm_run_go hm 30 ⟨n, ⟨rfl, trivial⟩, ⟨fun z => ?_, fun _ => fin⟩⟩
      exact absurd (vIs_n hn) z
    · have z1 := vIs_y hn (by decide)
      refine xm_run_go hm 40 ⟨nI n, ⟨rfl, trivial⟩, ⟨fun _ => ⟨(lv, σ), ⟨rfl, h⟩, ?_⟩, fun z => ?_⟩⟩
      · rintro o g1 ⟨rfl, i1, f1, e1, e2⟩
        refine ⟨(n, lv, sT σ, sC σ), ⟨rfl, by show n < 100; omega, i1⟩, ?_⟩
        rintro o g2 ⟨rfl, i2, f2⟩
        rw [e1, e2, if_neg (by decide)] at i2
        have h2 := h.q (f1.tr f2.q)
        exact ⟨37, ⟨by decide, rfl⟩, 37, ⟨by decide, rfl⟩, hQ _ _ ⟨by rw [aWorth, vDo_y hn (by omega), i2.2.2.2.2.2.2, h2.2.2.1.2.2.2], lv, h2⟩⟩
      · rw [z1] at z; exact absurd z (by decide)
def xt_X9_paidIn : xT := xm_rl (Z := vS × Int32) (fun (σ, n) av g => av = [.ref 0, .int n] ∧ mTop σ g) (fun (σ, n) g o g' => o = some (.int (aPaidIn σ n)) ∧ mTop σ g')
set_option maxRecDepth 100000 in
set_option maxHeartbeats 400000 in
theorem xp_X9_paidIn {l : Launch} {D : va_G} {cA : Nat → ClassId} {B : List (Nat × Cell)} : xm_Met l D cA B xs_M 11 yX9_paidIn cX9_paidIn 2 (some .int) xt_X9_paidIn := by
  have hm : xm_monos [xt_X9_isLong, xt_X9_copies, xt_X9_goes] := ⟨(by first | exact xm_fn_mono _ _ _ | exact xm_rl_mono _ _), (by first | exact xm_fn_mono _ _ _ | exact xm_rl_mono _ _), (by first | exact xm_fn_mono _ _ _ | exact xm_rl_mono _ _), trivial⟩
  refine xm_meth (own := RX9) (ks := xk_X9_paidIn) (C := xc_X9_paidIn) (Ts := [xt_X9_isLong, xt_X9_copies, xt_X9_goes]) (by decide +kernel) rfl xm_clsok xs_M_ok xf_X9_ok xi_X9_ok xj_X9_ok (xm_lk xl_X9_421 xp_X9_isLong (by decide) (xm_lk xl_X9_320 xp_X9_copies (by decide) (xm_lk xl_X9_424 xp_X9_goes (by decide) xm_lk0))) xo_X9_paidIn ?_ ?_
  · rintro av g Q ⟨z, ⟨rfl, -⟩, -⟩
    exact Nat.le_of_ble_eq_true rfl
  · rintro av g Q ⟨⟨σ, n⟩, ⟨rfl, ⟨lv, h⟩⟩, hQ⟩
    dsimp only at h hQ
    rcases vDo_or (m := 61) n (by omega) with hn | ⟨n, hn, rfl⟩
    · have fin := hQ (some (.int (-1))) g ⟨by rw [aPaidIn, vDo_n hn], lv, h⟩
      refine xm_run_go hm 30 ⟨n, ⟨rfl, trivial⟩, ⟨fun z => ?_, fun _ => fin⟩⟩
      exact absurd (vIs_n hn) z
    · have z1 := vIs_y hn (by decide)
      refine xm_run_go hm 40 ⟨nI n, ⟨rfl, trivial⟩, ⟨fun _ => ⟨(lv, σ), ⟨rfl, h⟩, ?_⟩, fun z => ?_⟩⟩
      · rintro o g1 ⟨rfl, i1, f1, e1, e2⟩
        refine ⟨(n, lv, sT σ, sC σ), ⟨rfl, by show n < 100; omega, i1⟩, ?_⟩
        rintro o g2 ⟨rfl, i2, f2⟩
        rw [e1, e2, if_pos rfl] at i2
        exact ⟨37, ⟨by decide, rfl⟩, hQ _ _ ⟨by rw [aPaidIn, vDo_y hn (by omega), i2.2.2.2.2.2.2], lv, h.q (f1.tr f2.q)⟩⟩
      · rw [z1] at z; exact absurd z (by decide)
def xt_X9_then : xT := xm_rl (Z := vS × Int32 × Int32) (fun (σ, p, n) av g => av = [.ref 0, .int p, .int n] ∧ mTop σ g) (fun (σ, p, n) g o g' => o = some (.int (aThen σ p n)) ∧ mTop σ g')
set_option maxRecDepth 100000 in
set_option maxHeartbeats 400000 in
theorem xp_X9_then {l : Launch} {D : va_G} {cA : Nat → ClassId} {B : List (Nat × Cell)} : xm_Met l D cA B xs_M 11 yX9_then cX9_then 3 (some .int) xt_X9_then := by
  have hm : xm_monos [xt_X9_isPerson, xt_X9_isLong, xt_X9_copies, xt_X9_goes, xt_X9_pictureOf] := ⟨(by first | exact xm_fn_mono _ _ _ | exact xm_rl_mono _ _), (by first | exact xm_fn_mono _ _ _ | exact xm_rl_mono _ _), (by first | exact xm_fn_mono _ _ _ | exact xm_rl_mono _ _), (by first | exact xm_fn_mono _ _ _ | exact xm_rl_mono _ _), (by first | exact xm_fn_mono _ _ _ | exact xm_rl_mono _ _), trivial⟩
  refine xm_meth (own := RX9) (ks := xk_X9_then) (C := xc_X9_then) (Ts := [xt_X9_isPerson, xt_X9_isLong, xt_X9_copies, xt_X9_goes, xt_X9_pictureOf]) (by decide +kernel) rfl xm_clsok xs_M_ok xf_X9_ok xi_X9_ok xj_X9_ok (xm_lk xl_X9_412 xp_X9_isPerson (by decide) (xm_lk xl_X9_421 xp_X9_isLong (by decide) (xm_lk xl_X9_320 xp_X9_copies (by decide) (xm_lk xl_X9_424 xp_X9_goes (by decide) (xm_lk xl_X9_336 xp_X9_pictureOf (by decide) xm_lk0))))) xo_X9_then ?_ ?_
  · rintro av g Q ⟨z, ⟨rfl, -⟩, -⟩
    exact Nat.le_of_ble_eq_true rfl
  · rintro av g Q ⟨⟨σ, p, n⟩, ⟨rfl, ⟨lv, h⟩⟩, hQ⟩
    dsimp only at h hQ
    have m6 := h.m6
    have hl := h.lv
    rcases vDo_c (m := tM (sT σ)) p (by omega) with hp | ⟨p, hp, rfl⟩
    · have fin := hQ (some (.int (-1))) g ⟨by rw [aThen, vDo_n hp], lv, h⟩
      refine xm_run_go hm 30 ⟨(p, lv, tM (sT σ)), ⟨rfl, hl, h.m9, h.l, h.m⟩, ⟨fun _ => fin, fun z => ?_⟩⟩
      exact absurd (vIs_n hp) z
    have z1 := vIs_y hp (by omega : tM (sT σ) < 2 ^ 31)
    rcases vDo_or (m := 61) n (by omega) with hn | ⟨n, hn, rfl⟩
    · have fin := hQ (some (.int (-1))) g ⟨by rw [aThen, vDo_y hp (by omega), vDo_n hn], lv, h⟩
      refine xm_run_go hm 30 ⟨(nI p, lv, tM (sT σ)), ⟨rfl, hl, h.m9, h.l, h.m⟩, ⟨fun _ => fin, fun _ => ⟨n, ⟨rfl, trivial⟩, ⟨fun z => ?_, fun _ => fin⟩⟩⟩⟩
      exact absurd (vIs_n hn) z
    · have z2 := vIs_y hn (by decide)
      have p6 : p < 6 := by omega
      refine xm_run_go hm 40 ⟨(nI p, lv, tM (sT σ)), ⟨rfl, hl, h.m9, h.l, h.m⟩, ⟨fun z => ?_, fun _ => ⟨nI n, ⟨rfl, trivial⟩, ⟨fun _ => ⟨(lv, σ), ⟨rfl, h⟩, ?_⟩, fun z => ?_⟩⟩⟩⟩
      · rw [z1] at z; exact absurd z (by decide)
      · rintro o g1 ⟨rfl, i1, f1, e1, e2⟩
        refine ⟨(n, lv, sT σ, sC σ), ⟨rfl, by show n < 100; omega, i1⟩, ?_⟩
        rintro o g2 ⟨rfl, i2, f2⟩
        rw [e1, e2, if_pos rfl] at i2
        exact ⟨(p, lv, sT σ, vGo (sT σ) (tS (sT σ)) 1 (sC σ) n), ⟨rfl, p6, i2⟩, hQ _ _ ⟨by rw [aThen, vDo_y hp (by omega), vDo_y hn (by omega)], lv, h.q (f1.tr f2.q)⟩⟩
      · rw [z2] at z; exact absurd z (by decide)
theorem vWd1 (t : vSt) (c : vSc) (e : Int32) : vWeek t c (if (1 : Int32) = 0 then vWashers t c e else 0) = vWeek t c (if (0 : Int32) = 0 then 0 else vWashers t c e) := by rw [if_neg (by decide), if_pos rfl]
def xt_X9_plainIn : xT := xm_rl (Z := vS × Int32) (fun (σ, p) av g => av = [.ref 0, .int p] ∧ mTop σ g) (fun (σ, p) g o g' => o = some (.int (aPlainIn σ p)) ∧ mTop σ g')
set_option maxRecDepth 100000 in
set_option maxHeartbeats 400000 in
theorem xp_X9_plainIn {l : Launch} {D : va_G} {cA : Nat → ClassId} {B : List (Nat × Cell)} : xm_Met l D cA B xs_M 10 yX9_plainIn cX9_plainIn 3 (some .int) xt_X9_plainIn := by
  have hm : xm_monos [xt_X9_isPerson, xt_X9_copiesStill, xt_X9_pictureOf, xt_X9_weekGoes] := ⟨(by first | exact xm_fn_mono _ _ _ | exact xm_rl_mono _ _), (by first | exact xm_fn_mono _ _ _ | exact xm_rl_mono _ _), (by first | exact xm_fn_mono _ _ _ | exact xm_rl_mono _ _), (by first | exact xm_fn_mono _ _ _ | exact xm_rl_mono _ _), trivial⟩
  refine xm_meth (own := RX9) (ks := xk_X9_plainIn) (C := xc_X9_plainIn) (Ts := [xt_X9_isPerson, xt_X9_copiesStill, xt_X9_pictureOf, xt_X9_weekGoes]) (by decide +kernel) rfl xm_clsok xs_M_ok xf_X9_ok xi_X9_ok xj_X9_ok (xm_lk xl_X9_412 xp_X9_isPerson (by decide) (xm_lk xl_X9_463 xp_X9_copiesStill (by decide) (xm_lk xl_X9_336 xp_X9_pictureOf (by decide) (xm_lk xl_X9_403 xp_X9_weekGoes (by decide) xm_lk0)))) xo_X9_plainIn ?_ ?_
  · rintro av g Q ⟨z, ⟨rfl, -⟩, -⟩
    exact Nat.le_of_ble_eq_true rfl
  · rintro av g Q ⟨⟨σ, p⟩, ⟨rfl, ⟨lv, h⟩⟩, hQ⟩
    dsimp only at h hQ
    have m6 := h.m6
    have hl := h.lv
    rcases vDo_c (m := tM (sT σ)) p (by omega) with hp | ⟨p, hp, rfl⟩
    · have fin := hQ (some (.int (-1))) g ⟨by rw [aPlainIn, vDo_n hp], lv, h⟩
      refine xm_run_go hm 30 ⟨(p, lv, tM (sT σ)), ⟨rfl, hl, h.m9, h.l, h.m⟩, ⟨fun z => ?_, fun _ => fin⟩⟩
      exact absurd (vIs_n hp) z
    · have z1 := vIs_y hp (by omega : tM (sT σ) < 2 ^ 31)
      have p6 : p < 6 := by omega
      unfold aPlainIn at hQ
      rw [vDo_y hp (by omega)] at hQ
      generalize hP : (fun n => vPic (sT σ) (vGo (sT σ) (tS (sT σ)) 0 (sC σ) n) p < 0) = P at hQ
      have hP' : ∀ n, P n ↔ vPic (sT σ) (vGo (sT σ) (tS (sT σ)) 0 (sC σ) n) p < 0 := fun n => by rw [← hP]
      have loop : ∀ d i, i + d = 100 → vUn P d i = vUn P 100 0 → ∀ g1, mFq g g1 → g1.1 0 51 = tS (sT σ) → g1.1 0 52 = 1 → mIn lv (sT σ) (vGo (sT σ) (tS (sT σ)) 0 (sC σ) i) g1 → xm_go xs_M xk_X9_plainIn [xt_X9_isPerson, xt_X9_copiesStill, xt_X9_pictureOf, xt_X9_weekGoes] xc_X9_plainIn Q (xm_drop 10 xc_X9_plainIn) [.ref 0, .int (nI p), .int (nI i)] [] g1 := by
        intro d
        induction d with
        | zero =>
          intro i hi hu g1 f1 e1 e2 i1
          have hi : i = 100 := by omega
          subst hi
          refine xm_run_go hm 40 ⟨fun z => absurd z (by decide), fun _ => ⟨(p, lv, sT σ, vGo (sT σ) (tS (sT σ)) 0 (sC σ) 100), ⟨rfl, p6, i1⟩, ⟨fun y => ⟨(lv, sT σ, vGo (sT σ) (tS (sT σ)) 0 (sC σ) 100), ⟨rfl, i1⟩, ?_⟩, fun y => hQ _ _ ⟨?_, lv, h.q f1⟩⟩⟩⟩
          · rintro o g2 ⟨rfl, i2, f2⟩
            refine xm_cut hm (xm_run_go hm 20 ⟨fun _ => hQ _ _ ⟨?_, lv, h.q (f1.tr f2.q)⟩, fun z => absurd z (by decide)⟩)
            rw [← hu, vUn_0 (fun q => absurd ((hP' 100).mp q) (Int32.not_lt.mpr y))]
          · rw [← hu, vUn_y ((hP' 100).mpr y)]
        | succ d ih =>
          intro i hi hu g1 f1 e1 e2 i1
          refine xm_run_go hm 40 ⟨fun z => absurd z (nI_nlt (a := 100) (b := i) (by omega) (by omega)), fun _ => ⟨(p, lv, sT σ, vGo (sT σ) (tS (sT σ)) 0 (sC σ) i), ⟨rfl, p6, i1⟩, ⟨fun y => ⟨(lv, sT σ, vGo (sT σ) (tS (sT σ)) 0 (sC σ) i), ⟨rfl, i1⟩, ?_⟩, fun y => hQ _ _ ⟨?_, lv, h.q f1⟩⟩⟩⟩
          · rintro o g2 ⟨rfl, i2, f2⟩
            rw [e1, e2, vWd1] at i2
            have nx := ih (i + 1) (by omega) (by rw [← hu, vUn_n (fun q => absurd ((hP' i).mp q) (Int32.not_lt.mpr y))]) g2 (f1.tr f2.q) ((f2.2.1 51 (by decide)).trans e1) ((f2.2.1 52 (by decide)).trans e2) i2
            rw [nI_succ] at nx
            exact xm_cut hm nx
          · rw [← hu, vUn_y ((hP' i).mpr y)]
      refine xm_run_go hm 40 ⟨(nI p, lv, tM (sT σ)), ⟨rfl, hl, h.m9, h.l, h.m⟩, ⟨fun _ => ⟨(lv, σ), ⟨rfl, h⟩, ?_⟩, fun z => ?_⟩⟩
      · rintro o g1 ⟨rfl, i1, f1, e1, e2⟩
        exact xm_cut hm (loop 100 0 rfl rfl g1 f1 e1 e2 i1)
      · rw [z1] at z; exact absurd z (by decide)
def xt_X9_turns : xT := xm_rl (Z := vS × Int32) (fun (σ, p) av g => av = [.ref 0, .int p] ∧ mTop σ g) (fun (σ, p) g o g' => o = some (.int (aTurns σ p)) ∧ mTop σ g')
set_option maxRecDepth 100000 in
set_option maxHeartbeats 400000 in
theorem xp_X9_turns {l : Launch} {D : va_G} {cA : Nat → ClassId} {B : List (Nat × Cell)} : xm_Met l D cA B xs_M 10 yX9_turns cX9_turns 4 (some .int) xt_X9_turns := by
  have hm : xm_monos [xt_X9_isPerson, xt_X9_copiesStill, xt_X9_pictureOf, xt_X9_weekGoes] := ⟨(by first | exact xm_fn_mono _ _ _ | exact xm_rl_mono _ _), (by first | exact xm_fn_mono _ _ _ | exact xm_rl_mono _ _), (by first | exact xm_fn_mono _ _ _ | exact xm_rl_mono _ _), (by first | exact xm_fn_mono _ _ _ | exact xm_rl_mono _ _), trivial⟩
  refine xm_meth (own := RX9) (ks := xk_X9_turns) (C := xc_X9_turns) (Ts := [xt_X9_isPerson, xt_X9_copiesStill, xt_X9_pictureOf, xt_X9_weekGoes]) (by decide +kernel) rfl xm_clsok xs_M_ok xf_X9_ok xi_X9_ok xj_X9_ok (xm_lk xl_X9_412 xp_X9_isPerson (by decide) (xm_lk xl_X9_463 xp_X9_copiesStill (by decide) (xm_lk xl_X9_336 xp_X9_pictureOf (by decide) (xm_lk xl_X9_403 xp_X9_weekGoes (by decide) xm_lk0)))) xo_X9_turns ?_ ?_
  · rintro av g Q ⟨z, ⟨rfl, -⟩, -⟩
    exact Nat.le_of_ble_eq_true rfl
  · rintro av g Q ⟨⟨σ, p⟩, ⟨rfl, ⟨lv, h⟩⟩, hQ⟩
    dsimp only at h hQ
    have m6 := h.m6
    have hl := h.lv
    rcases vDo_c (m := tM (sT σ)) p (by omega) with hp | ⟨p, hp, rfl⟩
    · have fin := hQ (some (.int (-1))) g ⟨by rw [aTurns, vDo_n hp], lv, h⟩
      refine xm_run_go hm 30 ⟨(p, lv, tM (sT σ)), ⟨rfl, hl, h.m9, h.l, h.m⟩, ⟨fun z => ?_, fun _ => fin⟩⟩
      exact absurd (vIs_n hp) z
    · have z1 := vIs_y hp (by omega : tM (sT σ) < 2 ^ 31)
      have p6 : p < 6 := by omega
      unfold aTurns at hQ
      rw [vDo_y hp (by omega)] at hQ
      refine xm_run_go hm 40 ⟨(nI p, lv, tM (sT σ)), ⟨rfl, hl, h.m9, h.l, h.m⟩, ⟨fun _ => ⟨(lv, σ), ⟨rfl, h⟩, ?_⟩, fun z => ?_⟩⟩
      · rintro o g1 ⟨rfl, i1, f1, e1, e2⟩
        refine ⟨(p, lv, sT σ, sC σ), ⟨rfl, p6, i1⟩, ?_⟩
        by_cases hn : vPic (sT σ) (sC σ) p < 0
        · rw [if_pos hn] at hQ
          exact xm_cut hm (xm_run_go hm 20 ⟨fun z => absurd z (by decide), fun _ => ⟨fun _ => hQ _ _ ⟨rfl, lv, h.q f1⟩, fun z => absurd hn (Int32.not_lt.mpr z)⟩⟩)
        rw [if_neg hn] at hQ
        generalize hP : (fun n => ¬ vPic (sT σ) (vGo (sT σ) (tS (sT σ)) 0 (sC σ) n) p = vPic (sT σ) (sC σ) p) = P at hQ
        have hP' : ∀ n, P n ↔ ¬ vPic (sT σ) (vGo (sT σ) (tS (sT σ)) 0 (sC σ) n) p = vPic (sT σ) (sC σ) p := fun n => by rw [← hP]
        have loop : ∀ d i, i + d = 100 → vUn P 100 0 = (if d = 0 then -2 else vUn P (d - 1) (i + 1)) → ∀ g1, mFq g g1 → g1.1 0 51 = tS (sT σ) → g1.1 0 52 = 1 → mIn lv (sT σ) (vGo (sT σ) (tS (sT σ)) 0 (sC σ) i) g1 → xm_go xs_M xk_X9_turns [xt_X9_isPerson, xt_X9_copiesStill, xt_X9_pictureOf, xt_X9_weekGoes] xc_X9_turns Q (xm_drop 14 xc_X9_turns) [.ref 0, .int (nI p), .int (vPic (sT σ) (sC σ) p), .int (nI (i + 1))] [] g1 := by
          intro d
          induction d with
          | zero =>
            intro i hi hu g1 f1 e1 e2 i1
            have hi : i = 100 := by omega
            subst hi
            rw [if_pos rfl] at hu
            exact xm_run_go hm 20 ⟨fun _ => hQ _ _ ⟨by rw [hu], lv, h.q f1⟩, fun z => absurd z (by decide)⟩
          | succ d ih =>
            intro i hi hu g1 f1 e1 e2 i1
            rw [if_neg (by omega), Nat.add_sub_cancel] at hu
            refine xm_run_go hm 40 ⟨fun z => absurd z (nI_nlt (a := 100) (b := i + 1) (by omega) (by omega)), fun _ => ⟨fun z => absurd z hn, fun _ => ⟨(lv, sT σ, vGo (sT σ) (tS (sT σ)) 0 (sC σ) i), ⟨rfl, i1⟩, ?_⟩⟩⟩
            rintro o g2 ⟨rfl, i2, f2⟩
            rw [e1, e2, vWd1] at i2
            have i2 : mIn lv (sT σ) (vGo (sT σ) (tS (sT σ)) 0 (sC σ) (i + 1)) g2 := i2
            refine ⟨(p, lv, sT σ, vGo (sT σ) (tS (sT σ)) 0 (sC σ) (i + 1)), ⟨rfl, p6, i2⟩, ⟨fun y => ?_, fun y => hQ _ _ ⟨?_, lv, h.q (f1.tr f2.q)⟩⟩⟩
            · have np : ¬ P (i + 1) := fun q => (hP' (i + 1)).mp q y
              have nx := ih (i + 1) (by omega) (by
                rcases Nat.eq_zero_or_pos d with q | q
                · subst q
                  rw [if_pos rfl, hu, vUn_0 np]
                · obtain ⟨e, rfl⟩ : ∃ e, d = e + 1 := ⟨d - 1, by omega⟩
                  rw [if_neg (by omega), Nat.add_sub_cancel, hu, vUn_n np]) g2 (f1.tr f2.q) ((f2.2.1 51 (by decide)).trans e1) ((f2.2.1 52 (by decide)).trans e2) i2
              rw [nI_succ (i + 1)] at nx
              exact xm_cut hm nx
            · rw [hu, vUn_y ((hP' (i + 1)).mpr y)]
        refine xm_cut hm (loop 100 0 rfl ?_ g1 f1 e1 e2 i1)
        rw [if_neg (by decide), vUn_n (fun q => (hP' 0).mp q rfl)]
      · rw [z1] at z; exact absurd z (by decide)
def xt_X9_year : xT := xm_rl (Z := vS × Int32 × Int32 × Int32) (fun (σ, p, n, s) av g => av = [.ref 0, .int p, .int n, .int s] ∧ mTop σ g) (fun (σ, p, n, s) g o g' => o = some (.int (aYear σ p n s)) ∧ mTop σ g')
set_option maxRecDepth 100000 in
set_option maxHeartbeats 400000 in
theorem xp_X9_year {l : Launch} {D : va_G} {cA : Nat → ClassId} {B : List (Nat × Cell)} : xm_Met l D cA B xs_M 11 yX9_year cX9_year 6 (some .int) xt_X9_year := by
  have hm : xm_monos [xt_X9_isPerson, xt_X9_isLong, xt_X9_in, xt_X9_copies, xt_X9_goes, xt_X9_pictureOf] := ⟨(by first | exact xm_fn_mono _ _ _ | exact xm_rl_mono _ _), (by first | exact xm_fn_mono _ _ _ | exact xm_rl_mono _ _), (by first | exact xm_fn_mono _ _ _ | exact xm_rl_mono _ _), (by first | exact xm_fn_mono _ _ _ | exact xm_rl_mono _ _), (by first | exact xm_fn_mono _ _ _ | exact xm_rl_mono _ _), (by first | exact xm_fn_mono _ _ _ | exact xm_rl_mono _ _), trivial⟩
  refine xm_meth (own := RX9) (ks := xk_X9_year) (C := xc_X9_year) (Ts := [xt_X9_isPerson, xt_X9_isLong, xt_X9_in, xt_X9_copies, xt_X9_goes, xt_X9_pictureOf]) (by decide +kernel) rfl xm_clsok xs_M_ok xf_X9_ok xi_X9_ok xj_X9_ok (xm_lk xl_X9_412 xp_X9_isPerson (by decide) (xm_lk xl_X9_421 xp_X9_isLong (by decide) (xm_lk xl_X9_307 xp_X9_in (by decide) (xm_lk xl_X9_320 xp_X9_copies (by decide) (xm_lk xl_X9_424 xp_X9_goes (by decide) (xm_lk xl_X9_336 xp_X9_pictureOf (by decide) xm_lk0)))))) xo_X9_year ?_ ?_
  · rintro av g Q ⟨z, ⟨rfl, -⟩, -⟩
    exact Nat.le_of_ble_eq_true rfl
  · rintro av g Q ⟨⟨σ, p, n, s⟩, ⟨rfl, ⟨lv, h⟩⟩, hQ⟩
    dsimp only at h hQ
    have m6 := h.m6
    have hl := h.lv
    rcases vDo_c (m := tM (sT σ)) p (by omega) with hp | ⟨p, hp, rfl⟩
    · have fin := hQ (some (.int (-1))) g ⟨by rw [aYear, vDo_n hp], lv, h⟩
      refine xm_run_go hm 30 ⟨(p, lv, tM (sT σ)), ⟨rfl, hl, h.m9, h.l, h.m⟩, ⟨fun _ => fin, fun z => ?_⟩⟩
      exact absurd (vIs_n hp) z
    have z1 := vIs_y hp (by omega : tM (sT σ) < 2 ^ 31)
    rcases vDo_or (m := 61) n (by omega) with hn | ⟨n, hn, rfl⟩
    · have fin := hQ (some (.int (-1))) g ⟨by rw [aYear, vDo_y hp (by omega), vDo_n hn], lv, h⟩
      refine xm_run_go hm 30 ⟨(nI p, lv, tM (sT σ)), ⟨rfl, hl, h.m9, h.l, h.m⟩, ⟨fun _ => fin, fun _ => ⟨n, ⟨rfl, trivial⟩, ⟨fun _ => fin, fun z => ?_⟩⟩⟩⟩
      exact absurd (vIs_n hn) z
    have z2 := vIs_y hn (by decide)
    unfold aYear at hQ
    rw [vDo_y hp (by omega), vDo_y hn (by omega)] at hQ
    have p6 : p < 6 := by omega
    by_cases hs : 1 ≤ s ∧ s ≤ 20
    · obtain ⟨s, hs0, hs1, rfl⟩ : ∃ j, 0 < j ∧ j < 21 ∧ s = nI j := by
        obtain ⟨j, hj, rfl⟩ := nI_of (x := s) (Int32.not_lt.mpr (Int32.le_trans (by decide) hs.1))
        exact ⟨j, (nI_leI (a := 1) (by omega) hj).mp hs.1, by have := (nI_leI (b := 20) hj (by omega)).mp hs.2; omega, rfl⟩
      rw [vDo_y hs1 (by omega), if_neg (by omega)] at hQ
      generalize hf : (fun i => vB (vPic (sT σ) (vGo (sT σ) (tS (sT σ) + nI i) 1 (sC σ) n) p < 0)) = f at hQ
      have f' : ∀ i, f i = vB (vPic (sT σ) (vGo (sT σ) (tS (sT σ) + nI i) 1 (sC σ) n) p < 0) := fun i => by rw [← hf]
      have loop : ∀ d i, i + d = s → ∀ v4, v4 = vSum f i → ∀ g1, mFq g g1 → xm_go xs_M xk_X9_year [xt_X9_isPerson, xt_X9_isLong, xt_X9_in, xt_X9_copies, xt_X9_goes, xt_X9_pictureOf] xc_X9_year Q (xm_drop 18 xc_X9_year) [.ref 0, .int (nI p), .int (nI n), .int (nI s), .int v4, .int (nI i)] [] g1 := by
        intro d
        induction d with
        | zero =>
          intro i hi v4 e4 g1 f1
          have hi : i = s := by omega
          subst hi
          exact xm_run_go hm 40 ⟨fun _ => hQ _ _ ⟨by rw [e4], lv, h.q f1⟩, fun z => absurd z (nI_nlt (Nat.le_refl _) (by omega))⟩
        | succ d ih =>
          intro i hi v4 e4 g1 f1
          have nx := ih (i + 1) (by omega)
          rw [nI_succ] at nx
          refine xm_run_go hm 40 ⟨fun z => absurd z (nI_ge (by omega) (by omega)), fun _ => ⟨(lv, σ), ⟨rfl, h.q f1⟩, ?_⟩⟩
          rintro o g2 ⟨rfl, i2, f2, e1, e2⟩
          have i2' : mIn lv (sT σ) (sC σ) (xm_sI g2 0 51 (g2.1 0 51 + nI i)) := ⟨i2.1, i2.2.1, i2.2.2.1.q (mFq.rf.f _ (by omega)), i2.2.2.2.fr (xg_off _ _ _ (by decide))⟩
          refine ⟨(n, lv, sT σ, sC σ), ⟨rfl, by show n < 100; omega, i2'⟩, ?_⟩
          rintro o g3 ⟨rfl, i3, f3⟩
          have q1 : (xm_sI g2 0 51 (g2.1 0 51 + nI i)).1 0 51 = tS (sT σ) + nI i := by rw [xg_in, if_pos rfl, e1]
          have q2 : (xm_sI g2 0 51 (g2.1 0 51 + nI i)).1 0 52 = 0 := by rw [xg_in, if_neg (by decide), e2]
          rw [q1, q2, if_pos rfl] at i3
          have ff : mFq g g3 := (f1.tr (f2.f _ (by omega))).tr f3.q
          refine ⟨(p, lv, sT σ, vGo (sT σ) (tS (sT σ) + nI i) 1 (sC σ) n), ⟨rfl, p6, i3⟩, ⟨fun y => xm_cut hm (nx _ ?_ g3 ff), fun y => xm_cut hm (nx _ ?_ g3 ff)⟩⟩
          · rw [vSum, f', vB_f (Int32.not_lt.mpr y), e4, Int32.add_zero]
          · rw [vSum, f', vB_t y, e4]
      have z3 : (if 1 ≤ nI s ∧ nI s ≤ 20 then (1 : Int32) else 0) = 1 := by rw [if_pos hs]
      refine xm_run_go hm 60 ⟨(nI p, lv, tM (sT σ)), ⟨rfl, hl, h.m9, h.l, h.m⟩, ⟨fun z => ?_, fun _ => ⟨nI n, ⟨rfl, trivial⟩, ⟨fun z => ?_, fun _ => ⟨(nI s, 1, 20), ⟨rfl, trivial⟩, ⟨fun _ => xm_cut hm (loop s 0 (by omega) _ rfl g mFq.rf), fun z => ?_⟩⟩⟩⟩⟩⟩
      · rw [z1] at z; exact absurd z (by decide)
      · rw [z2] at z; exact absurd z (by decide)
      · rw [z3] at z; exact absurd z (by decide)
    · have no : (vDo (-1) 21 s fun s => if s = 0 then -1 else vSum (fun i => vB (vPic (sT σ) (vGo (sT σ) (tS (sT σ) + nI i) 1 (sC σ) n) p < 0)) s) = -1 := by
        rcases vDo_or (m := 21) s (by omega) with y | ⟨j, y, rfl⟩
        · rw [vDo_n y]
        · rw [vDo_y y (by omega)]
          by_cases j0 : j = 0
          · rw [if_pos j0]
          · exact absurd ⟨(nI_leI (a := 1) (by omega) (by omega)).mpr (by omega), (nI_leI (b := 20) (by omega) (by omega)).mpr (by omega)⟩ hs
      have fin := hQ (some (.int (-1))) g ⟨by rw [no], lv, h⟩
      have z3 : (if 1 ≤ s ∧ s ≤ 20 then (1 : Int32) else 0) = 0 := by rw [if_neg hs]
      refine xm_run_go hm 60 ⟨(nI p, lv, tM (sT σ)), ⟨rfl, hl, h.m9, h.l, h.m⟩, ⟨fun _ => fin, fun _ => ⟨nI n, ⟨rfl, trivial⟩, ⟨fun _ => fin, fun _ => ⟨(s, 1, 20), ⟨rfl, trivial⟩, ⟨fun z => absurd z3 z, fun _ => fin⟩⟩⟩⟩⟩⟩
def xt_X9_like : xT := xm_rl (Z := vS × Int32) (fun (σ, p) av g => av = [.ref 0, .int p] ∧ mTop σ g) (fun (σ, p) g o g' => o = some (.int (aLike σ p)) ∧ mTop σ g')
set_option maxRecDepth 100000 in
set_option maxHeartbeats 400000 in
theorem xp_X9_like {l : Launch} {D : va_G} {cA : Nat → ClassId} {B : List (Nat × Cell)} : xm_Met l D cA B xs_M 3 yX9_like cX9_like 3 (some .int) xt_X9_like := by
  have hm : xm_monos [xt_X9_isPerson, xt_X9_copies, xt_X9_pictureOf, xt_X9_shownOn] := ⟨(by first | exact xm_fn_mono _ _ _ | exact xm_rl_mono _ _), (by first | exact xm_fn_mono _ _ _ | exact xm_rl_mono _ _), (by first | exact xm_fn_mono _ _ _ | exact xm_rl_mono _ _), (by first | exact xm_fn_mono _ _ _ | exact xm_rl_mono _ _), trivial⟩
  refine xm_meth (own := RX9) (ks := xk_X9_like) (C := xc_X9_like) (Ts := [xt_X9_isPerson, xt_X9_copies, xt_X9_pictureOf, xt_X9_shownOn]) (by decide +kernel) rfl xm_clsok xs_M_ok xf_X9_ok xi_X9_ok xj_X9_ok (xm_lk xl_X9_412 xp_X9_isPerson (by decide) (xm_lk xl_X9_320 xp_X9_copies (by decide) (xm_lk xl_X9_336 xp_X9_pictureOf (by decide) (xm_lk xl_X9_409 xp_X9_shownOn (by decide) xm_lk0)))) xo_X9_like ?_ ?_
  · rintro av g Q ⟨z, ⟨rfl, -⟩, -⟩
    exact Nat.le_of_ble_eq_true rfl
  · rintro av g Q ⟨⟨σ, p⟩, ⟨rfl, ⟨lv, h⟩⟩, hQ⟩
    dsimp only at h hQ
    have m6 := h.m6
    have hl := h.lv
    rcases vDo_c (m := tM (sT σ)) p (by omega) with hp | ⟨p, hp, rfl⟩
    · have fin := hQ (some (.int (-1))) g ⟨by rw [aLike, vDo_n hp], lv, h⟩
      refine xm_run_go hm 30 ⟨(p, lv, tM (sT σ)), ⟨rfl, hl, h.m9, h.l, h.m⟩, ⟨fun z => ?_, fun _ => fin⟩⟩
      exact absurd (vIs_n hp) z
    · have z1 := vIs_y hp (by omega : tM (sT σ) < 2 ^ 31)
      have p6 : p < 6 := by omega
      refine xm_run_go hm 40 ⟨(nI p, lv, tM (sT σ)), ⟨rfl, hl, h.m9, h.l, h.m⟩, ⟨fun _ => ⟨(lv, σ), ⟨rfl, h⟩, ?_⟩, fun z => ?_⟩⟩
      · rintro o g1 ⟨rfl, i1, f1, -, -⟩
        refine ⟨(p, lv, sT σ, sC σ), ⟨rfl, p6, i1⟩, ⟨fun z => ⟨(vPic (sT σ) (sC σ) p, lv, sT σ, sC σ), ⟨rfl, i1⟩, hQ _ _ ⟨?_, lv, h.q f1⟩⟩, fun z => hQ _ _ ⟨?_, lv, h.q f1⟩⟩⟩
        · rw [aLike, vDo_y hp (by omega), if_neg (Int32.not_lt.mpr z)]
        · rw [aLike, vDo_y hp (by omega), if_pos z]
      · rw [z1] at z; exact absurd z (by decide)
theorem vPk_bd {f : Nat → Int32} : ∀ n, n ≤ 5 → (∀ k, k < n → 0 ≤ f k ∧ f k ≤ 99) → 0 ≤ (vPk f n).2.1.toInt ∧ (vPk f n).2.1.toInt ≤ (vPk f n).2.2.toInt ∧ (vPk f n).2.2.toInt ≤ 99 * n
  | 0, _, _ => by
    show 0 ≤ (0 : Int32).toInt ∧ (0 : Int32).toInt ≤ (0 : Int32).toInt ∧ (0 : Int32).toInt ≤ _
    have : (0 : Int32).toInt = 0 := by decide
    omega
  | n + 1, hn, hf => by
    obtain ⟨a, b, c⟩ := vPk_bd (f := f) n (by omega) (fun k hk => hf k (by omega))
    have d := xi_in (hf n (by omega)).1 (hf n (by omega)).2
    have e := xi_add (x := (vPk f n).2.2) (y := f n) rfl rfl (by omega) (by omega)
    show 0 ≤ (if (vPk f n).2.1 < f n then f n else (vPk f n).2.1).toInt ∧ (if (vPk f n).2.1 < f n then f n else (vPk f n).2.1).toInt ≤ ((vPk f n).2.2 + f n).toInt ∧ ((vPk f n).2.2 + f n).toInt ≤ 99 * ((n + 1 : Nat) : Int)
    rw [e]
    split <;> omega
theorem vTot_pos {t : vSt} {c : vSc} {p : Nat} (ht : vTok t) (hc : vCok t c) (hp : p < tM t) : vPic t c p < 0 ↔ vTot t c p ≤ 0 := by
  have n5 := ht.1
  have m6 := ht.2.1
  have bd := vPk_bd (f := fun s => cG c (p * 5 + s)) (tN t) n5 (fun k hk => hc.2.2.2.1 (p * 5 + k) (by omega))
  have z0 : (0 : Int32).toInt = 0 := by decide
  constructor
  · intro z
    have e := (vPk_neg (f := fun s => cG c (p * 5 + s)) (by omega)).mp z
    have all0 : ∀ s, s < tN t → cG c (p * 5 + s) = 0 := fun s hs => Int32.le_antisymm (e s hs) (hc.2.2.2.1 (p * 5 + s) (by omega)).1
    unfold vTot
    rw [vPk_sum, vSum_cong (f' := fun _ => 0) all0]
    have s0 : ∀ n, vSum (fun _ => (0 : Int32)) n = 0 := fun n => by
      induction n with
      | zero => rfl
      | succ n ih => rw [vSum, ih]; rfl
    rw [s0]; decide
  · intro z
    refine (vPk_neg (f := fun s => cG c (p * 5 + s)) (by omega)).mpr fun s hs => ?_
    have m := vPk_max (fun s => cG c (p * 5 + s)) (tN t) s hs
    unfold vTot at z
    rw [xi_le] at z m ⊢
    rw [z0] at z ⊢
    omega
def xt_X9_share : xT := xm_rl (Z := vS × Int32) (fun (σ, p) av g => av = [.ref 0, .int p] ∧ mTop σ g) (fun (σ, p) g o g' => o = some (.int (aShare σ p)) ∧ mTop σ g')
set_option maxRecDepth 100000 in
set_option maxHeartbeats 400000 in
theorem xp_X9_share {l : Launch} {D : va_G} {cA : Nat → ClassId} {B : List (Nat × Cell)} : xm_Met l D cA B xs_M 2 yX9_share cX9_share 3 (some .int) xt_X9_share := by
  have hm : xm_monos [xt_X9_isPerson, xt_X9_copies, xt_X9_pictureOf, xt_X9_glowAt, xt_X9_allGlow] := ⟨(by first | exact xm_fn_mono _ _ _ | exact xm_rl_mono _ _), (by first | exact xm_fn_mono _ _ _ | exact xm_rl_mono _ _), (by first | exact xm_fn_mono _ _ _ | exact xm_rl_mono _ _), (by first | exact xm_fn_mono _ _ _ | exact xm_rl_mono _ _), (by first | exact xm_fn_mono _ _ _ | exact xm_rl_mono _ _), trivial⟩
  refine xm_meth (own := RX9) (ks := xk_X9_share) (C := xc_X9_share) (Ts := [xt_X9_isPerson, xt_X9_copies, xt_X9_pictureOf, xt_X9_glowAt, xt_X9_allGlow]) (by decide +kernel) rfl xm_clsok xs_M_ok xf_X9_ok xi_X9_ok xj_X9_ok (xm_lk xl_X9_412 xp_X9_isPerson (by decide) (xm_lk xl_X9_320 xp_X9_copies (by decide) (xm_lk xl_X9_336 xp_X9_pictureOf (by decide) (xm_lk xl_X9_327 xp_X9_glowAt (by decide) (xm_lk xl_X9_364 xp_X9_allGlow (by decide) xm_lk0))))) xo_X9_share ?_ ?_
  · rintro av g Q ⟨z, ⟨rfl, -⟩, -⟩
    exact Nat.le_of_ble_eq_true rfl
  · rintro av g Q ⟨⟨σ, p⟩, ⟨rfl, ⟨lv, h⟩⟩, hQ⟩
    dsimp only at h hQ
    have m6 := h.m6
    have n5 := h.n5
    have hl := h.lv
    rcases vDo_c (m := tM (sT σ)) p (by omega) with hp | ⟨p, hp, rfl⟩
    · have fin := hQ (some (.int (-1))) g ⟨by rw [aShare, vDo_n hp], lv, h⟩
      refine xm_run_go hm 30 ⟨(p, lv, tM (sT σ)), ⟨rfl, hl, h.m9, h.l, h.m⟩, ⟨fun z => ?_, fun _ => fin⟩⟩
      exact absurd (vIs_n hp) z
    · have z1 := vIs_y hp (by omega : tM (sT σ) < 2 ^ 31)
      have p6 : p < 6 := by omega
      have tp := vTot_pos h.1.1 h.c hp
      refine xm_run_go hm 40 ⟨(nI p, lv, tM (sT σ)), ⟨rfl, hl, h.m9, h.l, h.m⟩, ⟨fun _ => ⟨(lv, σ), ⟨rfl, h⟩, ?_⟩, fun z => ?_⟩⟩
      · rintro o g1 ⟨rfl, i1, f1, -, -⟩
        rcases vShine_pic h.1.1 (sC σ) p with ⟨q1, q2⟩ | ⟨s, q0, q1, q2⟩
        · have neg : vPic (sT σ) (sC σ) p < 0 := by rw [q1]; decide
          exact ⟨(p, lv, sT σ, sC σ), ⟨rfl, p6, i1⟩, ⟨fun z => absurd neg (Int32.not_lt.mpr z), fun _ => hQ _ _ ⟨by rw [aShare, vDo_y hp (by omega), if_pos (tp.mp neg)], lv, h.q f1⟩⟩⟩
        · have neg : ¬ vPic (sT σ) (sC σ) p < 0 := by rw [q1]; exact nI_pos (by omega)
          have t0 : ¬ vTot (sT σ) (sC σ) p ≤ 0 := fun z => neg (tp.mpr z)
          have s5 : s < 5 := by omega
          have ea : [Value.ref 0, .int (nI p), .int (vPic (sT σ) (sC σ) p)] = [Value.ref 0, .int (nI p), .int (nI s)] := by rw [q1]
          refine ⟨(p, lv, sT σ, sC σ), ⟨rfl, p6, i1⟩, ⟨fun _ => ⟨(p, s), ⟨ea, p6, s5⟩, (p, lv, sT σ, sC σ), ⟨rfl, p6, i1⟩, fun z => t0 (by rw [z]; decide), hQ _ _ ⟨?_, lv, h.q f1⟩⟩, fun z => absurd z neg⟩⟩
          rw [aShare, vDo_y hp (by omega), if_neg t0, q2, i1.2.2.2.1 (p * 5 + s) (by omega), Int32.mul_comm]
      · rw [z1] at z; exact absurd z (by decide)
def xt_X9_brightest : xT := xm_rl (Z := vS × Int32) (fun (σ, w) av g => av = [.ref 0, .int w] ∧ mTop σ g) (fun (σ, w) g o g' => o = some (.int (aBrightest σ w)) ∧ mTop σ g')
set_option maxRecDepth 100000 in
set_option maxHeartbeats 400000 in
theorem xp_X9_brightest {l : Launch} {D : va_G} {cA : Nat → ClassId} {B : List (Nat × Cell)} : xm_Met l D cA B xs_M 2 yX9_brightest cX9_brightest 6 (some .int) xt_X9_brightest := by
  have hm : xm_monos [xt_X9_in, xt_X9_copies, xt_X9_pictureOf, xt_X9_glowAt] := ⟨(by first | exact xm_fn_mono _ _ _ | exact xm_rl_mono _ _), (by first | exact xm_fn_mono _ _ _ | exact xm_rl_mono _ _), (by first | exact xm_fn_mono _ _ _ | exact xm_rl_mono _ _), (by first | exact xm_fn_mono _ _ _ | exact xm_rl_mono _ _), trivial⟩
  refine xm_meth (own := RX9) (ks := xk_X9_brightest) (C := xc_X9_brightest) (Ts := [xt_X9_in, xt_X9_copies, xt_X9_pictureOf, xt_X9_glowAt]) (by decide +kernel) rfl xm_clsok xs_M_ok xf_X9_ok xi_X9_ok xj_X9_ok (xm_lk xl_X9_307 xp_X9_in (by decide) (xm_lk xl_X9_320 xp_X9_copies (by decide) (xm_lk xl_X9_336 xp_X9_pictureOf (by decide) (xm_lk xl_X9_327 xp_X9_glowAt (by decide) xm_lk0)))) xo_X9_brightest ?_ ?_
  · rintro av g Q ⟨z, ⟨rfl, -⟩, -⟩
    exact Nat.le_of_ble_eq_true rfl
  · rintro av g Q ⟨⟨σ, w⟩, ⟨rfl, ⟨lv, h⟩⟩, hQ⟩
    dsimp only at h hQ
    have m6 := h.m6
    have n5 := h.n5
    have hl := h.lv
    rcases vDo_or (m := 2) w (by omega) with hv | ⟨w, hv, rfl⟩
    · have fin := hQ (some (.int (-1))) g ⟨by rw [aBrightest, if_neg (fun e => hv (by rw [e]; decide)), if_neg (fun e => hv (by rw [e]; decide))], lv, h⟩
      refine xm_run_go hm 30 ⟨(w, 0, 1), ⟨rfl, trivial⟩, ⟨fun z => ?_, fun _ => fin⟩⟩
      exact absurd (vIn_n (k := 1) rfl (by omega) hv) z
    · have z2 := vIn_y (k := 1) (hi := 1) rfl (by omega) hv
      have w1 : ¬ nI w = 0 → nI w = 1 := fun z => by
        have : w ≠ 0 := fun e => z (by rw [e]; rfl)
        rw [show w = 1 by omega]; rfl
      refine xm_run_go hm 40 ⟨(nI w, 0, 1), ⟨rfl, trivial⟩, ⟨fun _ => ⟨(lv, σ), ⟨rfl, h⟩, ?_⟩, fun z => ?_⟩⟩
      · rintro o g1 ⟨rfl, i1, f1, -, -⟩
        have loop : ∀ d p, p + d = tM (sT σ) → ∀ v2 v3, v2 = (vPk (vShine (sT σ) (sC σ)) p).1 → v3 = (vPk (vShine (sT σ) (sC σ)) p).2.1 → ∀ w5, xm_go xs_M xk_X9_brightest [xt_X9_in, xt_X9_copies, xt_X9_pictureOf, xt_X9_glowAt] xc_X9_brightest Q (xm_drop 15 xc_X9_brightest) [.ref 0, .int (nI w), .int v2, .int v3, .int (nI p), w5] [] g1 := by
          intro d
          induction d with
          | zero =>
            intro p hp v2 v3 e2 e3 w5
            have hp : p = tM (sT σ) := by omega
            subst hp
            have pk := vPk_pic (vShine (sT σ) (sC σ)) (tM (sT σ)) (by omega)
            have neg : v2 < 0 → v2 = -2 := fun z => by
              rcases pk with ⟨q, -⟩ | ⟨s, q1, q2, -⟩
              · rw [e2, q]
              · rw [e2, q2] at z; exact absurd z (nI_pos (by omega))
            refine xm_run_go hm 40 ⟨lv, ⟨hl, i1.l⟩, ⟨fun _ => ⟨fun z => hQ _ _ ⟨?_, lv, h.q f1⟩, fun z => ⟨fun y => hQ _ _ ⟨?_, lv, h.q f1⟩, fun y => hQ _ _ ⟨?_, lv, h.q f1⟩⟩⟩, fun z => ?_⟩⟩
            · have n2 := neg z
              by_cases w0 : nI w = 0
              · rw [aBrightest, if_pos w0, e2]
              · rw [aBrightest, if_neg w0, if_pos (w1 w0), if_pos (by rw [← e2]; exact n2), n2]
            · rw [aBrightest, if_neg y, if_pos (w1 y), if_neg (by rw [← e2]; intro q; rw [q] at z; exact absurd z (by decide)), e3]
            · rw [aBrightest, if_pos y, e2]
            · rw [i1.m] at z
              exact absurd z (nI_nlt (Nat.le_refl _) (by omega))
          | succ d ih =>
            intro p hp v2 v3 e2 e3 w5
            have hpm : p < tM (sT σ) := by omega
            have p6 : p < 6 := by omega
            have nx := ih (p + 1) (by omega)
            rw [nI_succ] at nx
            have keep : ¬ v3 < vShine (sT σ) (sC σ) p → v2 = (vPk (vShine (sT σ) (sC σ)) (p + 1)).1 ∧ v3 = (vPk (vShine (sT σ) (sC σ)) (p + 1)).2.1 := fun z => by
              rw [e3] at z
              simp only [vPk, if_neg z]; exact ⟨e2, e3⟩
            have set : v3 < vShine (sT σ) (sC σ) p → nI p = (vPk (vShine (sT σ) (sC σ)) (p + 1)).1 ∧ vShine (sT σ) (sC σ) p = (vPk (vShine (sT σ) (sC σ)) (p + 1)).2.1 := fun z => by
              rw [e3] at z
              simp only [vPk, if_pos z]; exact ⟨trivial, trivial⟩
            have ge0 : 0 ≤ v3 := by rw [e3]; exact vPk_ge _ _
            rcases vShine_pic h.1.1 (sC σ) p with ⟨q1, q2⟩ | ⟨s, q0, q1, q2⟩
            · have neg : vPic (sT σ) (sC σ) p < 0 := by rw [q1]; decide
              have nk := keep (by rw [q2]; exact Int32.not_lt.mpr ge0)
              refine xm_run_go hm 40 ⟨lv, ⟨hl, i1.l⟩, ⟨fun z => ?_, fun _ => ⟨(p, lv, sT σ, sC σ), ⟨rfl, p6, i1⟩, ⟨fun _ => xm_cut hm (nx _ _ nk.1 nk.2 _), fun z => absurd neg (Int32.not_lt.mpr z)⟩⟩⟩⟩
              rw [i1.m] at z
              exact absurd z (nI_ge hpm (by omega))
            · have neg : ¬ vPic (sT σ) (sC σ) p < 0 := by rw [q1]; exact nI_pos (by omega)
              have s5 : s < 5 := by omega
              have ea : [Value.ref 0, .int (nI p), .int (vPic (sT σ) (sC σ) p)] = [Value.ref 0, .int (nI p), .int (nI s)] := by rw [q1]
              have eg : g1.1 33 (p * 5 + s) = vShine (sT σ) (sC σ) p := by rw [q2]; exact i1.2.2.2.1 (p * 5 + s) (by omega)
              refine xm_run_go hm 60 ⟨lv, ⟨hl, i1.l⟩, ⟨fun z => ?_, fun _ => ⟨(p, lv, sT σ, sC σ), ⟨rfl, p6, i1⟩, ⟨fun z => absurd z neg, fun _ => ⟨(p, s), ⟨ea, p6, s5⟩, ⟨fun z => ⟨(p, s), ⟨ea, p6, s5⟩, xm_cut hm (nx _ _ (set (by rw [← eg]; exact z)).1 (eg.trans (set (by rw [← eg]; exact z)).2) _)⟩, fun z => xm_cut hm (nx _ _ (keep (by rw [← eg]; exact Int32.not_lt.mpr z)).1 (keep (by rw [← eg]; exact Int32.not_lt.mpr z)).2 _)⟩⟩⟩⟩⟩⟩
              rw [i1.m] at z
              exact absurd z (nI_ge hpm (by omega))
        exact xm_cut hm (loop (tM (sT σ)) 0 (by omega) _ _ rfl rfl _)
      · rw [z2] at z; exact absurd z (by decide)
def xt_X9_open : xT := xm_rl (Z := vS) (fun σ av g => av = [.ref 0] ∧ mTop σ g) (fun σ g o g' => o = some (.int (aOpen σ)) ∧ mTop σ g')
set_option maxRecDepth 100000 in
set_option maxHeartbeats 400000 in
theorem xp_X9_open {l : Launch} {D : va_G} {cA : Nat → ClassId} {B : List (Nat × Cell)} : xm_Met l D cA B xs_M 4 yX9_open cX9_open 3 (some .int) xt_X9_open := by
  have hm : xm_monos [xt_X9_copies, xt_X9_isJoined] := ⟨(by first | exact xm_fn_mono _ _ _ | exact xm_rl_mono _ _), (by first | exact xm_fn_mono _ _ _ | exact xm_rl_mono _ _), trivial⟩
  refine xm_meth (own := RX9) (ks := xk_X9_open) (C := xc_X9_open) (Ts := [xt_X9_copies, xt_X9_isJoined]) (by decide +kernel) rfl xm_clsok xs_M_ok xf_X9_ok xi_X9_ok xj_X9_ok (xm_lk xl_X9_320 xp_X9_copies (by decide) (xm_lk xl_X9_352 xp_X9_isJoined (by decide) xm_lk0)) xo_X9_open ?_ ?_
  · rintro av g Q ⟨z, ⟨rfl, -⟩, -⟩
    exact Nat.le_of_ble_eq_true rfl
  · rintro av g Q ⟨σ, ⟨rfl, ⟨lv, h⟩⟩, hQ⟩
    dsimp only at h hQ
    have m6 := h.m6
    have hl := h.lv
    unfold aOpen at hQ
    generalize hP : (fun k => ¬ vJ (sT σ) (sC σ) (cR (sC σ) k) (cR (sC σ) (k + 1))) = P at hQ
    have hP' : ∀ k, P k ↔ ¬ vJ (sT σ) (sC σ) (cR (sC σ) k) (cR (sC σ) (k + 1)) := fun k => by rw [← hP]
    refine xm_run_go hm 20 ⟨(lv, σ), ⟨rfl, h⟩, ?_⟩
    rintro o g1 ⟨rfl, i1, f1, -, -⟩
    have loop : ∀ d k, k + d = tM (sT σ) - 1 → ∀ v, v = vBits P k → xm_go xs_M xk_X9_open [xt_X9_copies, xt_X9_isJoined] xc_X9_open Q (xm_drop 6 xc_X9_open) [.ref 0, .int v, .int (nI k)] [] g1 := by
      intro d
      induction d with
      | zero =>
        intro k hk v hv
        have hk : k = tM (sT σ) - 1 := by omega
        subst hk
        refine xm_run_go hm 20 ⟨lv, ⟨hl, i1.l⟩, ⟨fun _ => hQ _ _ ⟨by rw [hv], lv, h.q f1⟩, fun z => ?_⟩⟩
        rw [i1.m, ← nI_succ] at z
        exact absurd z (nI_nlt (by omega) (by omega))
      | succ d ih =>
        intro k hk v hv
        have nx := ih (k + 1) (by omega)
        rw [nI_succ] at nx
        have k6 : k < 6 := by omega
        have jk : (0 ≤ nI k ∧ vJk (sT σ) (sC σ) (nI k).toNatClampNeg) ↔ vJ (sT σ) (sC σ) (cR (sC σ) k) (cR (sC σ) (k + 1)) := by
          rw [nI_clamp (by omega)]
          exact ⟨fun z => z.2.2, fun z => ⟨nI_pos' (by omega), by omega, z⟩⟩
        refine xm_run_go hm 40 ⟨lv, ⟨hl, i1.l⟩, ⟨fun z => ?_, fun _ => ⟨(nI k, lv, sT σ, sC σ), ⟨rfl, Or.inr ⟨k, k6, rfl⟩, i1⟩, ⟨fun z => xm_cut hm (nx _ ?_), fun z => xm_cut hm (nx _ ?_)⟩⟩⟩⟩
        · rw [i1.m, ← nI_succ] at z
          exact absurd z (nI_ge (by omega) (by omega))
        · rw [vBits_f (fun y => z (vB_f (fun x => (hP' k).mp y (jk.mp x)))), hv]
        · rw [vBits_t ((hP' k).mpr (fun y => by rw [vB_t (jk.mpr y)] at z; exact absurd z (by decide))), hv]
    exact xm_cut hm (loop (tM (sT σ) - 1) 0 (by omega) _ rfl)
