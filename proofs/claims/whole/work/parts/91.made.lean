-- WHILE THE CLASS IS MADE: a story alone, a scene and its story
def xs_S : List xC := [.inr (5, [(1, 1), (1, 2), (1, 3), (1, 4), (1, 5), (1, 6), (1, 7), (1, 8), (0, 0), (0, 0), (0, 0), (0, 0), (0, 0)]), .inl (0, 5), .inl (0, 5), .inl (0, 5), .inl (0, 6), .inl (0, 20), .inl (0, 20), .inl (0, 408), .inl (0, 4)]
theorem xs_S_ok : xm_sok xs_S = true := by decide +kernel
def xs_T : List xC := [.inr (3, [(1, 1), (1, 2), (0, 0), (0, 0), (1, 3), (1, 4), (1, 5), (1, 6), (1, 7), (1, 8), (3, 9)]), .inl (0, 30), .inl (0, 6), .inl (0, 6), .inl (0, 6), .inl (0, 6), .inl (0, 6), .inl (0, 30), .inl (0, 32), .inr (5, [(1, 10), (1, 11), (1, 12), (1, 13), (1, 14), (1, 15), (1, 16), (1, 17), (0, 0), (0, 0), (0, 0), (0, 0), (0, 0)]), .inl (0, 5), .inl (0, 5), .inl (0, 5), .inl (0, 6), .inl (0, 20), .inl (0, 20), .inl (0, 408), .inl (0, 4)]
theorem xs_T_ok : xm_sok xs_T = true := by decide +kernel
def xt_X5_emitS : xT := xm_fn (Z := Int32 × Nat) (fun (v, z) av g => av = [.ref 0, .int v] ∧ z < 408 ∧ g.1 0 12 = nI z) (fun _ _ => none) (fun (v, z) g => uEm 0 v z g)
set_option maxRecDepth 100000 in
set_option maxHeartbeats 400000 in
theorem xp_X5_emitS {l : Launch} {D : va_G} {cA : Nat → ClassId} {B : List (Nat × Cell)} : xm_Met l D cA B xs_S 0 yX5_emit cX5_emit 2 none xt_X5_emitS := by
  have hm : xm_monos [] := xm_m0
  refine xm_meth (own := RX5) (ks := xk_X5_emit) (C := xc_X5_emit) (Ts := []) (by decide +kernel) rfl xm_clsok xs_S_ok xf_X5_ok xi_X5_ok xj_X5_ok xm_lk0 xo_X5_emit ?_ ?_
  · rintro av g Q ⟨z, ⟨rfl, -⟩, -⟩
    exact Nat.le_of_ble_eq_true rfl
  · rintro av g Q ⟨⟨v, z⟩, ⟨rfl, z4, h⟩, hQ⟩
    dsimp only at z4 h hQ
    unfold uEm at hQ
    have e : (xm_sI g 7 z v).1 0 12 = nI z := by rw [xg_off _ _ _ (by decide)]; exact h
    rw [← nI_1, ← e] at hQ
    refine xm_run_go hm 30 ⟨fun y => ?_, fun _ => ⟨z, ⟨z4, h⟩, hQ⟩⟩
    rw [h] at y; exact absurd y (nI_ge (b := 408) z4 (by decide))
def xt_X5_beginLawS : xT := xm_fn (Z := Nat × Nat) (fun (l, z) av g => av = [.ref 0, .int (nI l)] ∧ l < 4 ∧ g.1 0 12 = nI z) (fun _ _ => none) (fun (l, z) g => xm_sI g 8 l (nI z))
set_option maxRecDepth 100000 in
set_option maxHeartbeats 400000 in
theorem xp_X5_beginLawS {l : Launch} {D : va_G} {cA : Nat → ClassId} {B : List (Nat × Cell)} : xm_Met l D cA B xs_S 0 yX5_beginLaw cX5_beginLaw 2 none xt_X5_beginLawS := by
  have hm : xm_monos [] := xm_m0
  refine xm_meth (own := RX5) (ks := xk_X5_beginLaw) (C := xc_X5_beginLaw) (Ts := []) (by decide +kernel) rfl xm_clsok xs_S_ok xf_X5_ok xi_X5_ok xj_X5_ok xm_lk0 xo_X5_beginLaw ?_ ?_
  · rintro av g Q ⟨z, ⟨rfl, -⟩, -⟩
    exact Nat.le_of_ble_eq_true rfl
  · rintro av g Q ⟨⟨l, z⟩, ⟨rfl, hl, h⟩, hQ⟩
    dsimp only at hl h hQ
    rw [← h] at hQ
    exact xm_run_go hm 20 ⟨fun w => absurd w (nI_pos (by omega)), fun _ => ⟨fun w => absurd w (nI_ge (b := 4) hl (by decide)), fun _ => ⟨l, ⟨hl, rfl⟩, hQ⟩⟩⟩
def xt_X5_addPlainLawS : xT := xm_fn (Z := Nat × Int32 × Nat) (fun (l, v, k) av g => av = [.ref 0, .int (nI l), .int v] ∧ l < 4 ∧ k ≤ 400 ∧ g.1 0 12 = nI k) (fun _ _ => none) (fun (l, v, k) g => uPl 0 l v k g)
set_option maxRecDepth 100000 in
set_option maxHeartbeats 400000 in
theorem xp_X5_addPlainLawS {l : Launch} {D : va_G} {cA : Nat → ClassId} {B : List (Nat × Cell)} : xm_Met l D cA B xs_S 1 yX5_addPlainLaw cX5_addPlainLaw 3 none xt_X5_addPlainLawS := by
  have hm : xm_monos [xt_X5_beginLawS, xt_X5_emitS] := ⟨(by first | exact xm_fn_mono _ _ _ | exact xm_rl_mono _ _), (by first | exact xm_fn_mono _ _ _ | exact xm_rl_mono _ _), trivial⟩
  refine xm_meth (own := RX5) (ks := xk_X5_addPlainLaw) (C := xc_X5_addPlainLaw) (Ts := [xt_X5_beginLawS, xt_X5_emitS]) (by decide +kernel) rfl xm_clsok xs_S_ok xf_X5_ok xi_X5_ok xj_X5_ok (xm_lk xl_X5_58 xp_X5_beginLawS (by decide) (xm_lk xl_X5_62 xp_X5_emitS (by decide) xm_lk0)) xo_X5_addPlainLaw ?_ ?_
  · rintro av g Q ⟨z, ⟨rfl, -⟩, -⟩
    exact Nat.le_of_ble_eq_true rfl
  · rintro av g Q ⟨⟨l, v, k⟩, ⟨rfl, hl, hk, h⟩, hQ⟩
    dsimp only at hl hk h hQ
    unfold uPl at hQ
    have e1 : (xm_sI g 8 l (nI k)).1 0 12 = nI k := by rw [xg_off _ _ _ (by decide)]; exact h
    have e2 : (uEm 0 v k (xm_sI g 8 l (nI k))).1 0 12 = nI (k + 1) := by unfold uEm; rw [xg_in, if_pos rfl]
    have k8 : k < 408 := by omega
    have k9 : k + 1 < 408 := by omega
    exact xm_run_go hm 20 ⟨(l, k), ⟨rfl, hl, h⟩, (v, k), ⟨rfl, k8, e1⟩, (-15, k + 1), ⟨rfl, k9, e2⟩, hQ⟩
def xt_X5_clearS : xT := xm_fn (Z := Unit) (fun _ av _ => av = [.ref 0] ∧ True) (fun _ _ => none) (fun _ g => uClr 0 g)
set_option maxRecDepth 100000 in
set_option maxHeartbeats 400000 in
theorem xp_X5_clearS {l : Launch} {D : va_G} {cA : Nat → ClassId} {B : List (Nat × Cell)} : xm_Met l D cA B xs_S 2 yX5_clear cX5_clear 1 none xt_X5_clearS := by
  have hm : xm_monos [xt_X5_addPlainLawS] := ⟨(by first | exact xm_fn_mono _ _ _ | exact xm_rl_mono _ _), trivial⟩
  refine xm_meth (own := RX5) (ks := xk_X5_clear) (C := xc_X5_clear) (Ts := [xt_X5_addPlainLawS]) (by decide +kernel) rfl xm_clsok xs_S_ok xf_X5_ok xi_X5_ok xj_X5_ok (xm_lk xl_X5_54 xp_X5_addPlainLawS (by decide) xm_lk0) xo_X5_clear ?_ ?_
  · rintro av g Q ⟨z, ⟨rfl, -⟩, -⟩
    exact Nat.le_of_ble_eq_true rfl
  · rintro av g Q ⟨_, ⟨rfl, -⟩, hQ⟩
    dsimp only at hQ
    exact xm_run_go hm 60 ⟨(0, -3, 0), ⟨rfl, by decide, by decide, rfl⟩, (1, 1, 2), ⟨rfl, by decide, by decide, rfl⟩, (2, -1, 4), ⟨rfl, by decide, by decide, rfl⟩, (3, 0, 6), ⟨rfl, by decide, by decide, rfl⟩, hQ⟩
def xt_J7_fill_53178T : xT := xm_rl (Z := Int32) (fun v av _ => av = [.ref 1, .int v] ∧ True) (fun v g o g' => o = none ∧ xFr 1 1 g g' ∧ ∀ i, i < 30 → g'.1 1 i = v)
set_option maxRecDepth 100000 in
set_option maxHeartbeats 400000 in
theorem xp_J7_fill_53178T {l : Launch} {D : va_G} {cA : Nat → ClassId} {B : List (Nat × Cell)} : xm_Met l D cA B xs_T 0 yJ7_fill_53178 cJ7_fill_53178 4 none xt_J7_fill_53178T := by
  have hm : xm_monos [] := xm_m0
  refine xm_meth (own := RJ7) (ks := xk_J7_fill_53178) (C := xc_J7_fill_53178) (Ts := []) (by decide +kernel) rfl xm_clsok xs_T_ok xf_J7_ok xi_J7_ok xj_J7_ok xm_lk0 xo_J7_fill_53178 ?_ ?_
  · rintro av g Q ⟨z, ⟨rfl, -⟩, -⟩
    exact Nat.le_of_ble_eq_true rfl
  · rintro av g Q ⟨v, ⟨rfl, -⟩, hQ⟩
    have loop : ∀ d k, k + d = 30 → ∀ g1, xFr 1 1 g g1 → (∀ i, i < k → g1.1 1 i = v) → xm_go xs_T xk_J7_fill_53178 [] xc_J7_fill_53178 Q (xm_drop 5 xc_J7_fill_53178) [.ref 1, .int v, .int (nI k), .int (nI 30)] [] g1 := by
      intro d
      induction d with
      | zero =>
        intro k hk g1 hf hi
        refine xm_run_go hm 20 ⟨fun _ => hQ _ _ ⟨rfl, hf, fun i h => hi i (by omega)⟩, fun q => ?_⟩
        exact absurd q (nI_nlt (by omega) (by omega))
      | succ d ih =>
        intro k hk g1 hf hi
        have nx := ih (k + 1) (by omega) (xm_sI g1 1 k v) (hf.put _ _ (by omega) (by omega)) (fun i h => by
          rw [xg_in]
          by_cases z : i = k
          · rw [if_pos z]
          · rw [if_neg z]; exact hi i (by omega))
        rw [nI_succ] at nx
        refine xm_run_go hm 20 ⟨fun q => ?_, fun _ => ⟨k, ⟨by omega, rfl⟩, xm_cut hm nx⟩⟩
        exact absurd q (nI_ge (by omega) (by omega))
    exact xm_run_go hm 10 (xm_cut hm (loop 30 0 (by omega) g xFr.rf (fun i h => by omega)))
def xt_X3_settlePictureFA : xT := fun _ _ _ => False
theorem xn_X3_settlePictureFA : xm_mono xt_X3_settlePictureFA := fun _ _ _ _ _ h => h
theorem xp_X3_settlePictureFA {l : Launch} {D : va_G} {cA : Nat → ClassId} {B : List (Nat × Cell)} : xm_Met l D cA B xs_T 0 yX3_settlePicture cX3_settlePicture 7 none xt_X3_settlePictureFA := fun _ _ _ _ _ h => h.elim
def xt_X3_meetFA : xT := fun _ _ _ => False
theorem xn_X3_meetFA : xm_mono xt_X3_meetFA := fun _ _ _ _ _ h => h
theorem xp_X3_meetFA {l : Launch} {D : va_G} {cA : Nat → ClassId} {B : List (Nat × Cell)} : xm_Met l D cA B xs_T 0 yX3_meet cX3_meet 5 (some .boolean) xt_X3_meetFA := fun _ _ _ _ _ h => h.elim
def xt_X3_throwUponFA : xT := fun _ _ _ => False
theorem xn_X3_throwUponFA : xm_mono xt_X3_throwUponFA := fun _ _ _ _ _ h => h
theorem xp_X3_throwUponFA {l : Launch} {D : va_G} {cA : Nat → ClassId} {B : List (Nat × Cell)} : xm_Met l D cA B xs_T 0 yX3_throwUpon cX3_throwUpon 4 none xt_X3_throwUponFA := fun _ _ _ _ _ h => h.elim
def xt_X3_settleT : xT := xm_fn (Z := Unit) (fun _ av g => av = [.ref 0] ∧ g.2.2 0 10 = 9 ∧ g.1 9 9 = 0) (fun _ _ => none) (fun _ g => g)
set_option maxRecDepth 100000 in
set_option maxHeartbeats 400000 in
theorem xp_X3_settleT {l : Launch} {D : va_G} {cA : Nat → ClassId} {B : List (Nat × Cell)} : xm_Met l D cA B xs_T 1 yX3_settle cX3_settle 4 none xt_X3_settleT := by
  have hm : xm_monos [xt_X3_settlePictureFA, xt_X3_meetFA] := ⟨xn_X3_settlePictureFA, xn_X3_meetFA, trivial⟩
  refine xm_meth (own := RX3) (ks := xk_X3_settle) (C := xc_X3_settle) (Ts := [xt_X3_settlePictureFA, xt_X3_meetFA]) (by decide +kernel) rfl xm_clsok xs_T_ok xf_X3_ok xi_X3_ok xj_X3_ok (xm_lk xl_X3_80 xp_X3_settlePictureFA (by decide) (xm_lk xl_X3_84 xp_X3_meetFA (by decide) xm_lk0)) xo_X3_settle ?_ ?_
  · rintro av g Q ⟨z, ⟨rfl, -⟩, -⟩
    exact Nat.le_of_ble_eq_true rfl
  · rintro av g Q ⟨_, ⟨rfl, h1, h2⟩, hQ⟩
    dsimp only at hQ
    have h0 : g.1 9 9 ≤ 0 := by rw [h2]; decide
    have h3 : g.1 9 9 ≤ 0 + 1 := by rw [h2]; decide
    have g0 : ¬ (0 : Int32) < g.1 9 9 := by rw [h2]; decide
    have g3 : ¬ (0 + 1 : Int32) < g.1 9 9 := by rw [h2]; decide
    have end27 : ∀ w2 w3, xm_go xs_T xk_X3_settle [xt_X3_settlePictureFA, xt_X3_meetFA] xc_X3_settle Q (xm_drop 27 xc_X3_settle) [.ref 0, .int 0, w2, w3] [] g := fun w2 w3 => xm_run_go hm 20 ⟨h1, ⟨fun _ => hQ, fun z => absurd z g3⟩⟩
    have at2 : ∀ w2 w3, xm_go xs_T xk_X3_settle [xt_X3_settlePictureFA, xt_X3_meetFA] xc_X3_settle Q (xm_drop 2 xc_X3_settle) [.ref 0, .int 0, w2, w3] [] g := fun w2 w3 => xm_run_go hm 20 ⟨h1, ⟨fun _ => xm_cut hm (end27 w2 w3), fun z => absurd z g0⟩⟩
    exact xm_run_go hm 10 (xm_cut hm (at2 _ _))
def xt_X3_beginT : xT := xm_rl (Z := Unit) (fun _ av g => av = [.ref 0, .ref 9] ∧ g.1 9 9 = 0 ∧ g.1 9 10 = 0) (fun _ g o g' => o = none ∧ g'.2.2 0 10 = 9 ∧ g'.1 0 2 = 0 ∧ g'.1 0 3 = 0 ∧ (∀ i, i < 30 → g'.1 1 i = 0) ∧ (∀ j, j < 6 → g'.1 2 j = nI j) ∧ ∀ k, 3 ≤ k → g'.1 k = g.1 k)
set_option maxRecDepth 100000 in
set_option maxHeartbeats 400000 in
theorem xp_X3_beginT {l : Launch} {D : va_G} {cA : Nat → ClassId} {B : List (Nat × Cell)} : xm_Met l D cA B xs_T 2 yX3_begin cX3_begin 3 none xt_X3_beginT := by
  have hm : xm_monos [xt_J7_fill_53178T, xt_X3_settleT, xt_X3_throwUponFA] := ⟨(by first | exact xm_fn_mono _ _ _ | exact xm_rl_mono _ _), (by first | exact xm_fn_mono _ _ _ | exact xm_rl_mono _ _), xn_X3_throwUponFA, trivial⟩
  refine xm_meth (own := RX3) (ks := xk_X3_begin) (C := xc_X3_begin) (Ts := [xt_J7_fill_53178T, xt_X3_settleT, xt_X3_throwUponFA]) (by decide +kernel) rfl xm_clsok xs_T_ok xf_X3_ok xi_X3_ok xj_X3_ok (xm_lk xl_X3_47 xp_J7_fill_53178T (by decide) (xm_lk xl_X3_53 xp_X3_settleT (by decide) (xm_lk xl_X3_67 xp_X3_throwUponFA (by decide) xm_lk0))) xo_X3_begin ?_ ?_
  · rintro av g Q ⟨z, ⟨rfl, -⟩, -⟩
    exact Nat.le_of_ble_eq_true rfl
  · rintro av g Q ⟨_, ⟨rfl, h1, h2⟩, hQ⟩
    dsimp only at h1 h2 hQ
    have loop1 : ∀ d k, k + d = 6 → ∀ g1, (∀ c, 3 ≤ c → g1.1 c = g.1 c) → g1.2.2 0 10 = 9 → g1.1 0 2 = 0 → g1.1 0 3 = 0 → (∀ i, i < 30 → g1.1 1 i = 0) → (∀ j, j < k → g1.1 2 j = nI j) → xm_go xs_T xk_X3_begin [xt_J7_fill_53178T, xt_X3_settleT, xt_X3_throwUponFA] xc_X3_begin Q (xm_drop 15 xc_X3_begin) [.ref 0, .ref 9, .int (nI k)] [] g1 := by
      intro d
      induction d with
      | zero =>
        intro k hk g1 hf b0 b1 b2 b3 b4
        have e9 : g1.1 9 9 = 0 := by rw [hf 9 (by decide)]; exact h1
        have e10 : g1.1 9 10 ≤ 0 := by rw [hf 9 (by decide), h2]; decide
        have g10 : ¬ (0 : Int32) < g1.1 9 10 := by rw [hf 9 (by decide), h2]; decide
        have end29 : xm_go xs_T xk_X3_begin [xt_J7_fill_53178T, xt_X3_settleT, xt_X3_throwUponFA] xc_X3_begin Q (xm_drop 29 xc_X3_begin) [.ref 0, .ref 9, .int 0] [] g1 := xm_run_go hm 20 ⟨fun _ => hQ _ _ ⟨rfl, b0, b1, b2, b3, fun j hj => b4 j (by omega), hf⟩, fun z => absurd z g10⟩
        refine xm_run_go hm 20 ⟨fun _ => ⟨(), ⟨rfl, b0, e9⟩, xm_cut hm end29⟩, fun q => ?_⟩
        exact absurd q (nI_nlt (b := 6) (by omega) (by omega))
      | succ d ih =>
        intro k hk g1 hf b0 b1 b2 b3 b4
        have nx := ih (k + 1) (by omega) (xm_sI g1 2 k (nI k)) (fun c hc => by rw [xg_off _ _ _ (by omega)]; exact hf c hc) b0 (by rw [xg_off _ _ _ (by decide)]; exact b1) (by rw [xg_off _ _ _ (by decide)]; exact b2) (fun i hi => by rw [xg_off _ _ _ (by decide)]; exact b3 i hi) (fun j hj => by
          rw [xg_in]
          by_cases z : j = k
          · rw [if_pos z, z]
          · rw [if_neg z]; exact b4 j (by omega))
        rw [nI_succ] at nx
        refine xm_run_go hm 20 ⟨fun q => ?_, fun _ => ⟨k, ⟨by omega, rfl⟩, xm_cut hm nx⟩⟩
        exact absurd q (nI_ge (b := 6) (by omega) (by omega))
    refine xm_run_go hm 30 ⟨0, ⟨rfl, trivial⟩, ?_⟩
    rintro o g2 ⟨rfl, h3, h4⟩
    exact xm_cut hm (loop1 6 0 (by omega) g2 (fun c hc => by rw [h3.2 c (by omega), xg_off _ _ _ (by omega), xg_off _ _ _ (by omega)]; rfl) (by rw [h3.1]; exact xg_sR g 0 10 9) (by rw [h3.2 0 (by omega), xg_in, if_neg (by decide), xg_in, if_pos rfl]) (by rw [h3.2 0 (by omega), xg_in, if_pos rfl]) h4 (fun j hj => by omega))
-- the reference's words
def nOk (v : Nat) : Prop := v = 0 ∨ (97 ≤ v ∧ v ≤ 122)
def nLt (a b c d e f h : Nat) : Int64 := nAp (nAp (nAp (nAp (nAp (nAp (nAp ((0 : Int32).toInt64) a) b) c) d) e) f) h
def xt_X9_letters : xT := xm_fn (Z := Nat × Nat × Nat × Nat × Nat × Nat × Nat) (fun (a, b, c, d, e, f, h) av _ => av = [.int (nI a), .int (nI b), .int (nI c), .int (nI d), .int (nI e), .int (nI f), .int (nI h)] ∧ nOk a ∧ nOk b ∧ nOk c ∧ nOk d ∧ nOk e ∧ nOk f ∧ nOk h) (fun (a, b, c, d, e, f, h) _ => some (.long (nLt a b c d e f h))) (fun _ g => g)
set_option maxRecDepth 100000 in
set_option maxHeartbeats 400000 in
theorem xp_X9_letters {l : Launch} {D : va_G} {cA : Nat → ClassId} {B : List (Nat × Cell)} : xm_Met l D cA B xs_M 1 yX9_letters cX9_letters 7 (some .long) xt_X9_letters := by
  have hm : xm_monos [xt_X9_appends] := ⟨(by first | exact xm_fn_mono _ _ _ | exact xm_rl_mono _ _), trivial⟩
  refine xm_meth (own := RX9) (ks := xk_X9_letters) (C := xc_X9_letters) (Ts := [xt_X9_appends]) (by decide +kernel) rfl xm_clsok xs_M_ok xf_X9_ok xi_X9_ok xj_X9_ok (xm_lk xl_X9_174 xp_X9_appends (by decide) xm_lk0) xo_X9_letters ?_ ?_
  · rintro av g Q ⟨z, ⟨rfl, -⟩, -⟩
    exact Nat.le_of_ble_eq_true rfl
  · rintro av g Q ⟨⟨a, b, c, d, e, f, h⟩, ⟨rfl, ha, hb, hc, hd, he, hf, hh⟩, hQ⟩
    dsimp only at ha hb hc hd he hf hh hQ
    unfold nLt at hQ
    exact xm_run_go hm 20 ⟨(_, a), ⟨rfl, ha⟩, (_, b), ⟨rfl, hb⟩, (_, c), ⟨rfl, hc⟩, (_, d), ⟨rfl, hd⟩, (_, e), ⟨rfl, he⟩, (_, f), ⟨rfl, hf⟩, (_, h), ⟨rfl, hh⟩, hQ⟩
