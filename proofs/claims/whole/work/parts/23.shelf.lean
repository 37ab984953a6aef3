-- a scene copied, begun, put by
/-- only a scene's own cells change, its story too -/
def xFrR (b : Nat) (g g' : xG) : Prop := (∀ k, (k < b ∨ b + 8 < k) → g'.1 k = g.1 k) ∧ g'.2.1 = g.2.1 ∧ ∀ k, k ≠ b → g'.2.2 k = g.2.2 k
theorem xFrR.rf {b : Nat} {g : xG} : xFrR b g g := ⟨fun _ _ => rfl, rfl, fun _ _ => rfl⟩
theorem xFrR.tr {b : Nat} {g g1 g2 : xG} (h : xFrR b g g1) (h2 : xFrR b g1 g2) : xFrR b g g2 := ⟨fun k q => (h2.1 k q).trans (h.1 k q), h2.2.1.trans h.2.1, fun k q => (h2.2.2 k q).trans (h.2.2 k q)⟩
theorem xFr.R {b lo hi : Nat} {g g' : xG} (h : xFr lo hi g g') (h1 : b ≤ lo) (h2 : hi ≤ b + 8) : xFrR b g g' := ⟨fun k q => h.2 k (by omega), by rw [h.1], fun k _ => by rw [h.1]⟩
theorem xg_sR1 (g : xG) (k j v : Nat) : (xm_sR g k j v).1 = g.1 := rfl
theorem xg_sR (g : xG) (k j v : Nat) : (xm_sR g k j v).2.2 k j = v := by simp [xm_sR, xm_u2N]
theorem xg_sRoff (g : xG) {k a : Nat} (j v : Nat) (h : a ≠ k) : (xm_sR g k j v).2.2 a = g.2.2 a := by funext i; simp [xm_sR, xm_u2N, h]
theorem xFrR.pR {b : Nat} {g g1 : xG} (h : xFrR b g g1) (j v : Nat) : xFrR b g (xm_sR g1 b j v) := ⟨fun k q => h.1 k q, h.2.1, fun k q => (xg_sRoff g1 j v q).trans (h.2.2 k q)⟩
theorem xFrR.p {b : Nat} {g g1 : xG} (h : xFrR b g g1) {k : Nat} (j : Nat) (v : Int32) (h1 : b ≤ k) (h2 : k ≤ b + 8) : xFrR b g (xm_sI g1 k j v) := ⟨fun a q => (xg_off g1 j v (by omega)).trans (h.1 a q), h.2.1, h.2.2⟩
theorem xFrR.pA {b : Nat} {g g1 : xG} (h : xFrR b g g1) {k : Nat} (f : Nat → Int32) (h1 : b ≤ k) (h2 : k ≤ b + 8) : xFrR b g (xm_sA g1 k f) := ⟨fun a q => (xg_aoff g1 f (by omega)).trans (h.1 a q), h.2.1, h.2.2⟩
theorem xg_a2 (g : xG) (k : Nat) (f : Nat → Int32) : (xm_sA g k f).2 = g.2 := rfl
def xt_X3_copyFrom : xT := xm_rl (Z := vSt × vSc) (fun (t, c) av g => av = [.ref 20, .ref 11] ∧ vCok t c ∧ xIn 11 t c g) (fun (t, c) g o g' => o = none ∧ xIn 20 t c g' ∧ xFrR 20 g g')
set_option maxRecDepth 100000 in
set_option maxHeartbeats 4000000 in
theorem xp_X3_copyFrom {l : Launch} {D : va_G} {cA : Nat → ClassId} {B : List (Nat × Cell)} : xm_Met l D cA B xs_X 3 yX3_copyFrom cX3_copyFrom 2 none xt_X3_copyFrom := by
  have hm : xm_monos [(fun _ _ _ => False), xt_X3_settle] := ⟨(fun _ _ _ _ _ h => h), (by first | exact xm_fn_mono _ _ _ | exact xm_rl_mono _ _), trivial⟩
  refine xm_meth (own := RX3) (ks := xk_X3_copyFrom) (C := xc_X3_copyFrom) (Ts := [(fun _ _ _ => False), xt_X3_settle]) (by decide +kernel) rfl xm_clsok xs_X_ok xf_X3_ok xi_X3_ok xj_X3_ok (xm_lkc xl_X3_71 (by decide) (xm_lk xl_X3_53 xp_X3_settle (by decide) xm_lk0)) xo_X3_copyFrom ?_ ?_
  · rintro av g Q ⟨z, ⟨rfl, -⟩, -⟩
    exact Nat.le_of_ble_eq_true rfl
  · rintro av g Q ⟨⟨t, c⟩, ⟨rfl, hc, h⟩, hQ⟩
    dsimp only at h hQ
    obtain ⟨r0, r1, r2, r3, r4⟩ := h.2.2.2.1
    have k0 : xFrR 20 g (xm_sA (xm_sA (xm_sI (xm_sI (xm_sR g 20 10 29) 20 2 (g.1 11 2)) 20 3 (g.1 11 3)) 21 (va_cpy (g.1 12) (g.1 21) 0 0 30)) 22 (va_cpy (g.1 13) (g.1 22) 0 0 6)) := ((((xFrR.rf.pR _ _).p _ _ (by omega) (by omega)).p _ _ (by omega) (by omega)).pA _ (by omega) (by omega)).pA _ (by omega) (by omega)
    have k1 : xRaw 20 c (xm_sA (xm_sA (xm_sI (xm_sI (xm_sR g 20 10 29) 20 2 (g.1 11 2)) 20 3 (g.1 11 3)) 21 (va_cpy (g.1 12) (g.1 21) 0 0 30)) 22 (va_cpy (g.1 13) (g.1 22) 0 0 6)) := by
      refine ⟨?_, fun i hi => ?_, fun k hk => ?_, ?_, ?_⟩
      · rw [xg_a2, xg_a2, xg_2, xg_2]; exact xg_sR g 20 10 29
      · rw [xg_aoff _ _ (by decide), xg_a, pk_cpy_in (by omega) (by omega)]
        rw [show 0 + (i - 0) = i by omega]; exact r1 i hi
      · rw [xg_a, pk_cpy_in (by omega) (by omega)]
        rw [show 0 + (k - 0) = k by omega]; exact r2 k hk
      · rw [xg_aoff _ _ (by decide), xg_aoff _ _ (by decide), xg_in, if_neg (by decide), xg_in, if_pos rfl]; exact r3
      · rw [xg_aoff _ _ (by decide), xg_aoff _ _ (by decide), xg_in, if_pos rfl]; exact r4
    have k2 := h.2.2.1.fr (g' := (xm_sA (xm_sA (xm_sI (xm_sI (xm_sR g 20 10 29) 20 2 (g.1 11 2)) 20 3 (g.1 11 3)) 21 (va_cpy (g.1 12) (g.1 21) 0 0 30)) 22 (va_cpy (g.1 13) (g.1 22) 0 0 6))) (fun k q1 q2 => k0.1 k (by omega))
    refine xm_run_go hm 60 ⟨r0, 0, 0, 30, ⟨rfl, rfl, rfl, by decide, by decide⟩, 0, 0, 6, ⟨rfl, rfl, rfl, by decide, by decide⟩, ⟨(20, t, c), ⟨rfl, Or.inr rfl, h.2.1, hc, k2, k1⟩, ?_⟩⟩
    rintro o g2 ⟨rfl, h3, h4⟩
    exact hQ _ _ ⟨rfl, ⟨Or.inr rfl, h.2.1, k2.fr (fun k h1 h2 => h4.2 k (by dsimp only; omega)), h3⟩, k0.tr (h4.R (by dsimp only; omega) (by dsimp only; omega))⟩
def xt_J7_fill_53178 : xT := xm_rl (Z := Int32) (fun v av _ => av = [.ref 12, .int v] ∧ True) (fun v g o g' => o = none ∧ xFr 12 12 g g' ∧ ∀ i, i < 30 → g'.1 12 i = v)
set_option maxRecDepth 100000 in
set_option maxHeartbeats 4000000 in
theorem xp_J7_fill_53178 {l : Launch} {D : va_G} {cA : Nat → ClassId} {B : List (Nat × Cell)} : xm_Met l D cA B xs_X 0 yJ7_fill_53178 cJ7_fill_53178 4 none xt_J7_fill_53178 := by
  have hm : xm_monos [] := xm_m0
  refine xm_meth (own := RJ7) (ks := xk_J7_fill_53178) (C := xc_J7_fill_53178) (Ts := []) (by decide +kernel) rfl xm_clsok xs_X_ok xf_J7_ok xi_J7_ok xj_J7_ok xm_lk0 xo_J7_fill_53178 ?_ ?_
  · rintro av g Q ⟨z, ⟨rfl, -⟩, -⟩
    exact Nat.le_of_ble_eq_true rfl
  · rintro av g Q ⟨v, ⟨rfl, -⟩, hQ⟩
    have loop : ∀ d k, k + d = 30 → ∀ g1, xFr 12 12 g g1 → (∀ i, i < k → g1.1 12 i = v) → xm_go xs_X xk_J7_fill_53178 [] xc_J7_fill_53178 Q (xm_drop 5 xc_J7_fill_53178) [.ref 12, .int v, .int (nI k), .int (nI 30)] [] g1 := by
      intro d
      induction d with
      | zero =>
        intro k hk g1 hf hi
        refine xm_run_go hm 20 ⟨fun _ => hQ _ _ ⟨rfl, hf, fun i h => hi i (by omega)⟩, fun q => ?_⟩
        exact absurd q (nI_nlt (by omega) (by omega))
      | succ d ih =>
        intro k hk g1 hf hi
        have nx := ih (k + 1) (by omega) (xm_sI g1 12 k v) (hf.put _ _ (by omega) (by omega)) (fun i h => by
          rw [xg_in]
          by_cases z : i = k
          · rw [if_pos z]
          · rw [if_neg z]; exact hi i (by omega))
        rw [nI_succ] at nx
        refine xm_run_go hm 20 ⟨fun q => ?_, fun _ => ⟨k, ⟨by omega, rfl⟩, xm_cut hm nx⟩⟩
        exact absurd q (nI_ge (by omega) (by omega))
    exact xm_run_go hm 10 (xm_cut hm (loop 30 0 (by omega) g xFr.rf (fun i h => by omega)))
def v0 : vSc := (fun _ => 0, fun k => k, fun k => k, 0, 0)
theorem v0_ok (t : vSt) : vCok t v0 := ⟨fun k hk => ⟨hk, rfl⟩, fun k hk => ⟨hk, rfl⟩, fun k hk => hk, fun _ _ => ⟨show (0 : Int32) ≤ 0 by decide, show (0 : Int32) ≤ 99 by decide⟩, fun _ _ _ _ _ => rfl⟩
noncomputable def vBegin (t : vSt) : List (Nat × Nat) → vSc → vSc
  | [], c => c
  | q :: r, c => vBegin t r (vThrow t c q.1 q.2)
def xShown (t : vSt) (sh : List (Nat × Nat)) (g : xG) : Prop := g.1 29 10 = nI sh.length ∧ sh.length ≤ 20 ∧ ∀ i q, sh[i]? = some q → q.1 < tM t ∧ q.2 < tN t ∧ g.1 34 i = nI q.1 ∧ g.1 35 i = nI q.2
def xt_X3_begin : xT := xm_rl (Z := vSt × List (Nat × Nat)) (fun (t, sh) av g => av = [.ref 11, .ref 29] ∧ vTok t ∧ xSto 29 t g ∧ xShown t sh g) (fun (t, sh) g o g' => o = none ∧ xIn 11 t (vBegin t sh v0) g' ∧ vCok t (vBegin t sh v0) ∧ xFrR 11 g g')
set_option maxRecDepth 100000 in
set_option maxHeartbeats 4000000 in
theorem xp_X3_begin {l : Launch} {D : va_G} {cA : Nat → ClassId} {B : List (Nat × Cell)} : xm_Met l D cA B xs_X 5 yX3_begin cX3_begin 3 none xt_X3_begin := by
  have hm : xm_monos [xt_J7_fill_53178, xt_X3_settle, xt_X3_throwUpon] := ⟨(by first | exact xm_fn_mono _ _ _ | exact xm_rl_mono _ _), (by first | exact xm_fn_mono _ _ _ | exact xm_rl_mono _ _), (by first | exact xm_fn_mono _ _ _ | exact xm_rl_mono _ _), trivial⟩
  refine xm_meth (own := RX3) (ks := xk_X3_begin) (C := xc_X3_begin) (Ts := [xt_J7_fill_53178, xt_X3_settle, xt_X3_throwUpon]) (by decide +kernel) rfl xm_clsok xs_X_ok xf_X3_ok xi_X3_ok xj_X3_ok (xm_lk xl_X3_47 xp_J7_fill_53178 (by decide) (xm_lk xl_X3_53 xp_X3_settle (by decide) (xm_lk xl_X3_67 xp_X3_throwUpon (by decide) xm_lk0))) xo_X3_begin ?_ ?_
  · rintro av g Q ⟨z, ⟨rfl, -⟩, -⟩
    exact Nat.le_of_ble_eq_true rfl
  · rintro av g Q ⟨⟨t, sh⟩, ⟨rfl, ht, hs, ⟨s1, s2, s3⟩⟩, hQ⟩
    dsimp only at hQ
    have hm6 := ht.2.1
    have loop2 : ∀ rest i c, i + rest.length = sh.length → (∀ j q, rest[j]? = some q → sh[i + j]? = some q) → vBegin t rest c = vBegin t sh v0 → vCok t c → ∀ g1, xFrR 11 g g1 → xIn 11 t c g1 → xm_go xs_X xk_X3_begin [xt_J7_fill_53178, xt_X3_settle, xt_X3_throwUpon] xc_X3_begin Q (xm_drop 29 xc_X3_begin) [.ref 11, .ref 29, .int (nI i)] [] g1 := by
      intro rest
      induction rest with
      | nil =>
        intro i c hi hq hv hc g1 hf h1
        simp only [List.length_nil] at hi
        have e : g1.1 29 10 = nI sh.length := by rw [hf.1 29 (by omega)]; exact s1
        refine xm_run_go hm 20 ⟨fun _ => hQ _ _ ⟨rfl, ?_, ?_, hf⟩, fun q => ?_⟩
        · rw [← hv]; exact h1
        · rw [← hv]; exact hc
        · rw [e] at q
          exact absurd q (nI_nlt (by omega) (by omega))
      | cons q0 rest ih =>
        intro i c hi hq hv hc g1 hf h1
        simp only [List.length_cons] at hi
        have e : g1.1 29 10 = nI sh.length := by rw [hf.1 29 (by omega)]; exact s1
        obtain ⟨a1, a2, a3, a4⟩ := s3 i q0 (by have := hq 0 q0 rfl; simpa using this)
        have e3 : g1.1 34 i = nI q0.1 := by rw [hf.1 34 (by omega)]; exact a3
        have e4 : g1.1 35 i = nI q0.2 := by rw [hf.1 35 (by omega)]; exact a4
        refine xm_run_go hm 30 ⟨fun q => ?_, fun _ => ⟨i, ⟨by omega, rfl⟩, i, ⟨by omega, rfl⟩, ⟨(11, q0.1, q0.2, t, c), ⟨?_, a1, a2, hc, h1⟩, ?_⟩⟩⟩
        · rw [e] at q
          exact absurd q (nI_ge (by omega) (by omega))
        · rw [e3, e4]
        · rintro o g2 ⟨rfl, h3, h4⟩
          have nx := ih (i + 1) (vThrow t c q0.1 q0.2) (by omega) (fun j q hj => by rw [show i + 1 + j = i + (j + 1) by omega]; exact hq (j + 1) q hj) hv (vThrow_ok ht hc a1 a2) g2 (hf.tr (h4.R (by omega) (by omega))) h3
          rw [nI_succ] at nx
          exact xm_cut hm nx
    have loop1 : ∀ d k, k + d = 6 → ∀ g1, xFrR 11 g g1 → g1.2.2 11 10 = 29 → g1.1 11 2 = 0 → g1.1 11 3 = 0 → (∀ i, i < 30 → g1.1 12 i = 0) → (∀ j, j < k → g1.1 13 j = nI j) → xm_go xs_X xk_X3_begin [xt_J7_fill_53178, xt_X3_settle, xt_X3_throwUpon] xc_X3_begin Q (xm_drop 15 xc_X3_begin) [.ref 11, .ref 29, .int (nI k)] [] g1 := by
      intro d
      induction d with
      | zero =>
        intro k hk g1 hf b0 b1 b2 b3 b4
        have k2 : xSto 29 t g1 := hs.fr (fun k q1 q2 => hf.1 k (by omega))
        have k1 : xRaw 11 v0 g1 := ⟨b0, b3, fun j hj => b4 j (by omega), b1, b2⟩
        refine xm_run_go hm 20 ⟨fun _ => ⟨(11, t, v0), ⟨rfl, Or.inl rfl, ht, v0_ok t, k2, k1⟩, ?_⟩, fun q => ?_⟩
        · rintro o g2 ⟨rfl, h3, h4⟩
          exact xm_cut hm (loop2 sh 0 v0 (by omega) (fun j q hj => by rw [Nat.zero_add]; exact hj) rfl (v0_ok t) g2 (hf.tr (h4.R (by dsimp only; omega) (by dsimp only; omega))) ⟨Or.inl rfl, ht, k2.fr (fun k h1 h2 => h4.2 k (by dsimp only; omega)), h3⟩)
        · exact absurd q (nI_nlt (b := 6) (by omega) (by omega))
      | succ d ih =>
        intro k hk g1 hf b0 b1 b2 b3 b4
        have nx := ih (k + 1) (by omega) (xm_sI g1 13 k (nI k)) (hf.p _ _ (by omega) (by omega)) b0 (by rw [xg_off _ _ _ (by decide)]; exact b1) (by rw [xg_off _ _ _ (by decide)]; exact b2) (fun i hi => by rw [xg_off _ _ _ (by decide)]; exact b3 i hi) (fun j hj => by
          rw [xg_in]
          by_cases z : j = k
          · rw [if_pos z, z]
          · rw [if_neg z]; exact b4 j (by omega))
        rw [nI_succ] at nx
        refine xm_run_go hm 20 ⟨fun q => ?_, fun _ => ⟨k, ⟨by omega, rfl⟩, xm_cut hm nx⟩⟩
        exact absurd q (nI_ge (b := 6) (by omega) (by omega))
    refine xm_run_go hm 30 ⟨0, ⟨rfl, trivial⟩, ?_⟩
    rintro o g2 ⟨rfl, h3, h4⟩
    have k0 : xFrR 11 g (xm_sI (xm_sI (xm_sR g 11 10 29) 11 2 0) 11 3 0) := ((xFrR.rf.pR _ _).p _ _ (by omega) (by omega)).p _ _ (by omega) (by omega)
    exact xm_cut hm (loop1 6 0 (by omega) g2 (k0.tr (h3.R (by omega) (by omega))) (by rw [h3.1]; exact xg_sR g 11 10 29) (by rw [h3.2 11 (by omega), xg_in, if_neg (by decide), xg_in, if_pos rfl]) (by rw [h3.2 11 (by omega), xg_in, if_pos rfl]) h4 (fun j hj => by omega))
-- the shelf
def xSlot (g : xG) (w : Nat) (c : vSc) : Prop := g.1 48 (38 * w) = cK c ∧ g.1 48 (38 * w + 1) = cP c ∧ (∀ k, k < 6 → g.1 48 (38 * w + 2 + k) = nI (cR c k)) ∧ ∀ i, i < 30 → g.1 48 (38 * w + 8 + i) = cG c i
theorem xSlot.fr {g g' : xG} {w : Nat} {c : vSc} (h : xSlot g w c) (e : ∀ i, 38 * w ≤ i → i < 38 * w + 38 → g'.1 48 i = g.1 48 i) : xSlot g' w c :=
  ⟨by rw [e _ (by omega) (by omega)]; exact h.1, by rw [e _ (by omega) (by omega)]; exact h.2.1, fun k hk => by rw [e _ (by omega) (by omega)]; exact h.2.2.1 k hk, fun i hi => by rw [e _ (by omega) (by omega)]; exact h.2.2.2 i hi⟩
theorem xn_38 (w : Nat) : nI w * 38 = nI (38 * w) := by rw [show (38 : Int32) = nI 38 from rfl, pk_mul, Nat.mul_comm]
def xt_X4_put : xT := xm_rl (Z := Nat × vSt × vSc) (fun (w, t, c) av g => av = [.ref 47, .int (nI w), .ref 11] ∧ w < 43 ∧ xIn 11 t c g) (fun (w, t, c) g o g' => o = none ∧ xFr 48 48 g g' ∧ xSlot g' w c ∧ ∀ i, (i < 38 * w ∨ 38 * w + 38 ≤ i) → g'.1 48 i = g.1 48 i)
set_option maxRecDepth 100000 in
set_option maxHeartbeats 4000000 in
theorem xp_X4_put {l : Launch} {D : va_G} {cA : Nat → ClassId} {B : List (Nat × Cell)} : xm_Met l D cA B xs_X 2 yX4_put cX4_put 4 none xt_X4_put := by
  have hm : xm_monos [(fun _ _ _ => False)] := ⟨(fun _ _ _ _ _ h => h), trivial⟩
  refine xm_meth (own := RX4) (ks := xk_X4_put) (C := xc_X4_put) (Ts := [(fun _ _ _ => False)]) (by decide +kernel) rfl xm_clsok xs_X_ok xf_X4_ok xi_X4_ok xj_X4_ok (xm_lkc xl_X4_43 (by decide) xm_lk0) xo_X4_put ?_ ?_
  · rintro av g Q ⟨z, ⟨rfl, -⟩, -⟩
    exact Nat.le_of_ble_eq_true rfl
  · rintro av g Q ⟨⟨w, t, c⟩, ⟨rfl, hw, h⟩, hQ⟩
    dsimp only at h hQ
    obtain ⟨r0, r1, r2, r3, r4⟩ := h.2.2.2.1
    have e0 := xn_38 w
    have e1 : nI w * 38 + 1 = nI (38 * w + 1) := by rw [e0, nI_1]
    have e2 : nI w * 38 + 2 = nI (38 * w + 2) := by rw [e0, show (2 : Int32) = nI 2 from rfl, nI_add]
    have e8 : nI w * 38 + 2 + 6 = nI (38 * w + 8) := by rw [e2, show (6 : Int32) = nI 6 from rfl, nI_add]
    refine xm_run_go hm 60 ⟨38 * w, ⟨by omega, e0⟩, 38 * w + 1, ⟨by omega, e1⟩, 0, 38 * w + 2, 6, ⟨rfl, e2, rfl, by decide, by omega⟩, 0, 38 * w + 8, 30, ⟨rfl, e8, rfl, by decide, by omega⟩, ?_⟩
    refine hQ _ _ ⟨rfl, ((((xFr.rf.put _ _ (by omega) (by omega)).put _ _ (by omega) (by omega)).putA _ (by omega) (by omega)).putA _ (by omega) (by omega)), ⟨?_, ?_, fun k hk => ?_, fun i hi => ?_⟩, fun i hi => ?_⟩
    · rw [xg_a, pk_cpy_out (by omega), xg_a, pk_cpy_out (by omega), xg_in, if_neg (by omega), xg_in, if_pos rfl]; exact r3
    · rw [xg_a, pk_cpy_out (by omega), xg_a, pk_cpy_out (by omega), xg_in, if_pos rfl, xg_off _ _ _ (by decide)]; exact r4
    · rw [xg_a, pk_cpy_out (by omega), xg_a, pk_cpy_in (by omega) (by omega), xg_off _ _ _ (by decide), xg_off _ _ _ (by decide), show 0 + (38 * w + 2 + k - (38 * w + 2)) = k by omega]; exact r2 k hk
    · rw [xg_a, pk_cpy_in (by omega) (by omega), xg_aoff _ _ (by decide), xg_off _ _ _ (by decide), xg_off _ _ _ (by decide), show 0 + (38 * w + 8 + i - (38 * w + 8)) = i by omega]; exact r1 i hi
    · rw [xg_a, pk_cpy_out (by omega), xg_a, pk_cpy_out (by omega), xg_in, if_neg (by omega), xg_in, if_neg (by omega)]
def xt_X4_get : xT := xm_rl (Z := Nat × vSt × vSc × vSc) (fun (w, t, c0, c) av g => av = [.ref 47, .int (nI w), .ref 11] ∧ w < 43 ∧ xIn 11 t c0 g ∧ xSlot g w c ∧ vCok t c) (fun (w, t, c0, c) g o g' => o = none ∧ xFr 11 19 g g' ∧ xIn 11 t c g')
set_option maxRecDepth 100000 in
set_option maxHeartbeats 4000000 in
theorem xp_X4_get {l : Launch} {D : va_G} {cA : Nat → ClassId} {B : List (Nat × Cell)} : xm_Met l D cA B xs_X 3 yX4_get cX4_get 4 none xt_X4_get := by
  have hm : xm_monos [(fun _ _ _ => False), xt_X3_settle] := ⟨(fun _ _ _ _ _ h => h), (by first | exact xm_fn_mono _ _ _ | exact xm_rl_mono _ _), trivial⟩
  refine xm_meth (own := RX4) (ks := xk_X4_get) (C := xc_X4_get) (Ts := [(fun _ _ _ => False), xt_X3_settle]) (by decide +kernel) rfl xm_clsok xs_X_ok xf_X4_ok xi_X4_ok xj_X4_ok (xm_lkc xl_X4_43 (by decide) (xm_lk xl_X4_52 xp_X3_settle (by decide) xm_lk0)) xo_X4_get ?_ ?_
  · rintro av g Q ⟨z, ⟨rfl, -⟩, -⟩
    exact Nat.le_of_ble_eq_true rfl
  · rintro av g Q ⟨⟨w, t, c0, c⟩, ⟨rfl, hw, h, hsl, hc⟩, hQ⟩
    dsimp only at h hQ
    obtain ⟨q1, q2, q3, q4⟩ := hsl
    have r0 := h.2.2.2.1.1
    have e0 := xn_38 w
    have e1 : nI w * 38 + 1 = nI (38 * w + 1) := by rw [e0, nI_1]
    have e2 : nI w * 38 + 2 = nI (38 * w + 2) := by rw [e0, show (2 : Int32) = nI 2 from rfl, nI_add]
    have e8 : nI w * 38 + 2 + 6 = nI (38 * w + 8) := by rw [e2, show (6 : Int32) = nI 6 from rfl, nI_add]
    have k0 : xFr 11 19 g (xm_sA (xm_sA (xm_sI (xm_sI g 11 2 (g.1 48 (38 * w))) 11 3 (g.1 48 (38 * w + 1))) 13 (va_cpy (g.1 48) (g.1 13) (38 * w + 2) 0 6)) 12 (va_cpy (g.1 48) (g.1 12) (38 * w + 8) 0 30)) := (((xFr.rf.put _ _ (by omega) (by omega)).put _ _ (by omega) (by omega)).putA _ (by omega) (by omega)).putA _ (by omega) (by omega)
    have k1 : xRaw 11 c (xm_sA (xm_sA (xm_sI (xm_sI g 11 2 (g.1 48 (38 * w))) 11 3 (g.1 48 (38 * w + 1))) 13 (va_cpy (g.1 48) (g.1 13) (38 * w + 2) 0 6)) 12 (va_cpy (g.1 48) (g.1 12) (38 * w + 8) 0 30)) := by
      refine ⟨r0, fun i hi => ?_, fun k hk => ?_, ?_, ?_⟩
      · rw [xg_a, pk_cpy_in (by omega) (by omega), show 38 * w + 8 + (i - 0) = 38 * w + 8 + i by omega]; exact q4 i hi
      · rw [xg_aoff _ _ (by decide), xg_a, pk_cpy_in (by omega) (by omega), show 38 * w + 2 + (k - 0) = 38 * w + 2 + k by omega]; exact q3 k hk
      · rw [xg_aoff _ _ (by decide), xg_aoff _ _ (by decide), xg_in, if_neg (by decide), xg_in, if_pos rfl]; exact q1
      · rw [xg_aoff _ _ (by decide), xg_aoff _ _ (by decide), xg_in, if_pos rfl]; exact q2
    have k2 := h.2.2.1.fr (g' := (xm_sA (xm_sA (xm_sI (xm_sI g 11 2 (g.1 48 (38 * w))) 11 3 (g.1 48 (38 * w + 1))) 13 (va_cpy (g.1 48) (g.1 13) (38 * w + 2) 0 6)) 12 (va_cpy (g.1 48) (g.1 12) (38 * w + 8) 0 30))) (fun k q1 q2 => k0.2 k (by omega))
    refine xm_run_go hm 60 ⟨38 * w, ⟨by omega, e0⟩, 38 * w + 1, ⟨by omega, e1⟩, 38 * w + 2, 0, 6, ⟨e2, rfl, rfl, by omega, by decide⟩, 38 * w + 8, 0, 30, ⟨e8, rfl, rfl, by omega, by decide⟩, ⟨(11, t, c), ⟨rfl, Or.inl rfl, h.2.1, hc, k2, k1⟩, ?_⟩⟩
    rintro o g2 ⟨rfl, h3, h4⟩
    exact hQ _ _ ⟨rfl, k0.tr (h4.up (by dsimp only; omega) (by dsimp only; omega)), ⟨Or.inl rfl, h.2.1, k2.fr (fun k h1 h2 => h4.2 k (by dsimp only; omega)), h3⟩⟩
