-- JDK: max, min
def xt_J9_max_7cf53 : xT := xm_fn (Z := Int32 × Int32) (fun z av _ => av = [.int z.1, .int z.2] ∧ True) (fun z _ => some (.int (vMax z.1 z.2))) (fun _ g => g)
set_option maxRecDepth 100000 in
set_option maxHeartbeats 4000000 in
theorem xp_J9_max_7cf53 {l : Launch} {D : va_G} {cA : Nat → ClassId} {B : List (Nat × Cell)} : xm_Met l D cA B xs_X 0 yJ9_max_7cf53 cJ9_max_7cf53 2 (some .int) xt_J9_max_7cf53 := by
  have hm : xm_monos [] := xm_m0
  refine xm_meth (own := RJ9) (ks := xk_J9_max_7cf53) (C := xc_J9_max_7cf53) (Ts := []) (by decide +kernel) rfl xm_clsok xs_X_ok xf_J9_ok xi_J9_ok xj_J9_ok xm_lk0 xo_J9_max_7cf53 ?_ ?_
  · rintro av g Q ⟨z, ⟨rfl, -⟩, -⟩
    exact Nat.le_of_ble_eq_true rfl
  · rintro av g Q ⟨⟨x, y⟩, ⟨rfl, -⟩, hQ⟩
    refine xm_run_go hm 10 ⟨fun h => ?_, fun h => ?_⟩
    · simp only [vMax, if_pos h] at hQ
      exact hQ
    · simp only [vMax, if_neg (Int32.not_lt.mpr h)] at hQ
      exact hQ
def xt_J9_min_7cf53 : xT := xm_fn (Z := Int32 × Int32) (fun z av _ => av = [.int z.1, .int z.2] ∧ True) (fun z _ => some (.int (vMin z.1 z.2))) (fun _ g => g)
set_option maxRecDepth 100000 in
set_option maxHeartbeats 4000000 in
theorem xp_J9_min_7cf53 {l : Launch} {D : va_G} {cA : Nat → ClassId} {B : List (Nat × Cell)} : xm_Met l D cA B xs_X 0 yJ9_min_7cf53 cJ9_min_7cf53 2 (some .int) xt_J9_min_7cf53 := by
  have hm : xm_monos [] := xm_m0
  refine xm_meth (own := RJ9) (ks := xk_J9_min_7cf53) (C := xc_J9_min_7cf53) (Ts := []) (by decide +kernel) rfl xm_clsok xs_X_ok xf_J9_ok xi_J9_ok xj_J9_ok xm_lk0 xo_J9_min_7cf53 ?_ ?_
  · rintro av g Q ⟨z, ⟨rfl, -⟩, -⟩
    exact Nat.le_of_ble_eq_true rfl
  · rintro av g Q ⟨⟨x, y⟩, ⟨rfl, -⟩, hQ⟩
    refine xm_run_go hm 10 ⟨fun h => ?_, fun h => ?_⟩
    · simp only [vMin, if_pos h] at hQ
      exact hQ
    · simp only [vMin, if_neg (Int32.not_lt.mpr h)] at hQ
      exact hQ
def xt_X3_cell : xT := xm_fn (Z := Int32 × Int32) (fun z av _ => av = [.int z.1, .int z.2] ∧ True) (fun z _ => some (.int (z.1 * 5 + z.2))) (fun _ g => g)
set_option maxRecDepth 100000 in
set_option maxHeartbeats 4000000 in
theorem xp_X3_cell {l : Launch} {D : va_G} {cA : Nat → ClassId} {B : List (Nat × Cell)} : xm_Met l D cA B xs_X 0 yX3_cell cX3_cell 2 (some .int) xt_X3_cell := by
  have hm : xm_monos [] := xm_m0
  refine xm_meth (own := RX3) (ks := xk_X3_cell) (C := xc_X3_cell) (Ts := []) (by decide +kernel) rfl xm_clsok xs_X_ok xf_X3_ok xi_X3_ok xj_X3_ok xm_lk0 xo_X3_cell ?_ ?_
  · rintro av g Q ⟨z, ⟨rfl, -⟩, -⟩
    exact Nat.le_of_ble_eq_true rfl
  · rintro av g Q ⟨⟨p, s⟩, ⟨rfl, -⟩, hQ⟩
    exact xm_run_go hm 10 hQ
theorem xn_cell (p s : Nat) : nI p * 5 + nI s = nI (p * 5 + s) := by
  rw [show (5 : Int32) = nI 5 from rfl, pk_mul, nI_add]
-- the story and the scene in the cells
/-- the law's code, read as it is run -/
def xEv (code : Nat → Int32) (size : Nat) (vars : Nat → Int32) : Nat → Int32 → List Int32 → Int32
  | 0, _, _ => 0
  | f + 1, a, stk => if 0 ≤ a ∧ a < nI size then
      (if -11 < code a.toNatClampNeg then (if 32 ≤ stk.length then 0 else xEv code size vars f (a + 1) ((if 0 ≤ code a.toNatClampNeg then code a.toNatClampNeg else vars (-1 - code a.toNatClampNeg).toNatClampNeg) :: stk))
       else if code a.toNatClampNeg = -15 then (match stk with | x :: _ => x | [] => 0)
       else match stk with
        | y :: x :: r => if a + 1 < nI size then
            (if code a.toNatClampNeg = -16 then xEv code size vars f (if x < y then a + 1 + 1 else code (a + 1).toNatClampNeg) r
             else if code a.toNatClampNeg = -14 ∧ y = 0 then 0
             else xEv code size vars f (a + 1) ((if code a.toNatClampNeg = -13 then x * y else if code a.toNatClampNeg = -12 then x - y else if code a.toNatClampNeg = -11 then x + y else if y = 0 then 0 else x / y) :: r)) else 0
        | _ => 0)
    else 0
def xSto (z : Nat) (t : vSt) (g : xG) : Prop := g.1 z 8 = nI (tN t) ∧ g.1 z 9 = nI (tM t) ∧ (∀ s, s < tN t → g.1 (z + 1) s = tL t s ∧ g.1 (z + 2) s = tR t s ∧ g.1 (z + 3) s = tB t s) ∧ (∀ p, p < tM t → g.1 (z + 4) p = tW t p) ∧ g.1 z 11 = tS t ∧
  ∃ size, size ≤ 408 ∧ g.1 z 12 = nI size ∧ ∀ k, k < 4 → ∀ vars, tX t k vars = xEv (g.1 (z + 7)) size vars 408 (g.1 (z + 8) k) []
def xRaw (b : Nat) (c : vSc) (g : xG) : Prop := g.2.2 b 10 = 29 ∧ (∀ i, i < 30 → g.1 (b + 1) i = cG c i) ∧ (∀ k, k < 6 → g.1 (b + 2) k = nI (cR c k)) ∧ g.1 b 2 = cK c ∧ g.1 b 3 = cP c
def xScn (b : Nat) (t : vSt) (c : vSc) (g : xG) : Prop := xRaw b c g ∧ ∀ p, p < tM t → g.1 (b + 3) p = nI (cS c p) ∧ g.1 (b + 4) p = vPic t c p ∧ g.1 (b + 5) p = vTot t c p ∧ g.1 (b + 6) p = nI (vJoins t c p)
/-- only the cells lo .. hi change -/
def xFr (lo hi : Nat) (g g' : xG) : Prop := g'.2 = g.2 ∧ ∀ k, (k < lo ∨ hi < k) → g'.1 k = g.1 k
theorem xFr.rf {lo hi : Nat} {g : xG} : xFr lo hi g g := ⟨rfl, fun _ _ => rfl⟩
theorem xFr.tr {lo hi : Nat} {g g1 g2 : xG} (h : xFr lo hi g g1) (h2 : xFr lo hi g1 g2) : xFr lo hi g g2 := ⟨h2.1.trans h.1, fun k q => (h2.2 k q).trans (h.2 k q)⟩
theorem xFr.up {lo hi lo' hi' : Nat} {g g1 : xG} (h : xFr lo hi g g1) (h1 : lo' ≤ lo) (h2 : hi ≤ hi') : xFr lo' hi' g g1 := ⟨h.1, fun k q => h.2 k (by omega)⟩
theorem xFr.put {lo hi : Nat} {g g1 : xG} (h : xFr lo hi g g1) {k : Nat} (j : Nat) (v : Int32) (h1 : lo ≤ k) (h2 : k ≤ hi) : xFr lo hi g (xm_sI g1 k j v) := ⟨h.1, fun a q => (xg_off g1 j v (by omega)).trans (h.2 a q)⟩
theorem xFr.putA {lo hi : Nat} {g g1 : xG} (h : xFr lo hi g g1) {k : Nat} (f : Nat → Int32) (h1 : lo ≤ k) (h2 : k ≤ hi) : xFr lo hi g (xm_sA g1 k f) := ⟨h.1, fun a q => (xg_aoff g1 f (by omega)).trans (h.2 a q)⟩
theorem xSto.fr {z : Nat} {t : vSt} {g g' : xG} (h : xSto z t g) (hk : ∀ k, z ≤ k → k < z + 9 → g'.1 k = g.1 k) : xSto z t g' := by
  obtain ⟨h1, h2, h3, h4, h5, size, h6, h7, h8⟩ := h
  refine ⟨?_, ?_, fun s hs => ?_, fun p hp => ?_, ?_, size, h6, ?_, fun k hk4 vars => ?_⟩
  · rw [hk z (by omega) (by omega)]; exact h1
  · rw [hk z (by omega) (by omega)]; exact h2
  · rw [hk (z + 1) (by omega) (by omega), hk (z + 2) (by omega) (by omega), hk (z + 3) (by omega) (by omega)]; exact h3 s hs
  · rw [hk (z + 4) (by omega) (by omega)]; exact h4 p hp
  · rw [hk z (by omega) (by omega)]; exact h5
  · rw [hk z (by omega) (by omega)]; exact h7
  · rw [hk (z + 7) (by omega) (by omega), hk (z + 8) (by omega) (by omega)]; exact h8 k hk4 vars
theorem xRaw.fr {b : Nat} {c : vSc} {g g' : xG} (h : xRaw b c g) (h2 : g'.2 = g.2) (hk : ∀ k, b ≤ k → k < b + 3 → g'.1 k = g.1 k) : xRaw b c g' := by
  obtain ⟨h0, h1, h3, h4, h5⟩ := h
  refine ⟨by rw [h2]; exact h0, fun i hi => ?_, fun k hk6 => ?_, ?_, ?_⟩
  · rw [hk (b + 1) (by omega) (by omega)]; exact h1 i hi
  · rw [hk (b + 2) (by omega) (by omega)]; exact h3 k hk6
  · rw [hk b (by omega) (by omega)]; exact h4
  · rw [hk b (by omega) (by omega)]; exact h5
theorem xScn.fr {b : Nat} {t : vSt} {c : vSc} {g g' : xG} (h : xScn b t c g) (h2 : g'.2 = g.2) (hk : ∀ k, b ≤ k → k < b + 7 → g'.1 k = g.1 k) : xScn b t c g' := by
  refine ⟨h.1.fr h2 (fun k h1 h3 => hk k h1 (by omega)), fun p hp => ?_⟩
  rw [hk (b + 3) (by omega) (by omega), hk (b + 4) (by omega) (by omega), hk (b + 5) (by omega) (by omega), hk (b + 6) (by omega) (by omega)]
  exact h.2 p hp
-- settlePicture
def xt_X3_settlePicture : xT := xm_fn (Z := Nat × Nat × Nat) (fun z av g => av = [.ref z.1, .int (nI z.2.1)] ∧ (z.1 = 11 ∨ z.1 = 20) ∧ z.2.1 < 6 ∧ g.2.2 z.1 10 = 29 ∧ g.1 29 8 = nI z.2.2 ∧ z.2.2 ≤ 5) (fun _ _ => none)
  (fun z g => xm_sI (xm_sI g (z.1 + 4) z.2.1 (vPk (fun s => g.1 (z.1 + 1) (z.2.1 * 5 + s)) z.2.2).1) (z.1 + 5) z.2.1 (vPk (fun s => g.1 (z.1 + 1) (z.2.1 * 5 + s)) z.2.2).2.2)
set_option maxRecDepth 100000 in
set_option maxHeartbeats 4000000 in
theorem xp_X3_settlePicture {l : Launch} {D : va_G} {cA : Nat → ClassId} {B : List (Nat × Cell)} : xm_Met l D cA B xs_X 1 yX3_settlePicture cX3_settlePicture 7 none xt_X3_settlePicture := by
  have hm : xm_monos [xt_X3_cell] := ⟨(by first | exact xm_fn_mono _ _ _ | exact xm_rl_mono _ _), trivial⟩
  refine xm_meth (own := RX3) (ks := xk_X3_settlePicture) (C := xc_X3_settlePicture) (Ts := [xt_X3_cell]) (by decide +kernel) rfl xm_clsok xs_X_ok xf_X3_ok xi_X3_ok xj_X3_ok (xm_lk xl_X3_91 xp_X3_cell (by decide) xm_lk0) xo_X3_settlePicture ?_ ?_
  · rintro av g Q ⟨z, ⟨rfl, -⟩, -⟩
    exact Nat.le_of_ble_eq_true rfl
  · rintro av g Q ⟨⟨b, p, n⟩, ⟨rfl, hb, hp, hst, hn, hn5⟩, hQ⟩
    dsimp only at hb hp hst hn hn5 hQ
    have loop : ∀ d s, s + d = n → ∀ w6, xm_go xs_X xk_X3_settlePicture [xt_X3_cell] xc_X3_settlePicture Q (xm_drop 8 xc_X3_settlePicture) [.ref b, .int (nI p), .int (vPk (fun s => g.1 (b + 1) (p * 5 + s)) s).1, .int (vPk (fun s => g.1 (b + 1) (p * 5 + s)) s).2.1, .int (vPk (fun s => g.1 (b + 1) (p * 5 + s)) s).2.2, .int (nI s), w6] [] g := by
      intro d
      induction d with
      | zero =>
        intro s hs w6
        have hs : s = n := by omega
        subst hs
        rcases hb with rfl | rfl
        all_goals
          refine xm_run_go hm 40 ⟨hst, ⟨fun _ => ⟨p, ⟨hp, rfl⟩, ⟨p, ⟨hp, rfl⟩, hQ⟩⟩, fun h => ?_⟩⟩
          rw [hn] at h
          exact absurd h (nI_nlt (Nat.le_refl _) (by omega))
      | succ d ih =>
        intro s hs w6
        have e := ih (s + 1) (by omega)
        rw [nI_succ] at e
        rcases hb with rfl | rfl
        all_goals
          refine xm_run_go hm 40 ⟨hst, ⟨fun h => ?_, fun _ => ⟨(nI p, nI s), ⟨rfl, trivial⟩, ⟨p * 5 + s, ⟨by omega, xn_cell p s⟩, ⟨fun h => ?_, fun h => ?_⟩⟩⟩⟩⟩
          · rw [hn] at h
            exact absurd h (nI_ge (by omega) (by omega))
          · refine xm_cut hm ?_
            simp only [vPk, if_neg (Int32.not_lt.mpr h)] at e
            exact e _
          · refine xm_cut hm ?_
            simp only [vPk, if_pos h] at e
            exact e _
    refine xm_run_go hm 20 ?_
    exact xm_cut hm (loop n 0 (by omega) _)
-- meet
def xt_X3_meet : xT := xm_fn (Z := Nat × Nat × Nat × vSt × vSc) (fun z av g => av = [.ref z.1, .int (nI z.2.1), .int (nI z.2.2.1)] ∧ (z.1 = 11 ∨ z.1 = 20) ∧ z.2.1 < 6 ∧ z.2.2.1 < 6 ∧ vTok z.2.2.2.1 ∧ xSto 29 z.2.2.2.1 g ∧ g.2.2 z.1 10 = 29 ∧ g.1 (z.1 + 4) z.2.1 = vPic z.2.2.2.1 z.2.2.2.2 z.2.1 ∧ g.1 (z.1 + 4) z.2.2.1 = vPic z.2.2.2.1 z.2.2.2.2 z.2.2.1)
  (fun z _ => some (.int (vB (vJ z.2.2.2.1 z.2.2.2.2 z.2.1 z.2.2.1)))) (fun _ g => g)
set_option maxRecDepth 100000 in
set_option maxHeartbeats 4000000 in
theorem xp_X3_meet {l : Launch} {D : va_G} {cA : Nat → ClassId} {B : List (Nat × Cell)} : xm_Met l D cA B xs_X 0 yX3_meet cX3_meet 5 (some .boolean) xt_X3_meet := by
  have hm : xm_monos [] := xm_m0
  refine xm_meth (own := RX3) (ks := xk_X3_meet) (C := xc_X3_meet) (Ts := []) (by decide +kernel) rfl xm_clsok xs_X_ok xf_X3_ok xi_X3_ok xj_X3_ok xm_lk0 xo_X3_meet ?_ ?_
  · rintro av g Q ⟨z, ⟨rfl, -⟩, -⟩
    exact Nat.le_of_ble_eq_true rfl
  · rintro av g Q ⟨⟨b, p, q, t, c⟩, ⟨rfl, hb, hp, hq, ht, hs, hst, e1, e2⟩, hQ⟩
    dsimp only at hb hp hq ht hs hst e1 e2 hQ
    have n5 := ht.1
    rcases vPic_or ht c p with h1 | ⟨s1, l1, h1⟩
    · rw [vB_f (fun z => by have := z.1; rw [h1] at this; revert this; decide)] at hQ
      rcases hb with rfl | rfl
      all_goals
        refine xm_run_go hm 40 ⟨p, ⟨hp, rfl⟩, q, ⟨hq, rfl⟩, ⟨fun _ => ⟨Or.inl rfl, hQ⟩, fun h => ?_⟩⟩
        rw [e1, h1] at h
        exact absurd h (by decide)
    · rcases vPic_or ht c q with h2 | ⟨s2, l2, h2⟩
      · rw [vB_f (fun z => by have := z.2.1; rw [h2] at this; revert this; decide)] at hQ
        rcases hb with rfl | rfl
        all_goals
          refine xm_run_go hm 40 ⟨p, ⟨hp, rfl⟩, q, ⟨hq, rfl⟩, ⟨fun _ => ⟨Or.inl rfl, hQ⟩, fun h => ⟨fun _ => ⟨Or.inl rfl, hQ⟩, fun h => ?_⟩⟩⟩
          rw [e2, h2] at h
          exact absurd h (by decide)
      · have key : vJ t c p q ↔ g.1 31 s1 = g.1 30 s2 := by
          unfold vJ vJ2
          rw [h1, h2, nI_clamp (by omega), nI_clamp (by omega), (hs.2.2.1 s1 l1).2.1, (hs.2.2.1 s2 l2).1]
          exact ⟨fun z => z.2.2, fun z => ⟨nI_pos' (by omega), nI_pos' (by omega), z⟩⟩
        rcases hb with rfl | rfl
        all_goals
          refine xm_run_go hm 40 ⟨p, ⟨hp, rfl⟩, q, ⟨hq, rfl⟩, ⟨fun h => ?_, fun _ => ⟨fun h => ?_, fun _ => ⟨hst, s1, ⟨by omega, e1.trans h1⟩, hst, s2, ⟨by omega, e2.trans h2⟩, ⟨fun h => ?_, fun h => ?_⟩⟩⟩⟩⟩
          · rw [e1, h1] at h
            exact absurd h (nI_pos (by omega))
          · rw [e2, h2] at h
            exact absurd h (nI_pos (by omega))
          · rw [vB_f (fun z => h (key.mp z))] at hQ
            exact ⟨Or.inl rfl, hQ⟩
          · rw [vB_t (key.mpr h)] at hQ
            exact ⟨Or.inr rfl, hQ⟩
