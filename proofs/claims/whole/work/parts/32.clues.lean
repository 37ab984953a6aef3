-- what was told of a slide unknown
noncomputable def vMark (t : vSt) (c : vSc) (s : Nat) (k : Nat) : Int32 := match k with
  | 0 => tL t s
  | 1 => tR t s
  | 2 => tB t s
  | _ => nI (ub_ct (uB (fun p => vPic t c p = nI s) (tM t)))
abbrev vTold : Type := Nat × (Nat → Nat) × (Nat → Int32) × (Nat → Bool)
def xTold (d : vTold) (g : xG) : Prop := g.1 54 0 = nI d.1 ∧ d.1 ≤ 20 ∧ ∀ i, i < d.1 → g.1 55 i = nI (d.2.1 i) ∧ d.2.1 i < 4 ∧ g.1 56 i = d.2.2.1 i ∧ g.1 57 i = if d.2.2.2 i then 1 else 0
theorem xTold.fr {d : vTold} {g g' : xG} (h : xTold d g) (e : ∀ k, 54 ≤ k → g'.1 k = g.1 k) : xTold d g' := by
  refine ⟨by rw [e 54 (by omega)]; exact h.1, h.2.1, fun i hi => ?_⟩
  rw [e 55 (by omega), e 56 (by omega), e 57 (by omega)]
  exact h.2.2 i hi
def vTell (d : vTold) (m : Nat) (v : Int32) (b : Bool) : vTold := if d.1 = 20 then d else (d.1 + 1, fun i => if i = d.1 then m else d.2.1 i, fun i => if i = d.1 then v else d.2.2.1 i, fun i => if i = d.1 then b else d.2.2.2 i)
def xt_X0_add : xT := xm_rl (Z := Nat × Int32 × Bool × vTold) (fun (m, v, b, d) av g => av = [.ref 54, .int (nI m), .int v, .int (if b then 1 else 0)] ∧ m < 4 ∧ xTold d g) (fun (m, v, b, d) g o g' => o = some (.int (if d.1 = 20 then -1 else nI d.1)) ∧ xTold (vTell d m v b) g' ∧ xFr 54 57 g g')
set_option maxRecDepth 100000 in
set_option maxHeartbeats 400000 in
theorem xp_X0_add {l : Launch} {D : va_G} {cA : Nat → ClassId} {B : List (Nat × Cell)} : xm_Met l D cA B xs_X 0 yX0_add cX0_add 4 (some .int) xt_X0_add := by
  have hm : xm_monos [] := xm_m0
  refine xm_meth (own := RX0) (ks := xk_X0_add) (C := xc_X0_add) (Ts := []) (by decide +kernel) rfl xm_clsok xs_X_ok xf_X0_ok xi_X0_ok xj_X0_ok xm_lk0 xo_X0_add ?_ ?_
  · rintro av g Q ⟨z, ⟨rfl, -⟩, -⟩
    exact Nat.le_of_ble_eq_true rfl
  · rintro av g Q ⟨⟨m, v, b, d⟩, ⟨rfl, hm4, h⟩, hQ⟩
    dsimp only at hm4 h hQ
    obtain ⟨h1, h2, h3⟩ := id h
    by_cases hd : d.1 = 20
    · have fin := hQ (some (.int (-1))) g ⟨by rw [if_pos hd], by rw [vTell, if_pos hd]; exact h, xFr.rf⟩
      refine xm_run_go hm 20 ⟨fun z => ?_, fun _ => fin⟩
      rw [h1, hd] at z
      exact absurd z (by decide)
    · have hl : d.1 < 20 := by omega
      refine xm_run_go hm 60 ⟨fun z => ⟨d.1, ⟨hl, h1⟩, d.1, ⟨hl, ?_⟩, d.1, ⟨hl, ?_⟩, hQ _ _ ⟨?_, ?_, ?_⟩⟩, fun z => ?_⟩
      · rw [xg_off _ _ _ (by decide)]; exact h1
      · rw [xg_off _ _ _ (by decide), xg_off _ _ _ (by decide)]; exact ⟨h1, by cases b; exact Or.inl rfl; exact Or.inr rfl⟩
      · rw [if_neg hd, xg_in, if_pos rfl, xg_off _ _ _ (by decide), xg_off _ _ _ (by decide), xg_off _ _ _ (by decide), h1, Int32.add_sub_cancel]
      · rw [vTell, if_neg hd]
        refine ⟨?_, by show d.1 + 1 ≤ 20; omega, fun i hi => ?_⟩
        · rw [xg_in, if_pos rfl, xg_off _ _ _ (by decide), xg_off _ _ _ (by decide), xg_off _ _ _ (by decide), h1, nI_1]
        · dsimp only at hi ⊢
          rw [xg_off _ _ _ (by decide), xg_off _ _ _ (by decide), xg_off _ _ _ (by decide), xg_in]
          rw [xg_off _ _ _ (by decide), xg_off _ _ _ (by decide), xg_in]
          rw [xg_off _ _ _ (by decide), xg_off _ _ _ (by decide), xg_in]
          rw [xg_off _ _ _ (by decide), xg_off _ _ _ (by decide)]
          by_cases z : i = d.1
          · simp only [if_pos z]
            exact ⟨trivial, hm4, trivial, trivial⟩
          · simp only [if_neg z]
            exact h3 i (by omega)
      · exact (((xFr.rf.put _ _ (by omega) (by omega)).put _ _ (by omega) (by omega)).put _ _ (by omega) (by omega)).put _ _ (by omega) (by omega)
      · rw [h1] at z
        exact absurd z (nI_ge (b := 20) hl (by decide))
def xt_X0_markOf : xT := xm_fn (Z := Nat × Nat × vSt × vSc) (fun (s, k, t, c) av g => av = [.ref 11, .int (nI s), .int (nI k)] ∧ s < tN t ∧ k < 4 ∧ xIn 11 t c g) (fun (s, k, t, c) _ => some (.int (vMark t c s k))) (fun _ g => g)
set_option maxRecDepth 100000 in
set_option maxHeartbeats 400000 in
theorem xp_X0_markOf {l : Launch} {D : va_G} {cA : Nat → ClassId} {B : List (Nat × Cell)} : xm_Met l D cA B xs_X 1 yX0_markOf cX0_markOf 3 (some .int) xt_X0_markOf := by
  have hm : xm_monos [xt_X3_showing, xt_J6_bitCount_0f7a4] := ⟨(by first | exact xm_fn_mono _ _ _ | exact xm_rl_mono _ _), (by first | exact xm_fn_mono _ _ _ | exact xm_rl_mono _ _), trivial⟩
  refine xm_meth (own := RX0) (ks := xk_X0_markOf) (C := xc_X0_markOf) (Ts := [xt_X3_showing, xt_J6_bitCount_0f7a4]) (by decide +kernel) rfl xm_clsok xs_X_ok xf_X0_ok xi_X0_ok xj_X0_ok (xm_lk xl_X0_69 xp_X3_showing (by decide) (xm_lk xl_X0_45 xp_J6_bitCount_0f7a4 (by decide) xm_lk0)) xo_X0_markOf ?_ ?_
  · rintro av g Q ⟨z, ⟨rfl, -⟩, -⟩
    exact Nat.le_of_ble_eq_true rfl
  · rintro av g Q ⟨⟨s, k, t, c⟩, ⟨rfl, hs, hk, h⟩, hQ⟩
    dsimp only at hs hk h hQ
    have hn5 := h.2.1.1
    have hm6 := h.2.1.2.1
    have hs5 : s < 5 := by omega
    have lit : ∀ i, i < 100 → nI k = nI i → k = i := fun i hi h => (nI_eq (by omega) (by omega)).mp h
    obtain ⟨e1, e2, e3⟩ := h.2.2.1.2.2.1 s hs
    have e4 : xBc (vShow t c (nI s)) = nI (ub_ct (uB (fun p => vPic t c p = nI s) (tM t))) := by rw [vShow, vBits_u hm6, xBc_ct _ (uB_lt hm6)]
    refine xm_run_go hm 30 ⟨fun z => ⟨h.st, s, ⟨hs5, rfl⟩, xq_i hQ ?_⟩, fun z0 => ⟨fun z => ⟨h.st, s, ⟨hs5, rfl⟩, xq_i hQ ?_⟩, fun z1 => ⟨fun z => ⟨h.st, s, ⟨hs5, rfl⟩, xq_i hQ ?_⟩, fun z2 => ⟨(11, nI s, t, c), ⟨rfl, h⟩, vShow t c (nI s), ⟨rfl, trivial⟩, xq_i hQ ?_⟩⟩⟩⟩
    · have := lit 0 (by omega) z; subst this; exact e1
    · have := lit 1 (by omega) z; subst this; exact e2
    · have := lit 2 (by omega) z; subst this; exact e3
    · have a0 : k ≠ 0 := fun e => z0 (by rw [e]; rfl)
      have a1 : k ≠ 1 := fun e => z1 (by rw [e]; rfl)
      have a2 : k ≠ 2 := fun e => z2 (by rw [e]; rfl)
      have : k = 3 := by omega
      subst this; exact e4
noncomputable def vReach (t : vSt) (c : vSc) (k : Nat) (v : Int32) : Nat := uB (fun s => v ≤ vMark t c s k) (tN t)
theorem vReach_lt {t : vSt} (h : vTok t) (c : vSc) (k : Nat) (v : Int32) : vReach t c k v < 64 := uB_lt (by have := h.1; omega)
def xt_X0_reaching : xT := xm_fn (Z := Nat × Int32 × vSt × vSc) (fun (k, v, t, c) av g => av = [.ref 11, .int (nI k), .int v] ∧ k < 4 ∧ xIn 11 t c g) (fun (k, v, t, c) _ => some (.int (nI (vReach t c k v)))) (fun _ g => g)
set_option maxRecDepth 100000 in
set_option maxHeartbeats 400000 in
theorem xp_X0_reaching {l : Launch} {D : va_G} {cA : Nat → ClassId} {B : List (Nat × Cell)} : xm_Met l D cA B xs_X 2 yX0_reaching cX0_reaching 5 (some .int) xt_X0_reaching := by
  have hm : xm_monos [xt_X0_markOf] := ⟨(by first | exact xm_fn_mono _ _ _ | exact xm_rl_mono _ _), trivial⟩
  refine xm_meth (own := RX0) (ks := xk_X0_reaching) (C := xc_X0_reaching) (Ts := [xt_X0_markOf]) (by decide +kernel) rfl xm_clsok xs_X_ok xf_X0_ok xi_X0_ok xj_X0_ok (xm_lk xl_X0_57 xp_X0_markOf (by decide) xm_lk0) xo_X0_reaching ?_ ?_
  · rintro av g Q ⟨z, ⟨rfl, -⟩, -⟩
    exact Nat.le_of_ble_eq_true rfl
  · rintro av g Q ⟨⟨k, v, t, c⟩, ⟨rfl, hk, h⟩, hQ⟩
    dsimp only at hk h hQ
    have hn5 := h.2.1.1
    have loop : ∀ d s, s + d = tN t → xm_go xs_X xk_X0_reaching [xt_X0_markOf] xc_X0_reaching Q (xm_drop 4 xc_X0_reaching) [.ref 11, .int (nI k), .int v, .int (nI (uB (fun s => v ≤ vMark t c s k) s)), .int (nI s)] [] g := by
      intro d
      induction d with
      | zero =>
        intro s hs
        have hs : s = tN t := by omega
        subst hs
        refine xm_run_go hm 20 ⟨h.st, ⟨fun _ => hQ, fun q => ?_⟩⟩
        rw [h.n] at q
        exact absurd q (nI_nlt (Nat.le_refl _) (by omega))
      | succ d ih =>
        intro s hs
        have hsn : s < tN t := by omega
        have nx := ih (s + 1) (by omega)
        rw [nI_succ] at nx
        have no : ¬ v ≤ vMark t c s k → xm_go xs_X xk_X0_reaching [xt_X0_markOf] xc_X0_reaching Q (xm_drop 4 xc_X0_reaching) [.ref 11, .int (nI k), .int v, .int (nI (uB (fun s => v ≤ vMark t c s k) s)), .int (nI s + 1)] [] g := fun z => by
          rw [uB_f z] at nx; exact nx
        have yes : v ≤ vMark t c s k → xm_go xs_X xk_X0_reaching [xt_X0_markOf] xc_X0_reaching Q (xm_drop 4 xc_X0_reaching) [.ref 11, .int (nI k), .int v, .int (nI (uB (fun s => v ≤ vMark t c s k) s) ||| (1 <<< (nI s &&& 31))), .int (nI s + 1)] [] g := fun z => by
          rw [uB_t z] at nx
          rw [ub_or1 _ (uB_lt (by omega)) s (by omega)]; exact nx
        refine xm_run_go hm 30 ⟨h.st, ⟨fun q => ?_, fun _ => ⟨(s, k, t, c), ⟨rfl, hsn, hk, h⟩, ⟨fun q => xm_cut hm (no (Int32.not_le.mpr q)), fun q => xm_cut hm (yes q)⟩⟩⟩⟩
        rw [h.n] at q
        exact absurd q (nI_ge hsn (by omega))
    exact xm_run_go hm 10 (xm_cut hm (loop (tN t) 0 (by omega)))
/-- the slides that fit with the first k told -/
noncomputable def vWhich (t : vSt) (c : vSc) (d : vTold) (k : Nat) : Nat := uB (fun s => ∀ i, i < k → (d.2.2.1 i ≤ vMark t c s (d.2.1 i) ↔ d.2.2.2 i = true)) (tN t)
theorem vWhich_lt {t : vSt} (h : vTok t) (c : vSc) (d : vTold) (k : Nat) : vWhich t c d k < 64 := uB_lt (by have := h.1; omega)
theorem uB_all {P : Nat → Prop} (h : ∀ k, P k) : ∀ n, uB P n = 2 ^ n - 1
  | 0 => rfl
  | n + 1 => by
    rw [uB_t (h n), uB_all h n]
    refine Nat.eq_of_testBit_eq fun i => ?_
    rw [ub_tor, Nat.testBit_two_pow_sub_one, Nat.testBit_two_pow_sub_one, Bool.eq_iff_iff]
    simp only [Bool.or_eq_true, decide_eq_true_eq]
    omega
theorem vWhich_0 (t : vSt) (c : vSc) (d : vTold) : vWhich t c d 0 = 2 ^ tN t - 1 := uB_all (fun s i hi => absurd hi (by omega)) _
theorem vWhich_t {t : vSt} (h : vTok t) (c : vSc) (d : vTold) {k : Nat} (hb : d.2.2.2 k = true) : vWhich t c d (k + 1) = vWhich t c d k &&& vReach t c (d.2.1 k) (d.2.2.1 k) := by
  have l1 := vWhich_lt h c d k
  refine ub_ext (vWhich_lt h c d (k + 1)) (ub_andlt _ l1) fun s hs => ?_
  rw [Nat.testBit_and, Bool.eq_iff_iff, Bool.and_eq_true, vWhich, vWhich, vReach, uB_bit, uB_bit, uB_bit]
  constructor
  · intro q; exact ⟨⟨q.1, fun i hi => q.2 i (by omega)⟩, q.1, (q.2 k (by omega)).mpr hb⟩
  · intro q
    refine ⟨q.1.1, fun i hi => ?_⟩
    by_cases z : i = k
    · rw [z]; exact ⟨fun _ => hb, fun _ => q.2.2⟩
    · exact q.1.2 i (by omega)
theorem vWhich_f {t : vSt} (h : vTok t) (c : vSc) (d : vTold) {k : Nat} (hb : d.2.2.2 k = false) : vWhich t c d (k + 1) = vWhich t c d k &&& (63 ^^^ vReach t c (d.2.1 k) (d.2.2.1 k)) := by
  have l1 := vWhich_lt h c d k
  refine ub_ext (vWhich_lt h c d (k + 1)) (ub_andlt _ l1) fun s hs => ?_
  rw [ub_tless _ _ _ hs, Bool.eq_iff_iff, Bool.and_eq_true, Bool.not_eq_true', ← Bool.not_eq_true, vWhich, vWhich, vReach, uB_bit, uB_bit, uB_bit]
  have hf : ¬ d.2.2.2 k = true := by rw [hb]; decide
  constructor
  · intro q; exact ⟨⟨q.1, fun i hi => q.2 i (by omega)⟩, fun z => hf ((q.2 k (by omega)).mp z.2)⟩
  · intro q
    refine ⟨q.1.1, fun i hi => ?_⟩
    by_cases z : i = k
    · rw [z]; exact ⟨fun y => absurd ⟨q.1.1, y⟩ q.2, fun y => absurd y hf⟩
    · exact q.1.2 i (by omega)
def xt_X0_fitting : xT := xm_fn (Z := Nat × vTold × vSt × vSc) (fun (k, d, t, c) av g => av = [.ref 54, .ref 11, .int (nI k)] ∧ k ≤ d.1 ∧ xTold d g ∧ xIn 11 t c g) (fun (k, d, t, c) _ => some (.int (nI (vWhich t c d k)))) (fun _ g => g)
set_option maxRecDepth 100000 in
set_option maxHeartbeats 400000 in
theorem xp_X0_fitting {l : Launch} {D : va_G} {cA : Nat → ClassId} {B : List (Nat × Cell)} : xm_Met l D cA B xs_X 3 yX0_fitting cX0_fitting 6 (some .int) xt_X0_fitting := by
  have hm : xm_monos [xt_X0_reaching] := ⟨(by first | exact xm_fn_mono _ _ _ | exact xm_rl_mono _ _), trivial⟩
  refine xm_meth (own := RX0) (ks := xk_X0_fitting) (C := xc_X0_fitting) (Ts := [xt_X0_reaching]) (by decide +kernel) rfl xm_clsok xs_X_ok xf_X0_ok xi_X0_ok xj_X0_ok (xm_lk xl_X0_37 xp_X0_reaching (by decide) xm_lk0) xo_X0_fitting ?_ ?_
  · rintro av g Q ⟨z, ⟨rfl, -⟩, -⟩
    exact Nat.le_of_ble_eq_true rfl
  · rintro av g Q ⟨⟨k, d, t, c⟩, ⟨rfl, hk, hd, h⟩, hQ⟩
    dsimp only at hk hd h hQ
    obtain ⟨h1, h2, h3⟩ := id hd
    have hn5 := h.2.1.1
    have loop : ∀ e i, i + e = k → ∀ v, v = nI (vWhich t c d i) → ∀ w, xm_go xs_X xk_X0_fitting [xt_X0_reaching] xc_X0_fitting Q (xm_drop 10 xc_X0_fitting) [.ref 54, .ref 11, .int (nI k), .int v, .int (nI i), w] [] g := by
      intro e
      induction e with
      | zero =>
        intro i hi v hv w
        have hi : i = k := by omega
        subst hi
        refine xm_run_go hm 20 ⟨fun _ => xq_i hQ hv, fun q => absurd q (nI_nlt (Nat.le_refl _) (by omega))⟩
      | succ e ih =>
        intro i hi v hv w
        have hik : i < k := by omega
        have hi20 : i < 20 := by omega
        obtain ⟨a1, a2, a3, a4⟩ := h3 i (by omega)
        have nx := ih (i + 1) (by omega)
        rw [nI_succ] at nx
        have lt1 := vWhich_lt h.2.1 c d i
        have lt2 := vReach_lt h.2.1 c (d.2.1 i) (d.2.2.1 i)
        have ea : [Value.ref 11, .int (g.1 55 i), .int (g.1 56 i)] = [Value.ref 11, .int (nI (d.2.1 i)), .int (d.2.2.1 i)] := by rw [a1, a3]
        refine xm_run_go hm 60 ⟨fun q => absurd q (nI_ge hik (by omega)), fun _ => ⟨fun q => ?_, fun _ => ⟨i, ⟨hi20, rfl⟩, i, ⟨hi20, rfl⟩, (d.2.1 i, d.2.2.1 i, t, c), ⟨ea, a2, h⟩, i, ⟨hi20, rfl⟩, ⟨fun q => xm_cut hm (nx _ ?_ _), fun q => xm_cut hm (nx _ ?_ _)⟩⟩⟩⟩
        · rw [h1] at q
          exact absurd q (nI_ge (by omega) (by omega))
        · rw [a4] at q
          have hb : d.2.2.2 i = false := by
            cases hh : d.2.2.2 i with
            | false => rfl
            | true => rw [hh] at q; exact absurd q (by decide)
          rw [vWhich_f h.2.1 c d hb, hv, ub_less _ lt1 _ lt2]
        · rw [a4] at q
          have hb : d.2.2.2 i = true := by
            cases hh : d.2.2.2 i with
            | false => rw [hh] at q; exact absurd rfl q
            | true => rfl
          rw [vWhich_t h.2.1 c d hb, hv, ub_and _ lt1 _ lt2]
    refine xm_run_go hm 20 ⟨h.st, xm_cut hm (loop k 0 (by omega) _ ?_ _)⟩
    rw [h.n, ub_all _ (by omega), vWhich_0]
noncomputable def vWorse (t : vSt) (c : vSc) (v : Int32) (u k : Nat) : Nat := max (ub_ct (u &&& vReach t c k v)) (ub_ct (u &&& (63 ^^^ vReach t c k v)))
def vLk (w : Nat → Nat) : Nat → Nat × Nat
  | 0 => (0, 6)
  | k + 1 => if w k < (vLk w k).2 then (k, w k) else vLk w k
noncomputable def vLook (t : vSt) (c : vSc) (d : vTold) (k : Nat) (v : Int32) : Int32 := if vWhich t c d k = 0 then -2 else nI (vLk (vWorse t c v (vWhich t c d k)) 4).1
theorem ub_ct_le (u : Nat) : ub_ct u ≤ 6 := by
  unfold ub_ct
  repeat' split
  all_goals omega
theorem vMax_nI {a b : Nat} (ha : a < 1000) (hb : b < 1000) : vMax (nI a) (nI b) = nI (max a b) := by
  unfold vMax
  by_cases z : a < b
  · rw [if_pos (nI_lt z (by omega)), Nat.max_eq_right (by omega)]
  · rw [if_neg (nI_nlt (by omega) (by omega)), Nat.max_eq_left (by omega)]
theorem vLk_le (w : Nat → Nat) : ∀ k, (vLk w k).2 ≤ 6
  | 0 => Nat.le_refl _
  | k + 1 => by
    have ih := vLk_le w k
    unfold vLk
    split
    · rename_i q; exact Nat.le_trans (Nat.le_of_lt q) ih
    · exact ih
def xt_X0_bestMark : xT := xm_fn (Z := Nat × Int32 × vTold × vSt × vSc) (fun (k, v, d, t, c) av g => av = [.ref 54, .ref 11, .int (nI k), .int v] ∧ k ≤ d.1 ∧ xTold d g ∧ xIn 11 t c g) (fun (k, v, d, t, c) _ => some (.int (vLook t c d k v))) (fun _ g => g)
set_option maxRecDepth 100000 in
set_option maxHeartbeats 400000 in
theorem xp_X0_bestMark {l : Launch} {D : va_G} {cA : Nat → ClassId} {B : List (Nat × Cell)} : xm_Met l D cA B xs_X 4 yX0_bestMark cX0_bestMark 10 (some .int) xt_X0_bestMark := by
  have hm : xm_monos [xt_X0_fitting, xt_X0_reaching, xt_J6_bitCount_0f7a4, xt_J9_max_7cf53] := ⟨(by first | exact xm_fn_mono _ _ _ | exact xm_rl_mono _ _), (by first | exact xm_fn_mono _ _ _ | exact xm_rl_mono _ _), (by first | exact xm_fn_mono _ _ _ | exact xm_rl_mono _ _), (by first | exact xm_fn_mono _ _ _ | exact xm_rl_mono _ _), trivial⟩
  refine xm_meth (own := RX0) (ks := xk_X0_bestMark) (C := xc_X0_bestMark) (Ts := [xt_X0_fitting, xt_X0_reaching, xt_J6_bitCount_0f7a4, xt_J9_max_7cf53]) (by decide +kernel) rfl xm_clsok xs_X_ok xf_X0_ok xi_X0_ok xj_X0_ok (xm_lk xl_X0_41 xp_X0_fitting (by decide) (xm_lk xl_X0_37 xp_X0_reaching (by decide) (xm_lk xl_X0_45 xp_J6_bitCount_0f7a4 (by decide) (xm_lk xl_X0_51 xp_J9_max_7cf53 (by decide) xm_lk0)))) xo_X0_bestMark ?_ ?_
  · rintro av g Q ⟨z, ⟨rfl, -⟩, -⟩
    exact Nat.le_of_ble_eq_true rfl
  · rintro av g Q ⟨⟨k, v, d, t, c⟩, ⟨rfl, hk, hd, h⟩, hQ⟩
    dsimp only at hk hd h hQ
    have lu := vWhich_lt h.2.1 c d k
    unfold vLook at hQ
    generalize hu : vWhich t c d k = u at hQ lu
    have eu : nI (vWhich t c d k) = nI u := by rw [hu]
    by_cases z0 : u = 0
    · rw [if_pos z0] at hQ
      refine xm_run_go hm 20 ⟨(k, d, t, c), ⟨rfl, hk, hd, h⟩, ⟨fun z => ?_, fun _ => hQ⟩⟩
      rw [eu, z0] at z
      exact absurd rfl z
    · rw [if_neg z0] at hQ
      have hw : ∀ k, vWorse t c v u k ≤ 6 := fun k => Nat.max_le.mpr ⟨ub_ct_le _, ub_ct_le _⟩
      generalize hww : vWorse t c v u = w at hQ hw
      have loop : ∀ e i, i + e = 4 → ∀ x5 x6, x5 = nI (vLk w i).1 → x6 = nI (vLk w i).2 → ∀ y, y = nI u → ∀ w8 w9, xm_go xs_X xk_X0_bestMark [xt_X0_fitting, xt_X0_reaching, xt_J6_bitCount_0f7a4, xt_J9_max_7cf53] xc_X0_bestMark Q (xm_drop 15 xc_X0_bestMark) [.ref 54, .ref 11, .int (nI k), .int v, .int y, .int x5, .int x6, .int (nI i), w8, w9] [] g := by
        intro e
        induction e with
        | zero =>
          intro i hi x5 x6 e5 e6 y hy w8 w9
          have hi : i = 4 := by omega
          subst hi
          refine xm_run_go hm 20 ⟨fun _ => xq_i hQ e5, fun q => absurd q (by decide)⟩
        | succ e ih =>
          intro i hi x5 x6 e5 e6 y hy w8 w9
          have hi4 : i < 4 := by omega
          have nx := ih (i + 1) (by omega)
          rw [nI_succ] at nx
          have lr := vReach_lt h.2.1 c i v
          have le := vLk_le w i
          have wi := hw i
          have ev : vMax (xBc (y &&& nI (vReach t c i v))) (xBc (y &&& (nI (vReach t c i v) ^^^ (-1)))) = nI (w i) := by
            rw [hy, ub_and _ lu _ lr, ub_less _ lu _ lr, xBc_ct _ (ub_andlt _ lu), xBc_ct _ (ub_andlt _ lu), vMax_nI (by have := ub_ct_le (u &&& vReach t c i v); omega) (by have := ub_ct_le (u &&& (63 ^^^ vReach t c i v)); omega), ← hww]
            rfl
          refine xm_run_go hm 60 ⟨fun q => absurd q (nI_ge (b := 4) hi4 (by omega)), fun _ => ⟨(i, v, t, c), ⟨rfl, hi4, h⟩, y &&& nI (vReach t c i v), ⟨rfl, trivial⟩, y &&& (nI (vReach t c i v) ^^^ (-1)), ⟨rfl, trivial⟩, (xBc (y &&& nI (vReach t c i v)), xBc (y &&& (nI (vReach t c i v) ^^^ (-1)))), ⟨rfl, trivial⟩, ⟨fun q => xm_cut hm (nx _ _ ?_ ?_ _ hy _ _), fun q => xm_cut hm (nx _ _ ?_ ?_ _ hy _ _)⟩⟩⟩
          · rw [ev, e6] at q
            have := (nI_leI (by omega) (by omega)).mp q
            rw [vLk, if_neg (by omega)]; exact e5
          · rw [ev, e6] at q
            have := (nI_leI (by omega) (by omega)).mp q
            rw [vLk, if_neg (by omega)]; exact e6
          · rw [ev, e6] at q
            have := (nI_ltI (by omega) (by omega)).mp q
            rw [vLk, if_pos this]
          · rw [ev, e6] at q
            have := (nI_ltI (by omega) (by omega)).mp q
            rw [vLk, if_pos this]; exact ev
      refine xm_run_go hm 20 ⟨(k, d, t, c), ⟨rfl, hk, hd, h⟩, ⟨fun z => xm_cut hm (loop 4 0 rfl _ _ rfl rfl _ eu _ _), fun z => ?_⟩⟩
      rw [eu] at z
      exact absurd ((nI_eq (b := 0) (by omega) (by omega)).mp z) z0
