-- things done, and slots
/-- which slots hold something, as bits -/
def vMask (sl : Nat → Option vSc) : Nat := (if (sl 0).isSome then 1 else 0) + (if (sl 1).isSome then 2 else 0) + (if (sl 2).isSome then 4 else 0)
def xShelf (k : Nat) (hs : Nat → vSc) (sl : Nat → Option vSc) (g : xG) : Prop := k ≤ 40 ∧ (∃ o, o < 40 ∧ g.1 47 0 = nI k ∧ g.1 47 2 = nI o ∧ ∀ i, i < k → xSlot g ((o + i) % 40) (hs i)) ∧ g.1 47 1 = nI (vMask sl) ∧ ∀ i, i < 3 → ∀ c, sl i = some c → xSlot g (40 + i) c
theorem xShelf.fr {k : Nat} {hs : Nat → vSc} {sl : Nat → Option vSc} {g g' : xG} (h : xShelf k hs sl g) (e7 : g'.1 47 = g.1 47) (e8 : g'.1 48 = g.1 48) : xShelf k hs sl g' := by
  obtain ⟨h1, ⟨o, h2, h3, h4, h5⟩, h6, h7⟩ := h
  refine ⟨h1, ⟨o, h2, by rw [e7]; exact h3, by rw [e7]; exact h4, fun i hi => (h5 i hi).fr (fun j _ _ => by rw [e8])⟩, by rw [e7]; exact h6, fun i hi c hc => (h7 i hi c hc).fr (fun j _ _ => by rw [e8])⟩
def vPushN (k : Nat) : Nat := if k = 40 then 40 else k + 1
def vPush (k : Nat) (hs : Nat → vSc) (c : vSc) : Nat → vSc := if k = 40 then (fun i => if i < 39 then hs (i + 1) else c) else (fun i => if i < k then hs i else c)
theorem xn_r40 {a : Nat} (h : a < 1000) : nI a - nI a / 40 * 40 = nI (a % 40) := by
  have := pk_rem (a := a) (d := 40) (by omega) (by omega) (by omega)
  exact this
def xt_X4_clear : xT := xm_fn (Z := Unit) (fun _ av _ => av = [.ref 47] ∧ True) (fun _ _ => none) (fun _ g => xm_sI (xm_sI g 47 0 0) 47 1 0)
set_option maxRecDepth 100000 in
set_option maxHeartbeats 4000000 in
theorem xp_X4_clear {l : Launch} {D : va_G} {cA : Nat → ClassId} {B : List (Nat × Cell)} : xm_Met l D cA B xs_X 0 yX4_clear cX4_clear 1 none xt_X4_clear := by
  have hm : xm_monos [] := xm_m0
  refine xm_meth (own := RX4) (ks := xk_X4_clear) (C := xc_X4_clear) (Ts := []) (by decide +kernel) rfl xm_clsok xs_X_ok xf_X4_ok xi_X4_ok xj_X4_ok xm_lk0 xo_X4_clear ?_ ?_
  · rintro av g Q ⟨z, ⟨rfl, -⟩, -⟩
    exact Nat.le_of_ble_eq_true rfl
  · rintro av g Q ⟨_, ⟨rfl, -⟩, hQ⟩
    exact xm_run_go hm 10 hQ
theorem xShelf_clear (g : xG) {k : Nat} {hs : Nat → vSc} {sl : Nat → Option vSc} (h : xShelf k hs sl g) : xShelf 0 hs (fun _ => none) (xm_sI (xm_sI g 47 0 0) 47 1 0) := by
  obtain ⟨h1, ⟨o, h2, h3, h4, h5⟩, h6, h7⟩ := h
  refine ⟨by omega, ⟨o, h2, ?_, ?_, fun i hi => by omega⟩, ?_, fun i hi c hc => by cases hc⟩
  · rw [xg_in, if_neg (by decide), xg_in, if_pos rfl]; rfl
  · rw [xg_in, if_neg (by decide), xg_in, if_neg (by decide)]; exact h4
  · rw [xg_in, if_pos rfl]; rfl
def xt_X4_push : xT := xm_rl (Z := Nat × (Nat → vSc) × (Nat → Option vSc) × vSt × vSc) (fun (k, hs, sl, t, c) av g => av = [.ref 47, .ref 11] ∧ xShelf k hs sl g ∧ xIn 11 t c g) (fun (k, hs, sl, t, c) g o g' => o = none ∧ xFr 47 48 g g' ∧ xShelf (vPushN k) (vPush k hs c) sl g')
set_option maxRecDepth 100000 in
set_option maxHeartbeats 4000000 in
theorem xp_X4_push {l : Launch} {D : va_G} {cA : Nat → ClassId} {B : List (Nat × Cell)} : xm_Met l D cA B xs_X 3 yX4_push cX4_push 2 none xt_X4_push := by
  have hm : xm_monos [xt_X4_put] := ⟨(by first | exact xm_fn_mono _ _ _ | exact xm_rl_mono _ _), trivial⟩
  refine xm_meth (own := RX4) (ks := xk_X4_push) (C := xc_X4_push) (Ts := [xt_X4_put]) (by decide +kernel) rfl xm_clsok xs_X_ok xf_X4_ok xi_X4_ok xj_X4_ok (xm_lk xl_X4_27 xp_X4_put (by decide) xm_lk0) xo_X4_push ?_ ?_
  · rintro av g Q ⟨z, ⟨rfl, -⟩, -⟩
    exact Nat.le_of_ble_eq_true rfl
  · rintro av g Q ⟨⟨k, hs, sl, t, c⟩, ⟨rfl, hsh, h⟩, hQ⟩
    dsimp only at h hQ
    obtain ⟨h1, ⟨o, h2, h3, h4, h5⟩, h6, h7⟩ := hsh
    by_cases e : k = 40
    · subst e
      have e1 : nI o + 1 - (nI o + 1) / 40 * 40 = nI ((o + 1) % 40) := by rw [nI_1]; exact xn_r40 (by omega)
      have w : (o + 40) % 40 < 43 := by omega
      have hi : xIn 11 t c (xm_sI g 47 2 (nI o + 1 - (nI o + 1) / 40 * 40)) := ⟨Or.inl rfl, h.2.1, h.2.2.1.fr (fun k q1 q2 => xg_off _ _ _ (by omega)), h.2.2.2.fr rfl (fun k q1 q2 => xg_off _ _ _ (by omega))⟩
      rw [← h4] at hi
      refine xm_run_go hm 40 ⟨fun q => absurd h3 q, fun _ => ⟨by decide, by decide, ⟨((o + 40) % 40, t, c), ⟨?_, w, hi⟩, ?_⟩⟩⟩
      · rw [xg_in, if_pos rfl, xg_in, if_neg (by decide), h3, h4, e1]
        congr 3
        have : nI ((o + 1) % 40) + nI 40 - 1 = nI ((o + 1) % 40 + 39) := by rw [nI_add, xn_dec (by omega)]; congr 1
        rw [this, xn_r40 (by omega)]
        congr 1
        omega
      · rintro o2 g2 ⟨rfl, q1, q2, q3⟩
        refine hQ _ _ ⟨rfl, (xFr.rf.put _ _ (by omega) (by omega)).tr (q1.up (by omega) (by omega)), ?_⟩
        refine ⟨by decide, ⟨(o + 1) % 40, by omega, ?_, ?_, fun i hi2 => ?_⟩, ?_, fun i hi2 c2 hc2 => (h7 i hi2 c2 hc2).fr (fun j j1 j2 => ?_)⟩
        · rw [q1.2 47 (by omega), xg_in, if_neg (by decide)]; exact h3
        · rw [q1.2 47 (by omega), xg_in, if_pos rfl, h4, e1]
        · show xSlot g2 (((o + 1) % 40 + i) % 40) ((if (40 : Nat) = 40 then (fun i => if i < 39 then hs (i + 1) else c) else (fun i => if i < 40 then hs i else c)) i)
          rw [if_pos rfl]
          have hi3 : i < 40 := hi2
          by_cases z : i < 39
          · rw [if_pos z]
            have s := h5 (i + 1) (by omega)
            rw [show ((o + 1) % 40 + i) % 40 = (o + (i + 1)) % 40 by omega]
            refine s.fr (fun j j1 j2 => ?_)
            rw [q3 j (by omega), xg_off _ _ _ (by decide)]
          · rw [if_neg z, show ((o + 1) % 40 + i) % 40 = (o + 40) % 40 by omega]
            exact q2
        · rw [q1.2 47 (by omega), xg_in, if_neg (by decide)]; exact h6
        · rw [q3 j (by omega), xg_off _ _ _ (by decide)]
    · have hk : k < 40 := by omega
      have e3 : g.1 47 0 ≠ 40 := by
        rw [h3]
        exact fun z => e ((nI_eq (b := 40) (by omega) (by omega)).mp z)
      have hi : xIn 11 t c (xm_sI g 47 0 (g.1 47 0 + 1)) := ⟨Or.inl rfl, h.2.1, h.2.2.1.fr (fun k q1 q2 => xg_off _ _ _ (by omega)), h.2.2.2.fr rfl (fun k q1 q2 => xg_off _ _ _ (by omega))⟩
      have w : (o + k) % 40 < 43 := by omega
      refine xm_run_go hm 40 ⟨fun _ => ⟨by decide, ⟨((o + k) % 40, t, c), ⟨?_, w, hi⟩, ?_⟩⟩, fun q => absurd q e3⟩
      · rw [xg_in, if_neg (by decide), xg_in, if_pos rfl, h3, h4, nI_1, nI_add, xn_dec (by omega), xn_r40 (by omega)]
        congr 5
      · rintro o2 g2 ⟨rfl, q1, q2, q3⟩
        refine hQ _ _ ⟨rfl, (xFr.rf.put _ _ (by omega) (by omega)).tr (q1.up (by omega) (by omega)), ?_⟩
        unfold vPushN vPush
        rw [if_neg e, if_neg e]
        refine ⟨by omega, ⟨o, h2, ?_, ?_, fun i hi2 => ?_⟩, ?_, fun i hi2 c2 hc2 => (h7 i hi2 c2 hc2).fr (fun j j1 j2 => ?_)⟩
        · rw [q1.2 47 (by omega), xg_in, if_pos rfl, h3, nI_1]
        · rw [q1.2 47 (by omega), xg_in, if_neg (by decide)]; exact h4
        · dsimp only
          by_cases z : i < k
          · rw [if_pos z]
            refine (h5 i z).fr (fun j j1 j2 => ?_)
            rw [q3 j (by omega), xg_off _ _ _ (by decide)]
          · rw [if_neg z, show i = k by omega]
            exact q2
        · rw [q1.2 47 (by omega), xg_in, if_neg (by decide)]; exact h6
        · rw [q3 j (by omega), xg_off _ _ _ (by decide)]
def xt_X4_pop : xT := xm_rl (Z := Nat × (Nat → vSc) × (Nat → Option vSc) × vSt × vSc) (fun (k, hs, sl, t, c) av g => av = [.ref 47, .ref 11] ∧ xShelf k hs sl g ∧ xIn 11 t c g ∧ ∀ i, i < k → vCok t (hs i)) (fun (k, hs, sl, t, c) g o g' => (k = 0 ∧ o = some (.int 0) ∧ g' = g) ∨ (0 < k ∧ o = some (.int 1) ∧ (∀ j, (j < 11 ∨ 19 < j) → j ≠ 47 → g'.1 j = g.1 j) ∧ g'.2 = g.2 ∧ xShelf (k - 1) hs sl g' ∧ xIn 11 t (hs (k - 1)) g'))
set_option maxRecDepth 100000 in
set_option maxHeartbeats 4000000 in
theorem xp_X4_pop {l : Launch} {D : va_G} {cA : Nat → ClassId} {B : List (Nat × Cell)} : xm_Met l D cA B xs_X 4 yX4_pop cX4_pop 2 (some .boolean) xt_X4_pop := by
  have hm : xm_monos [xt_X4_get] := ⟨(by first | exact xm_fn_mono _ _ _ | exact xm_rl_mono _ _), trivial⟩
  refine xm_meth (own := RX4) (ks := xk_X4_pop) (C := xc_X4_pop) (Ts := [xt_X4_get]) (by decide +kernel) rfl xm_clsok xs_X_ok xf_X4_ok xi_X4_ok xj_X4_ok (xm_lk xl_X4_31 xp_X4_get (by decide) xm_lk0) xo_X4_pop ?_ ?_
  · rintro av g Q ⟨z, ⟨rfl, -⟩, -⟩
    exact Nat.le_of_ble_eq_true rfl
  · rintro av g Q ⟨⟨k, hs, sl, t, c⟩, ⟨rfl, hsh, h, hok⟩, hQ⟩
    dsimp only at h hQ
    obtain ⟨h1, ⟨o, h2, h3, h4, h5⟩, h6, h7⟩ := hsh
    by_cases e : k = 0
    · refine xm_run_go hm 20 ⟨fun q => ?_, fun _ => ⟨Or.inl rfl, hQ _ _ (Or.inl ⟨e, rfl, rfl⟩)⟩⟩
      rw [h3, e] at q
      exact absurd q (by decide)
    · have hi : xIn 11 t c (xm_sI g 47 0 (g.1 47 0 - 1)) := ⟨Or.inl rfl, h.2.1, h.2.2.1.fr (fun k q1 q2 => xg_off _ _ _ (by omega)), h.2.2.2.fr rfl (fun k q1 q2 => xg_off _ _ _ (by omega))⟩
      have w : (o + (k - 1)) % 40 < 43 := by omega
      have sl1 : xSlot (xm_sI g 47 0 (g.1 47 0 - 1)) ((o + (k - 1)) % 40) (hs (k - 1)) := (h5 (k - 1) (by omega)).fr (fun j _ _ => by rw [xg_off _ _ _ (by decide)])
      refine xm_run_go hm 40 ⟨fun _ => ⟨by decide, ⟨((o + (k - 1)) % 40, t, c, hs (k - 1)), ⟨?_, w, hi, sl1, hok _ (by omega)⟩, ?_⟩⟩, fun q => ?_⟩
      · rw [xg_in, if_neg (by decide), xg_in, if_pos rfl, h3, h4, xn_dec (by omega), nI_add, xn_r40 (by omega)]
      · rintro o2 g2 ⟨rfl, q1, q2⟩
        refine ⟨Or.inr rfl, hQ _ _ (Or.inr ⟨by omega, rfl, fun j hj hj2 => ?_, by rw [q1.1]; rfl, ⟨by omega, ⟨o, h2, ?_, ?_, fun i hi2 => ?_⟩, ?_, fun i hi2 c2 hc2 => (h7 i hi2 c2 hc2).fr (fun j j1 j2 => ?_)⟩, q2⟩)⟩
        · rw [q1.2 j hj, xg_off _ _ _ hj2]
        · rw [q1.2 47 (by omega), xg_in, if_pos rfl, h3, xn_dec (by omega)]
        · rw [q1.2 47 (by omega), xg_in, if_neg (by decide)]; exact h4
        · exact (h5 i (by omega)).fr (fun j _ _ => by rw [q1.2 48 (by omega), xg_off _ _ _ (by decide)])
        · rw [q1.2 47 (by omega), xg_in, if_neg (by decide)]; exact h6
        · rw [q1.2 48 (by omega), xg_off _ _ _ (by decide)]
      · rw [h3] at q
        exact absurd q (nI_nle (by omega) (by omega))
theorem vMask_set (sl : Nat → Option vSc) (c : vSc) {s : Nat} (hs : s < 3) : nI (vMask sl) ||| (1 <<< (nI s &&& 31)) = nI (vMask (fun i => if i = s then some c else sl i)) := by
  unfold vMask
  have : s = 0 ∨ s = 1 ∨ s = 2 := by omega
  rcases this with rfl | rfl | rfl
  all_goals
    simp
    generalize (sl 0).isSome = x0
    generalize (sl 1).isSome = x1
    generalize (sl 2).isSome = x2
    revert x0 x1 x2
    decide
theorem vMask_bit (sl : Nat → Option vSc) {s : Nat} (hs : s < 3) : (nI (vMask sl) >>> (nI s &&& 31)) &&& 1 = if (sl s).isSome then 1 else 0 := by
  unfold vMask
  have : s = 0 ∨ s = 1 ∨ s = 2 := by omega
  rcases this with rfl | rfl | rfl
  all_goals
    generalize (sl 0).isSome = x0
    generalize (sl 1).isSome = x1
    generalize (sl 2).isSome = x2
    revert x0 x1 x2
    decide
def xt_X4_holdIn : xT := xm_rl (Z := Nat × Nat × (Nat → vSc) × (Nat → Option vSc) × vSt × vSc) (fun (s, k, hs, sl, t, c) av g => av = [.ref 47, .int (nI s), .ref 11] ∧ s < 3 ∧ xShelf k hs sl g ∧ xIn 11 t c g) (fun (s, k, hs, sl, t, c) g o g' => o = none ∧ xFr 47 48 g g' ∧ xShelf k hs (fun i => if i = s then some c else sl i) g')
set_option maxRecDepth 100000 in
set_option maxHeartbeats 4000000 in
theorem xp_X4_holdIn {l : Launch} {D : va_G} {cA : Nat → ClassId} {B : List (Nat × Cell)} : xm_Met l D cA B xs_X 3 yX4_holdIn cX4_holdIn 3 none xt_X4_holdIn := by
  have hm : xm_monos [xt_X4_put] := ⟨(by first | exact xm_fn_mono _ _ _ | exact xm_rl_mono _ _), trivial⟩
  refine xm_meth (own := RX4) (ks := xk_X4_holdIn) (C := xc_X4_holdIn) (Ts := [xt_X4_put]) (by decide +kernel) rfl xm_clsok xs_X_ok xf_X4_ok xi_X4_ok xj_X4_ok (xm_lk xl_X4_27 xp_X4_put (by decide) xm_lk0) xo_X4_holdIn ?_ ?_
  · rintro av g Q ⟨z, ⟨rfl, -⟩, -⟩
    exact Nat.le_of_ble_eq_true rfl
  · rintro av g Q ⟨⟨s, k, hs, sl, t, c⟩, ⟨rfl, hs3, hsh, h⟩, hQ⟩
    dsimp only at h hQ
    obtain ⟨h1, ⟨o, h2, h3, h4, h5⟩, h6, h7⟩ := hsh
    have w : 40 + s < 43 := by omega
    refine xm_run_go hm 30 ⟨(40 + s, t, c), ⟨?_, w, h⟩, ?_⟩
    · rw [← nI_add]; rfl
    · rintro o2 g2 ⟨rfl, q1, q2, q3⟩
      refine hQ _ _ ⟨rfl, (q1.up (by omega) (by omega)).put _ _ (by omega) (by omega), ⟨h1, ⟨o, h2, ?_, ?_, fun i hi2 => ?_⟩, ?_, fun i hi2 c2 hc2 => ?_⟩⟩
      · rw [xg_in, if_neg (by decide), q1.2 47 (by omega)]; exact h3
      · rw [xg_in, if_neg (by decide), q1.2 47 (by omega)]; exact h4
      · exact (h5 i hi2).fr (fun j j1 j2 => by rw [xg_off _ _ _ (by decide), q3 j (by omega)])
      · rw [xg_in, if_pos rfl, q1.2 47 (by omega), h6]; exact vMask_set sl c hs3
      · dsimp only at hc2
        by_cases z : i = s
        · rw [if_pos z] at hc2
          cases hc2
          rw [z]
          exact q2.fr (fun j _ _ => by rw [xg_off _ _ _ (by decide)])
        · rw [if_neg z] at hc2
          exact (h7 i hi2 c2 hc2).fr (fun j j1 j2 => by rw [xg_off _ _ _ (by decide), q3 j (by omega)])
def xt_X4_goOnFrom : xT := xm_rl (Z := Nat × Nat × (Nat → vSc) × (Nat → Option vSc) × vSt × vSc) (fun (s, k, hs, sl, t, c) av g => av = [.ref 47, .int (nI s), .ref 11] ∧ s < 3 ∧ xShelf k hs sl g ∧ xIn 11 t c g ∧ ∀ c2, sl s = some c2 → vCok t c2) (fun (s, k, hs, sl, t, c) g o g' => (sl s = none ∧ o = some (.int 0) ∧ g' = g) ∨ ∃ c2, sl s = some c2 ∧ o = some (.int 1) ∧ (∀ j, (j < 11 ∨ 19 < j) → j ≠ 47 → g'.1 j = g.1 j) ∧ g'.2 = g.2 ∧ xShelf 0 hs sl g' ∧ xIn 11 t c2 g')
set_option maxRecDepth 100000 in
set_option maxHeartbeats 4000000 in
theorem xp_X4_goOnFrom {l : Launch} {D : va_G} {cA : Nat → ClassId} {B : List (Nat × Cell)} : xm_Met l D cA B xs_X 4 yX4_goOnFrom cX4_goOnFrom 3 (some .boolean) xt_X4_goOnFrom := by
  have hm : xm_monos [xt_X4_get] := ⟨(by first | exact xm_fn_mono _ _ _ | exact xm_rl_mono _ _), trivial⟩
  refine xm_meth (own := RX4) (ks := xk_X4_goOnFrom) (C := xc_X4_goOnFrom) (Ts := [xt_X4_get]) (by decide +kernel) rfl xm_clsok xs_X_ok xf_X4_ok xi_X4_ok xj_X4_ok (xm_lk xl_X4_31 xp_X4_get (by decide) xm_lk0) xo_X4_goOnFrom ?_ ?_
  · rintro av g Q ⟨z, ⟨rfl, -⟩, -⟩
    exact Nat.le_of_ble_eq_true rfl
  · rintro av g Q ⟨⟨s, k, hs, sl, t, c⟩, ⟨rfl, hs3, hsh, h, hok⟩, hQ⟩
    dsimp only at h hQ hok
    obtain ⟨h1, ⟨o, h2, h3, h4, h5⟩, h6, h7⟩ := hsh
    have eb := vMask_bit sl hs3
    rw [← h6] at eb
    cases hc : sl s with
    | none =>
      refine xm_run_go hm 20 ⟨fun q => ?_, fun _ => ⟨Or.inl rfl, hQ _ _ (Or.inl ⟨hc, rfl, rfl⟩)⟩⟩
      rw [hc] at eb
      exact absurd eb q
    | some c2 =>
      have w : 40 + s < 43 := by omega
      have e40 : (40 : Int32) + nI s = nI (40 + s) := by rw [← nI_add]; rfl
      refine xm_run_go hm 30 ⟨fun _ => ⟨(40 + s, t, c, c2), ⟨?_, w, h, h7 s hs3 c2 hc, hok c2 hc⟩, ?_⟩, fun q => ?_⟩
      · rw [← e40]
      · rintro o2 g2 ⟨rfl, q1, q2⟩
        refine ⟨Or.inr rfl, hQ _ _ (Or.inr ⟨c2, hc, rfl, fun j hj hj2 => ?_, q1.1, ⟨by omega, ⟨o, h2, ?_, ?_, fun i hi2 => by omega⟩, ?_, fun i hi2 c3 hc3 => ?_⟩, ⟨Or.inl rfl, q2.2.1, q2.2.2.1.fr (fun k q1 q2 => xg_off _ _ _ (by omega)), q2.2.2.2.fr rfl (fun k q1 q2 => xg_off _ _ _ (by omega))⟩⟩)⟩
        · rw [xg_off _ _ _ hj2, q1.2 j hj]
        · rw [xg_in, if_pos rfl]; rfl
        · rw [xg_in, if_neg (by decide), q1.2 47 (by omega)]; exact h4
        · rw [xg_in, if_neg (by decide), q1.2 47 (by omega)]; exact h6
        · exact (h7 i hi2 c3 hc3).fr (fun j _ _ => by rw [xg_off _ _ _ (by decide), q1.2 48 (by omega)])
      · rw [hc] at eb
        rw [eb] at q
        simp at q
