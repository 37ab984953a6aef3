-- who can stand on the right of whom
noncomputable def vNx (t : vSt) (c : vSc) (p : Nat) : Nat := uB (fun q => p ≠ q ∧ vJ t c p q) (tM t)
noncomputable def vSh (t : vSt) (c : vSc) : Nat := uB (fun p => 0 ≤ vPic t c p) (tM t)
theorem vNx_lt {t : vSt} (h : vTok t) (c : vSc) (p : Nat) : vNx t c p < 64 := uB_lt h.2.1
theorem vSh_lt {t : vSt} (h : vTok t) (c : vSc) : vSh t c < 64 := uB_lt h.2.1
def xRows (m sh : Nat) (nx : Nat → Nat) (g : xG) : Prop := g.1 49 4 = nI m ∧ g.1 49 5 = nI sh ∧ (∀ p, p < m → g.1 51 p = nI (nx p) ∧ nx p < 64) ∧ m ≤ 6 ∧ sh < 64
theorem xRows.fr {m sh : Nat} {nx : Nat → Nat} {g g' : xG} (h : xRows m sh nx g) (h1 : g'.1 49 4 = g.1 49 4) (h2 : g'.1 49 5 = g.1 49 5) (h3 : g'.1 51 = g.1 51) : xRows m sh nx g' :=
  ⟨h1.trans h.1, h2.trans h.2.1, fun p hp => by rw [h3]; exact h.2.2.1 p hp, h.2.2.2⟩
def xt_X2_study : xT := xm_rl (Z := vSt × vSc) (fun (t, c) av g => av = [.ref 49, .ref 11] ∧ xIn 11 t c g) (fun (t, c) g o g' => o = none ∧ xRows (tM t) (vSh t c) (vNx t c) g' ∧ xFr 49 53 g g')
set_option maxRecDepth 100000 in
set_option maxHeartbeats 4000000 in
theorem xp_X2_study {l : Launch} {D : va_G} {cA : Nat → ClassId} {B : List (Nat × Cell)} : xm_Met l D cA B xs_X 1 yX2_study cX2_study 4 none xt_X2_study := by
  have hm : xm_monos [xt_X3_meet] := ⟨(by first | exact xm_fn_mono _ _ _ | exact xm_rl_mono _ _), trivial⟩
  refine xm_meth (own := RX2) (ks := xk_X2_study) (C := xc_X2_study) (Ts := [xt_X3_meet]) (by decide +kernel) rfl xm_clsok xs_X_ok xf_X2_ok xi_X2_ok xj_X2_ok (xm_lk xl_X2_43 xp_X3_meet (by decide) xm_lk0) xo_X2_study ?_ ?_
  · rintro av g Q ⟨z, ⟨rfl, -⟩, -⟩
    exact Nat.le_of_ble_eq_true rfl
  · rintro av g Q ⟨⟨t, c⟩, ⟨rfl, h⟩, hQ⟩
    dsimp only at h hQ
    have hm6 := h.2.1.2.1
    have base : ∀ {g1 : xG}, xFr 49 53 g g1 → xIn 11 t c g1 := fun hf => ⟨Or.inl rfl, h.2.1, h.2.2.1.fr (fun k h1 h2 => hf.2 k (by omega)), h.2.2.2.fr hf.1 (fun k h1 h2 => hf.2 k (by omega))⟩
    have inner : ∀ p, p < tM t → (∀ g1, xFr 49 53 g g1 → g1.1 49 4 = nI (tM t) → g1.1 49 5 = nI (uB (fun p => 0 ≤ vPic t c p) (p + 1)) → (∀ q, q < p + 1 → g1.1 51 q = nI (vNx t c q)) → ∀ w, xm_go xs_X xk_X2_study [xt_X3_meet] xc_X2_study Q (xm_drop 10 xc_X2_study) [.ref 49, .ref 11, .int (nI p + 1), w] [] g1) →
        ∀ d q, q + d = tM t → ∀ g1, xFr 49 53 g g1 → g1.1 49 4 = nI (tM t) → g1.1 49 5 = nI (uB (fun p => 0 ≤ vPic t c p) (p + 1)) → (∀ q, q < p → g1.1 51 q = nI (vNx t c q)) → g1.1 51 p = nI (uB (fun q => p ≠ q ∧ vJ t c p q) q) → xm_go xs_X xk_X2_study [xt_X3_meet] xc_X2_study Q (xm_drop 34 xc_X2_study) [.ref 49, .ref 11, .int (nI p), .int (nI q)] [] g1 := by
      intro p hp hout d
      have hp6 : p < 6 := by omega
      induction d with
      | zero =>
        intro q hq g1 hf a1 a2 a3 a4
        have hq : q = tM t := by omega
        subst hq
        have nx := hout g1 hf a1 a2 (fun q hq => by
          by_cases z : q = p
          · rw [z]; exact a4
          · exact a3 q (by omega))
        refine xm_run_go hm 20 ⟨fun _ => xm_cut hm (nx _), fun z => ?_⟩
        rw [a1] at z
        exact absurd z (nI_nlt (Nat.le_refl _) (by omega))
      | succ d ih =>
        intro q hq g1 hf a1 a2 a3 a4
        have h1 := base hf
        have hq6 : q < 6 := by omega
        have hqm : q < tM t := by omega
        have no : ¬ (p ≠ q ∧ vJ t c p q) → xm_go xs_X xk_X2_study [xt_X3_meet] xc_X2_study Q (xm_drop 34 xc_X2_study) [.ref 49, .ref 11, .int (nI p), .int (nI q + 1)] [] g1 := fun z => by
          rw [nI_1]
          exact ih (q + 1) (by omega) g1 hf a1 a2 a3 (by rw [uB_f z]; exact a4)
        have yes : (p ≠ q ∧ vJ t c p q) → xm_go xs_X xk_X2_study [xt_X3_meet] xc_X2_study Q (xm_drop 34 xc_X2_study) [.ref 49, .ref 11, .int (nI p), .int (nI q + 1)] [] (xm_sI g1 51 p (g1.1 51 p ||| (1 <<< (nI q &&& 31)))) := fun z => by
          rw [nI_1]
          refine ih (q + 1) (by omega) _ (hf.put _ _ (by omega) (by omega)) (by rw [xg_off _ _ _ (by decide)]; exact a1) (by rw [xg_off _ _ _ (by decide)]; exact a2) (fun r hr => ?_) ?_
          · rw [xg_in, if_neg (by omega)]; exact a3 r hr
          · rw [xg_in, if_pos rfl, uB_t z, a4]
            exact ub_or1 _ (uB_lt (by omega)) q hq6
        refine xm_run_go hm 40 ⟨fun z => ?_, fun _ => ⟨fun z => ?_, fun z => ⟨(11, p, q, t, c), ⟨rfl, Or.inl rfl, hp6, hq6, h.2.1, h1.2.2.1, h1.st, (h1.2.2.2.2 p hp).2.1, (h1.2.2.2.2 q hqm).2.1⟩, ⟨fun y => ?_, fun y => ⟨p, ⟨hp6, rfl⟩, p, ⟨hp6, rfl⟩, ?_⟩⟩⟩⟩⟩
        · rw [a1] at z
          exact absurd z (nI_ge hqm (by omega))
        · exact xm_cut hm (no (fun y => y.1 ((nI_eq (by omega) (by omega)).mp z)))
        · refine xm_cut hm (no (fun x => ?_))
          rw [vB_t x.2] at y
          exact absurd y (by decide)
        · refine xm_cut hm (yes ⟨fun e => z (by rw [e]), Classical.byContradiction fun x => ?_⟩)
          rw [vB_f x] at y
          exact y rfl
    have outer : ∀ d p, p + d = tM t → ∀ g1, xFr 49 53 g g1 → g1.1 49 4 = nI (tM t) → g1.1 49 5 = nI (uB (fun p => 0 ≤ vPic t c p) p) → (∀ q, q < p → g1.1 51 q = nI (vNx t c q)) → ∀ w, xm_go xs_X xk_X2_study [xt_X3_meet] xc_X2_study Q (xm_drop 10 xc_X2_study) [.ref 49, .ref 11, .int (nI p), w] [] g1 := by
      intro d
      induction d with
      | zero =>
        intro p hp g1 hf a1 a2 a3 w
        have hp : p = tM t := by omega
        subst hp
        refine xm_run_go hm 20 ⟨fun _ => hQ _ _ ⟨rfl, ⟨a1, a2, fun p hp => ⟨a3 p hp, vNx_lt h.2.1 c p⟩, hm6, vSh_lt h.2.1 c⟩, hf⟩, fun z => ?_⟩
        rw [a1] at z
        exact absurd z (nI_nlt (Nat.le_refl _) (by omega))
      | succ d ih =>
        intro p hp g1 hf a1 a2 a3 w
        have h1 := base hf
        have hp6 : p < 6 := by omega
        have hpm : p < tM t := by omega
        have e := (h1.2.2.2.2 p hpm).2.1
        have inn := fun g2 => inner p hpm (fun g2 b0 b1 b2 b3 w => by rw [nI_1]; exact ih (p + 1) (by omega) g2 b0 b1 b2 b3 w) (tM t) 0 (by omega) g2
        have n1 : 0 ≤ vPic t c p → xm_go xs_X xk_X2_study [xt_X3_meet] xc_X2_study Q (xm_drop 34 xc_X2_study) [.ref 49, .ref 11, .int (nI p), .int (nI 0)] [] (xm_sI (xm_sI g1 51 p 0) 49 5 ((xm_sI g1 51 p 0).1 49 5 ||| (1 <<< (nI p &&& 31)))) := fun z => by
          refine inn _ ((hf.put _ _ (by omega) (by omega)).put _ _ (by omega) (by omega)) ?_ ?_ (fun q hq => ?_) ?_
          · rw [xg_in, if_neg (by decide), xg_off _ _ _ (by decide)]; exact a1
          · rw [xg_in, if_pos rfl, xg_off _ _ _ (by decide), uB_t z, a2]
            exact ub_or1 _ (uB_lt (by omega)) p hp6
          · rw [xg_off _ _ _ (by decide), xg_in, if_neg (by omega)]; exact a3 q hq
          · rw [xg_off _ _ _ (by decide), xg_in, if_pos rfl]; rfl
        have n2 : ¬ 0 ≤ vPic t c p → xm_go xs_X xk_X2_study [xt_X3_meet] xc_X2_study Q (xm_drop 34 xc_X2_study) [.ref 49, .ref 11, .int (nI p), .int (nI 0)] [] (xm_sI g1 51 p 0) := fun z => by
          refine inn _ (hf.put _ _ (by omega) (by omega)) ?_ ?_ (fun q hq => ?_) ?_
          · rw [xg_off _ _ _ (by decide)]; exact a1
          · rw [xg_off _ _ _ (by decide), uB_f z]; exact a2
          · rw [xg_in, if_neg (by omega)]; exact a3 q hq
          · rw [xg_in, if_pos rfl]; rfl
        refine xm_run_go hm 40 ⟨fun z => ?_, fun _ => ⟨p, ⟨hp6, rfl⟩, p, ⟨hp6, rfl⟩, ⟨fun z => xm_cut hm (n2 ?_), fun z => xm_cut hm (n1 ?_)⟩⟩⟩
        · rw [a1] at z
          exact absurd z (nI_ge hpm (by omega))
        · rw [xg_off _ _ _ (by decide), e] at z
          exact Int32.not_le.mpr z
        · rw [xg_off _ _ _ (by decide), e] at z
          exact z
    refine xm_run_go hm 20 ⟨h.st, xm_cut hm (outer (tM t) 0 (by omega) _ ((xFr.rf.put _ _ (by omega) (by omega)).put _ _ (by omega) (by omega)) ?_ ?_ (fun q hq => by omega) _)⟩
    · rw [xg_in, if_neg (by decide), xg_in, if_pos rfl]; exact h.m
    · rw [xg_in, if_pos rfl]; rfl
def xt_X2_meetings : xT := xm_fn (Z := Nat × Nat × (Nat → Nat)) (fun (m, sh, nx) av g => av = [.ref 49] ∧ xRows m sh nx g) (fun (m, sh, nx) _ => some (.int (vSum (fun p => nI (ub_ct (nx p))) m))) (fun _ g => g)
set_option maxRecDepth 100000 in
set_option maxHeartbeats 4000000 in
theorem xp_X2_meetings {l : Launch} {D : va_G} {cA : Nat → ClassId} {B : List (Nat × Cell)} : xm_Met l D cA B xs_X 1 yX2_meetings cX2_meetings 3 (some .int) xt_X2_meetings := by
  have hm : xm_monos [xt_J6_bitCount_0f7a4] := ⟨(by first | exact xm_fn_mono _ _ _ | exact xm_rl_mono _ _), trivial⟩
  refine xm_meth (own := RX2) (ks := xk_X2_meetings) (C := xc_X2_meetings) (Ts := [xt_J6_bitCount_0f7a4]) (by decide +kernel) rfl xm_clsok xs_X_ok xf_X2_ok xi_X2_ok xj_X2_ok (xm_lk xl_X2_47 xp_J6_bitCount_0f7a4 (by decide) xm_lk0) xo_X2_meetings ?_ ?_
  · rintro av g Q ⟨z, ⟨rfl, -⟩, -⟩
    exact Nat.le_of_ble_eq_true rfl
  · rintro av g Q ⟨⟨m, sh, nx⟩, ⟨rfl, ⟨h1, h2, h3, h4, h5⟩⟩, hQ⟩
    dsimp only at hQ h1 h3 h4
    have loop : ∀ d k, k + d = m → xm_go xs_X xk_X2_meetings [xt_J6_bitCount_0f7a4] xc_X2_meetings Q (xm_drop 4 xc_X2_meetings) [.ref 49, .int (vSum (fun p => nI (ub_ct (nx p))) k), .int (nI k)] [] g := by
      intro d
      induction d with
      | zero =>
        intro k hk
        have hk : k = m := by omega
        subst hk
        refine xm_run_go hm 20 ⟨fun _ => hQ, fun q => ?_⟩
        rw [h1] at q
        exact absurd q (nI_nlt (Nat.le_refl _) (by omega))
      | succ d ih =>
        intro k hk
        have nx1 := ih (k + 1) (by omega)
        rw [nI_succ] at nx1
        obtain ⟨b1, b2⟩ := h3 k (by omega)
        simp only [vSum, ← xBc_ct _ b2, ← b1] at nx1
        refine xm_run_go hm 20 ⟨fun q => ?_, fun _ => ⟨k, ⟨by omega, rfl⟩, (_), ⟨rfl, trivial⟩, xm_cut hm nx1⟩⟩
        rw [h1] at q
        exact absurd q (nI_ge (by omega) (by omega))
    exact xm_run_go hm 10 (xm_cut hm (loop m 0 (by omega)))
/-- those who have a friend, among the first k -/
def vBf (nx : Nat → Nat) : Nat → Nat
  | 0 => 0
  | k + 1 => if nx k = 0 then vBf nx k else vBf nx k ||| (nx k ||| 2 ^ k)
theorem vBf_lt {nx : Nat → Nat} {m : Nat} (h : ∀ p, p < m → nx p < 64) (hm : m ≤ 6) : ∀ k, k ≤ m → vBf nx k < 64
  | 0, _ => by simp [vBf]
  | k + 1, hk => by
    have ih := vBf_lt h hm k (by omega)
    unfold vBf
    split
    · exact ih
    · exact ub_orlt ih (ub_orlt (h k (by omega)) (ub_pow (by omega)))
def xt_X2_lonelyOnes : xT := xm_fn (Z := Nat × Nat × (Nat → Nat)) (fun (m, sh, nx) av g => av = [.ref 49] ∧ xRows m sh nx g) (fun (m, sh, nx) _ => some (.int (nI ((2 ^ m - 1) &&& (63 ^^^ vBf nx m))))) (fun _ g => g)
set_option maxRecDepth 100000 in
set_option maxHeartbeats 4000000 in
theorem xp_X2_lonelyOnes {l : Launch} {D : va_G} {cA : Nat → ClassId} {B : List (Nat × Cell)} : xm_Met l D cA B xs_X 0 yX2_lonelyOnes cX2_lonelyOnes 3 (some .int) xt_X2_lonelyOnes := by
  have hm : xm_monos [] := xm_m0
  refine xm_meth (own := RX2) (ks := xk_X2_lonelyOnes) (C := xc_X2_lonelyOnes) (Ts := []) (by decide +kernel) rfl xm_clsok xs_X_ok xf_X2_ok xi_X2_ok xj_X2_ok xm_lk0 xo_X2_lonelyOnes ?_ ?_
  · rintro av g Q ⟨z, ⟨rfl, -⟩, -⟩
    exact Nat.le_of_ble_eq_true rfl
  · rintro av g Q ⟨⟨m, sh, nx⟩, ⟨rfl, ⟨h1, h2, h3, h4, h5⟩⟩, hQ⟩
    dsimp only at hQ h1 h3 h4
    have lt := vBf_lt (fun p hp => (h3 p hp).2) h4
    have m64 : 2 ^ m - 1 < 64 := by have : 2 ^ m ≤ 2 ^ 6 := Nat.pow_le_pow_right (by omega) h4; omega
    have loop : ∀ d k, k + d = m → xm_go xs_X xk_X2_lonelyOnes [] xc_X2_lonelyOnes Q (xm_drop 4 xc_X2_lonelyOnes) [.ref 49, .int (nI (vBf nx k)), .int (nI k)] [] g := by
      intro d
      induction d with
      | zero =>
        intro k hk
        have hk : k = m := by omega
        subst hk
        have e := ub_less _ m64 _ (lt k (Nat.le_refl _))
        rw [← e, ← ub_all k h4, ← h1] at hQ
        refine xm_run_go hm 30 ⟨fun _ => hQ, fun q => ?_⟩
        rw [h1] at q
        exact absurd q (nI_nlt (Nat.le_refl _) (by omega))
      | succ d ih =>
        intro k hk
        obtain ⟨b1, b2⟩ := h3 k (by omega)
        have nx1 := ih (k + 1) (by omega)
        rw [nI_succ] at nx1
        refine xm_run_go hm 30 ⟨fun q => ?_, fun _ => ⟨k, ⟨by omega, rfl⟩, ⟨fun q => xm_cut hm ?_, fun q => ⟨k, ⟨by omega, rfl⟩, xm_cut hm ?_⟩⟩⟩⟩
        · rw [h1] at q
          exact absurd q (nI_ge (by omega) (by omega))
        · rw [b1] at q
          have : nx k = 0 := (nI_eq (b := 0) (by omega) (by omega)).mp q
          simp only [vBf, this, if_true] at nx1
          exact nx1
        · rw [b1] at q
          have hz : nx k ≠ 0 := fun z => q (by rw [z]; rfl)
          simp only [vBf, if_neg hz] at nx1
          rw [← ub_or _ (lt k (by omega)) _ (ub_orlt b2 (ub_pow (by omega))), ← ub_or1 _ b2 k (by omega), ← b1] at nx1
          exact nx1
    exact xm_run_go hm 10 (xm_cut hm (loop m 0 (by omega)))
/-- all who can stand behind one of a set -/
def vAn (nx : Nat → Nat) (u : Nat) : Nat → Nat
  | 0 => 0
  | k + 1 => if u.testBit k then vAn nx u k ||| nx k else vAn nx u k
theorem vAn_lt {nx : Nat → Nat} {m u : Nat} (h : ∀ p, p < m → nx p < 64) : ∀ k, k ≤ m → vAn nx u k < 64
  | 0, _ => by simp [vAn]
  | k + 1, hk => by
    have ih := vAn_lt (u := u) h k (by omega)
    unfold vAn
    split
    · exact ub_orlt ih (h k (by omega))
    · exact ih
def xt_X2_allNext : xT := xm_fn (Z := Nat × Nat × Nat × (Nat → Nat)) (fun (u, m, sh, nx) av g => av = [.ref 49, .int (nI u)] ∧ u < 64 ∧ xRows m sh nx g) (fun (u, m, sh, nx) _ => some (.int (nI (vAn nx u m)))) (fun _ g => g)
set_option maxRecDepth 100000 in
set_option maxHeartbeats 4000000 in
theorem xp_X2_allNext {l : Launch} {D : va_G} {cA : Nat → ClassId} {B : List (Nat × Cell)} : xm_Met l D cA B xs_X 1 yX2_allNext cX2_allNext 4 (some .int) xt_X2_allNext := by
  have hm : xm_monos [xt_X2_has] := ⟨(by first | exact xm_fn_mono _ _ _ | exact xm_rl_mono _ _), trivial⟩
  refine xm_meth (own := RX2) (ks := xk_X2_allNext) (C := xc_X2_allNext) (Ts := [xt_X2_has]) (by decide +kernel) rfl xm_clsok xs_X_ok xf_X2_ok xi_X2_ok xj_X2_ok (xm_lk xl_X2_70 xp_X2_has (by decide) xm_lk0) xo_X2_allNext ?_ ?_
  · rintro av g Q ⟨z, ⟨rfl, -⟩, -⟩
    exact Nat.le_of_ble_eq_true rfl
  · rintro av g Q ⟨⟨u, m, sh, nx⟩, ⟨rfl, hu, ⟨h1, h2, h3, h4, h5⟩⟩, hQ⟩
    dsimp only at hQ h1 h3 h4 hu
    have lt := vAn_lt (u := u) (fun p hp => (h3 p hp).2)
    have loop : ∀ d k, k + d = m → xm_go xs_X xk_X2_allNext [xt_X2_has] xc_X2_allNext Q (xm_drop 4 xc_X2_allNext) [.ref 49, .int (nI u), .int (nI (vAn nx u k)), .int (nI k)] [] g := by
      intro d
      induction d with
      | zero =>
        intro k hk
        have hk : k = m := by omega
        subst hk
        refine xm_run_go hm 30 ⟨fun _ => hQ, fun q => ?_⟩
        rw [h1] at q
        exact absurd q (nI_nlt (Nat.le_refl _) (by omega))
      | succ d ih =>
        intro k hk
        obtain ⟨b1, b2⟩ := h3 k (by omega)
        have hk6 : k < 6 := by omega
        have nx1 := ih (k + 1) (by omega)
        rw [nI_succ] at nx1
        refine xm_run_go hm 30 ⟨fun q => ?_, fun _ => ⟨(u, k), ⟨rfl, hu, hk6⟩, ⟨fun q => xm_cut hm ?_, fun q => ⟨k, ⟨hk6, rfl⟩, xm_cut hm ?_⟩⟩⟩⟩
        · rw [h1] at q
          exact absurd q (nI_ge (by omega) (by omega))
        · cases z : u.testBit k with
          | true => rw [z] at q; exact absurd q (by decide)
          | false => simp only [vAn, z] at nx1; exact nx1
        · cases z : u.testBit k with
          | false => rw [z] at q; exact absurd rfl q
          | true =>
            simp only [vAn, z, if_true] at nx1
            rw [← ub_or _ (lt k (by omega)) _ b2, ← b1] at nx1
            exact nx1
    exact xm_run_go hm 10 (xm_cut hm (loop m 0 (by omega)))
def vSteps (nx : Nat → Nat) (m to : Nat) : Nat → Nat → Nat → Int32
  | 0, _, _ => -2
  | d + 1, n, u => if u.testBit to then nI n else vSteps nx m to d (n + 1) (u ||| vAn nx u m)
def xt_X2_steps : xT := xm_fn (Z := Nat × Nat × Nat × Nat × (Nat → Nat)) (fun (a, b, m, sh, nx) av g => av = [.ref 49, .int (nI a), .int (nI b)] ∧ a < 6 ∧ b < 6 ∧ xRows m sh nx g) (fun (a, b, m, sh, nx) _ => some (.int (vSteps nx m b m 0 (2 ^ a)))) (fun _ g => g)
set_option maxRecDepth 100000 in
set_option maxHeartbeats 4000000 in
theorem xp_X2_steps {l : Launch} {D : va_G} {cA : Nat → ClassId} {B : List (Nat × Cell)} : xm_Met l D cA B xs_X 2 yX2_steps cX2_steps 5 (some .int) xt_X2_steps := by
  have hm : xm_monos [xt_X2_has, xt_X2_allNext] := ⟨(by first | exact xm_fn_mono _ _ _ | exact xm_rl_mono _ _), (by first | exact xm_fn_mono _ _ _ | exact xm_rl_mono _ _), trivial⟩
  refine xm_meth (own := RX2) (ks := xk_X2_steps) (C := xc_X2_steps) (Ts := [xt_X2_has, xt_X2_allNext]) (by decide +kernel) rfl xm_clsok xs_X_ok xf_X2_ok xi_X2_ok xj_X2_ok (xm_lk xl_X2_70 xp_X2_has (by decide) (xm_lk xl_X2_95 xp_X2_allNext (by decide) xm_lk0)) xo_X2_steps ?_ ?_
  · rintro av g Q ⟨z, ⟨rfl, -⟩, -⟩
    exact Nat.le_of_ble_eq_true rfl
  · rintro av g Q ⟨⟨a, b, m, sh, nx⟩, ⟨rfl, ha, hb, hr⟩, hQ⟩
    dsimp only at hQ ha hb hr
    obtain ⟨h1, h2, h3, h4, h5⟩ := id hr
    have lt := fun u => vAn_lt (u := u) (fun p hp => (h3 p hp).2) m (Nat.le_refl _)
    have loop : ∀ d n u, n + d = m → u < 64 → vSteps nx m b d n u = vSteps nx m b m 0 (2 ^ a) → xm_go xs_X xk_X2_steps [xt_X2_has, xt_X2_allNext] xc_X2_steps Q (xm_drop 6 xc_X2_steps) [.ref 49, .int (nI a), .int (nI b), .int (nI u), .int (nI n)] [] g := by
      intro d
      induction d with
      | zero =>
        intro n u hn hu hv
        refine xm_run_go hm 30 ⟨fun _ => xq_i hQ hv, fun q => ?_⟩
        rw [h1] at q
        exact absurd q (nI_nlt (by omega) (by omega))
      | succ d ih =>
        intro n u hn hu hv
        have e1 : nI n + 1 = nI (n + 1) := nI_1 n
        refine xm_run_go hm 30 ⟨fun q => ?_, fun _ => ⟨(u, b), ⟨rfl, hu, hb⟩, ⟨fun q => ⟨(u, m, sh, nx), ⟨rfl, hu, hr⟩, xm_cut hm ?_⟩, fun q => ?_⟩⟩⟩
        · rw [h1] at q
          exact absurd q (nI_ge (by omega) (by omega))
        · cases z : u.testBit b with
          | true => rw [z] at q; exact absurd q (by decide)
          | false =>
            simp only [vSteps, z] at hv
            have := ih (n + 1) (u ||| vAn nx u m) (by omega) (ub_orlt hu (lt u)) hv
            rw [← e1, ← ub_or _ hu _ (lt u)] at this
            exact this
        · cases z : u.testBit b with
          | false => rw [z] at q; exact absurd rfl q
          | true =>
            simp only [vSteps, z, if_true] at hv
            exact xq_i hQ hv
    have st := loop m 0 (2 ^ a) (by omega) (ub_pow ha) rfl
    rw [← ub_one a ha] at st
    exact xm_run_go hm 10 (xm_cut hm st)
