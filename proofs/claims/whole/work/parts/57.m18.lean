-- two who place people by turns
def vMay (nx : Nat → Nat) (t : vSt) (c : vSc) (L u p : Nat) : Bool := vLeft (tM t) u p && (decide (0 ≤ vPic t c p) && (decide (L = 7) || (nx L).testBit p))
def xt_X9_mayPut : xT := xm_fn (Z := Nat × Int32 × Nat × Nat × Nat × vSt × vSc) (fun (L, x, p, u, lv, t, c) av g => av = [.ref 0, .int x, .int (nI p), .int (nI u)] ∧ mLa L (tM t) x ∧ p < 6 ∧ u < 64 ∧ mIn lv t c g ∧ mDq lv (tM t) (vNx t c) g) (fun (L, x, p, u, lv, t, c) _ => some (.int (if vMay (vNx t c) t c L u p then 1 else 0))) (fun _ g => g)
set_option maxRecDepth 100000 in
set_option maxHeartbeats 400000 in
theorem xp_X9_mayPut {l : Launch} {D : va_G} {cA : Nat → ClassId} {B : List (Nat × Cell)} : xm_Met l D cA B xs_M 3 yX9_mayPut cX9_mayPut 4 (some .boolean) xt_X9_mayPut := by
  have hm : xm_monos [xt_X9_isLeft, xt_X9_pictureOf] := ⟨(by first | exact xm_fn_mono _ _ _ | exact xm_rl_mono _ _), (by first | exact xm_fn_mono _ _ _ | exact xm_rl_mono _ _), trivial⟩
  refine xm_meth (own := RX9) (ks := xk_X9_mayPut) (C := xc_X9_mayPut) (Ts := [xt_X9_isLeft, xt_X9_pictureOf]) (by decide +kernel) rfl xm_clsok xs_M_ok xf_X9_ok xi_X9_ok xj_X9_ok (xm_lk xl_X9_433 xp_X9_isLeft (by decide) (xm_lk xl_X9_336 xp_X9_pictureOf (by decide) xm_lk0)) xo_X9_mayPut ?_ ?_
  · rintro av g Q ⟨z, ⟨rfl, -⟩, -⟩
    exact Nat.le_of_ble_eq_true rfl
  · rintro av g Q ⟨⟨L, x, p, u, lv, t, c⟩, ⟨rfl, hL, hp, hu, h, d⟩, hQ⟩
    dsimp only at hL hp hu h d hQ
    have m6 := h.m6
    unfold vMay at hQ
    have no : ∀ {b : Bool}, b = false → (0 : Int32) = if b then 1 else 0 := fun {b} h => by rw [h]; rfl
    have ye : ∀ {b : Bool}, b = true → (1 : Int32) = if b then 1 else 0 := fun {b} h => by rw [h]; rfl
    rcases hL with ⟨rfl, rfl⟩ | ⟨hL, rfl⟩
    · refine xm_run_go hm 40 ⟨(p, u, lv, tM t, vNx t c), ⟨rfl, hp, hu, d⟩, ⟨fun z => ⟨Or.inl rfl, xq_i hQ (no ?_)⟩, fun z => ⟨(p, lv, t, c), ⟨rfl, hp, h⟩, ⟨fun y => ⟨Or.inl rfl, xq_i hQ (no ?_)⟩, fun y => ⟨fun _ => ⟨Or.inr rfl, xq_i hQ (ye ?_)⟩, fun x => absurd x (by decide)⟩⟩⟩⟩⟩
      · rw [bi_if.mp z, Bool.false_and]
      · rw [decide_eq_false (Int32.not_le.mpr y), Bool.false_and, Bool.and_false]
      · have : vLeft (tM t) u p = true := by
          cases hh : vLeft (tM t) u p with
          | true => rfl
          | false => rw [hh] at z; exact absurd rfl z
        rw [this, decide_eq_true y]; rfl
    · have ix : 6 * nI L + nI p = nI (6 * L + p) := xn_6 L p
      have jv := d.2.2.2.2.2 L p (by omega) hp
      rw [decide_eq_true hL, Bool.true_and] at jv
      have L7 : decide (L = 7) = false := decide_eq_false (by omega)
      refine xm_run_go hm 40 ⟨(p, u, lv, tM t, vNx t c), ⟨rfl, hp, hu, d⟩, ⟨fun z => ⟨Or.inl rfl, xq_i hQ (no ?_)⟩, fun z => ⟨(p, lv, t, c), ⟨rfl, hp, h⟩, ⟨fun y => ⟨Or.inl rfl, xq_i hQ (no ?_)⟩, fun y => ⟨fun x => absurd x (nI_pos (by omega)), fun _ => ⟨6 * L + p, ⟨by omega, ix⟩, ⟨fun x => ⟨Or.inl rfl, xq_i hQ (no ?_)⟩, fun x => ⟨Or.inr rfl, xq_i hQ (ye ?_)⟩⟩⟩⟩⟩⟩⟩⟩
      · rw [bi_if.mp z, Bool.false_and]
      · rw [decide_eq_false (Int32.not_le.mpr y), Bool.false_and, Bool.and_false]
      · rw [jv] at x
        rw [bi_if.mp x, L7, Bool.false_or, Bool.and_false, Bool.and_false]
      · have : vLeft (tM t) u p = true := by
          cases hh : vLeft (tM t) u p with
          | true => rfl
          | false => rw [hh] at z; exact absurd rfl z
        rw [jv] at x
        have x1 : (vNx t c L).testBit p = true := by
          cases hh : (vNx t c L).testBit p with
          | true => rfl
          | false => rw [hh] at x; exact absurd rfl x
        rw [this, decide_eq_true y, x1, Bool.or_true]; rfl
def mRg (nx : Nat → Nat) (m u L : Nat) : Nat := if vWin nx m (vMs u m) L u then 1 else 0
def vWo (nx : Nat → Nat) (t : vSt) (c : vSc) (L u : Nat) : Int32 := vFirst (fun p => vMay nx t c L u p && !vWin nx (tM t) (vMs (u ||| 2 ^ p) (tM t)) p (u ||| 2 ^ p)) (tM t) 0
def xt_X9_wonWith : xT := xm_fn (Z := Nat × Int32 × Nat × Nat × vSt × vSc) (fun (L, x, u, lv, t, c) av g => av = [.ref 0, .int x, .int (nI u)] ∧ mLa L (tM t) x ∧ u < 2 ^ tM t ∧ mIn lv t c g ∧ mDq lv (tM t) (vNx t c) g ∧ mTb (mRg (vNx t c) (tM t)) (u + 1) (tM t) g) (fun (L, x, u, lv, t, c) _ => some (.int (vWo (vNx t c) t c L u))) (fun _ g => g)
set_option maxRecDepth 100000 in
set_option maxHeartbeats 400000 in
theorem xp_X9_wonWith {l : Launch} {D : va_G} {cA : Nat → ClassId} {B : List (Nat × Cell)} : xm_Met l D cA B xs_M 4 yX9_wonWith cX9_wonWith 4 (some .int) xt_X9_wonWith := by
  have hm : xm_monos [xt_X9_mayPut, xt_X9_restWith] := ⟨(by first | exact xm_fn_mono _ _ _ | exact xm_rl_mono _ _), (by first | exact xm_fn_mono _ _ _ | exact xm_rl_mono _ _), trivial⟩
  refine xm_meth (own := RX9) (ks := xk_X9_wonWith) (C := xc_X9_wonWith) (Ts := [xt_X9_mayPut, xt_X9_restWith]) (by decide +kernel) rfl xm_clsok xs_M_ok xf_X9_ok xi_X9_ok xj_X9_ok (xm_lk xl_X9_454 xp_X9_mayPut (by decide) (xm_lk xl_X9_436 xp_X9_restWith (by decide) xm_lk0)) xo_X9_wonWith ?_ ?_
  · rintro av g Q ⟨z, ⟨rfl, -⟩, -⟩
    exact Nat.le_of_ble_eq_true rfl
  · rintro av g Q ⟨⟨L, x, u, lv, t, c⟩, ⟨rfl, hL, hu, h, d0, tb⟩, hQ⟩
    dsimp only at hL hu h d0 tb hQ
    have m6 := h.m6
    have p64 := p2_le m6
    unfold vWo at hQ
    have loop : ∀ d p, p + d = tM t → vFirst (fun p => vMay (vNx t c) t c L u p && !vWin (vNx t c) (tM t) (vMs (u ||| 2 ^ p) (tM t)) p (u ||| 2 ^ p)) d p = vFirst (fun p => vMay (vNx t c) t c L u p && !vWin (vNx t c) (tM t) (vMs (u ||| 2 ^ p) (tM t)) p (u ||| 2 ^ p)) (tM t) 0 → xm_go xs_M xk_X9_wonWith [xt_X9_mayPut, xt_X9_restWith] xc_X9_wonWith Q (xm_drop 2 xc_X9_wonWith) [.ref 0, .int x, .int (nI u), .int (nI p)] [] g := by
      intro d
      induction d with
      | zero =>
        intro p hp hv
        refine xm_run_go hm 20 ⟨lv, ⟨h.lv, h.l⟩, ⟨fun _ => xq_i hQ hv, fun z => ?_⟩⟩
        rw [h.m] at z
        exact absurd z (nI_nlt (by omega) (by omega))
      | succ d ih =>
        intro p hp hv
        have pm : p < tM t := by omega
        have p6 : p < 6 := by omega
        have u64 : u < 64 := by omega
        have nx1 : (vMay (vNx t c) t c L u p && !vWin (vNx t c) (tM t) (vMs (u ||| 2 ^ p) (tM t)) p (u ||| 2 ^ p)) = false → xm_go xs_M xk_X9_wonWith [xt_X9_mayPut, xt_X9_restWith] xc_X9_wonWith Q (xm_drop 2 xc_X9_wonWith) [.ref 0, .int x, .int (nI u), .int (nI p + 1)] [] g := fun z => by
          rw [nI_1]
          exact ih (p + 1) (by omega) (by rw [← hv, vFirst, z]; rfl)
        refine xm_run_go hm 40 ⟨lv, ⟨h.lv, h.l⟩, ⟨fun z => ?_, fun _ => ⟨(L, x, p, u, lv, t, c), ⟨rfl, hL, p6, u64, h, d0⟩, ⟨fun z => xm_cut hm (nx1 ?_), fun z => ⟨(u, p), ⟨rfl, p6, u64⟩, ⟨fun y => xm_cut hm (nx1 ?_), fun y => xq_i hQ ?_⟩⟩⟩⟩⟩⟩
        · rw [h.m] at z
          exact absurd z (nI_ge pm (by omega))
        · rw [bi_if.mp z, Bool.false_and]
        · have my : vMay (vNx t c) t c L u p = true := by
            cases hh : vMay (vNx t c) t c L u p with
            | true => rfl
            | false => rw [hh] at z; exact absurd rfl z
          have hb : u.testBit p = false := by
            unfold vMay vLeft at my
            cases hh : u.testBit p with
            | false => rfl
            | true => rw [hh] at my; simp at my
          rw [tb _ (ub_or_gt hb) (ub_or_lt2 hu pm) p pm, mRg] at y
          cases hw : vWin (vNx t c) (tM t) (vMs (u ||| 2 ^ p) (tM t)) p (u ||| 2 ^ p) with
          | true => rw [Bool.not_true, Bool.and_false]
          | false => rw [hw] at y; exact absurd rfl y
        · have my : vMay (vNx t c) t c L u p = true := by
            cases hh : vMay (vNx t c) t c L u p with
            | true => rfl
            | false => rw [hh] at z; exact absurd rfl z
          have hb : u.testBit p = false := by
            unfold vMay vLeft at my
            cases hh : u.testBit p with
            | false => rfl
            | true => rw [hh] at my; simp at my
          rw [tb _ (ub_or_gt hb) (ub_or_lt2 hu pm) p pm, mRg] at y
          have hw : vWin (vNx t c) (tM t) (vMs (u ||| 2 ^ p) (tM t)) p (u ||| 2 ^ p) = false := by
            cases hw : vWin (vNx t c) (tM t) (vMs (u ||| 2 ^ p) (tM t)) p (u ||| 2 ^ p) with
            | false => rfl
            | true => rw [hw] at y; exact absurd y (by decide)
          rw [← hv, vFirst, my, hw]; rfl
    exact xm_run_go hm 10 (xm_cut hm (loop (tM t) 0 (by omega) rfl))
theorem vFirst_or (c : Nat → Bool) : ∀ d k, (vFirst c d k = -2 ∧ ∀ j, k ≤ j → j < k + d → c j = false) ∨ ∃ j, k ≤ j ∧ j < k + d ∧ c j = true ∧ vFirst c d k = nI j
  | 0, k => Or.inl ⟨rfl, fun j h1 h2 => absurd h1 (by omega)⟩
  | d + 1, k => by
    rw [vFirst]
    cases h : c k with
    | true => exact Or.inr ⟨k, by omega, by omega, h, rfl⟩
    | false =>
      simp only [Bool.false_eq_true, if_false]
      rcases vFirst_or c d (k + 1) with ⟨h1, h2⟩ | ⟨j, h1, h2, h3, h4⟩
      · refine Or.inl ⟨h1, fun j q1 q2 => ?_⟩
        by_cases z : j = k
        · rw [z]; exact h
        · exact h2 j (by omega) (by omega)
      · exact Or.inr ⟨j, by omega, by omega, h3, h4⟩
theorem vFirst_cong {c c' : Nat → Bool} : ∀ d k, (∀ j, k ≤ j → j < k + d → c j = c' j) → vFirst c d k = vFirst c' d k
  | 0, _, _ => rfl
  | d + 1, k, h => by rw [vFirst, vFirst, h k (by omega) (by omega), vFirst_cong d (k + 1) (fun j h1 h2 => h j (by omega) (by omega))]
theorem vWo_win {t : vSt} {c : vSc} (ht : vTok t) {L u : Nat} (hL : L < tM t) : vWo (vNx t c) t c L u < 0 ↔ vWin (vNx t c) (tM t) (vMs u (tM t)) L u = false := by
  have m6 := ht.2.1
  have may : ∀ p, p < tM t → vMay (vNx t c) t c L u p = ((vNx t c L).testBit p && !u.testBit p) := fun p hp => by
    unfold vMay vLeft
    rw [decide_eq_true hp, Bool.true_and, decide_eq_false (show ¬ L = 7 by omega), Bool.false_or]
    cases hn : (vNx t c L).testBit p with
    | false => rw [Bool.and_false, Bool.and_false, Bool.false_and]
    | true =>
      have : 0 ≤ vPic t c p := (uB_bit.mp hn).2.2.2.1
      rw [decide_eq_true this, Bool.true_and, Bool.and_true, Bool.true_and]
  have key : (∀ j, 0 ≤ j → j < 0 + tM t → (vMay (vNx t c) t c L u j && !vWin (vNx t c) (tM t) (vMs (u ||| 2 ^ j) (tM t)) j (u ||| 2 ^ j)) = false) ↔ vWin (vNx t c) (tM t) (vMs u (tM t)) L u = false := by
    cases hf : vMs u (tM t) with
    | zero =>
      refine ⟨fun _ => rfl, fun _ j _ hj => ?_⟩
      rw [may j (by omega), vMs_zero hf j (by omega), Bool.not_true, Bool.and_false, Bool.false_and]
    | succ f =>
      rw [vWin, vAny_f]
      have e : ∀ p, p < tM t → u.testBit p = false → vMs (u ||| 2 ^ p) (tM t) = f := fun p hp hb => by have := vMs_in hp hb; omega
      constructor
      · intro q p hp
        have := q p (by omega) (by omega)
        rw [may p hp] at this
        cases hb : u.testBit p with
        | true => rw [Bool.not_true, Bool.and_false, Bool.false_and]
        | false => rw [e p hp hb, hb] at this; exact this
      · intro q p _ hp
        have := q p (by omega)
        rw [may p (by omega)]
        cases hb : u.testBit p with
        | true => rw [Bool.not_true, Bool.and_false, Bool.false_and]
        | false => rw [e p (by omega) hb]; rw [hb] at this; exact this
  rcases vFirst_or (fun p => vMay (vNx t c) t c L u p && !vWin (vNx t c) (tM t) (vMs (u ||| 2 ^ p) (tM t)) p (u ||| 2 ^ p)) (tM t) 0 with ⟨h1, h2⟩ | ⟨j, h1, h2, h3, h4⟩
  · refine ⟨fun _ => key.mp h2, fun _ => ?_⟩
    rw [vWo, h1]; decide
  · refine ⟨fun z => ?_, fun z => ?_⟩
    · rw [vWo, h4] at z; exact absurd z (nI_pos (by omega))
    · have := key.mpr z j h1 h2
      rw [show (vMay (vNx t c) t c L u j && !vWin (vNx t c) (tM t) (vMs (u ||| 2 ^ j) (tM t)) j (u ||| 2 ^ j)) = true from h3] at this
      cases this
theorem vWo_st {t : vSt} {c : vSc} (ht : vTok t) : vWo (vNx t c) t c 7 0 = vWst (tM t) (vSh t c) (vNx t c) := by
  unfold vWo vWst
  refine vFirst_cong _ _ fun p _ hp => ?_
  have hp : p < tM t := by omega
  have e : vMs (0 ||| 2 ^ p) (tM t) = tM t - 1 := by have := vMs_one hp; omega
  rw [e, Nat.zero_or]
  congr 1
  unfold vMay vLeft
  rw [decide_eq_true hp, Nat.zero_testBit, Bool.not_false, Bool.and_true, Bool.true_and, decide_eq_true (rfl : 7 = 7), Bool.true_or, Bool.and_true, Bool.eq_iff_iff, decide_eq_true_eq]
  exact ⟨fun z => uB_bit.mpr ⟨hp, z⟩, fun z => (uB_bit.mp z).2⟩
def xt_X9_game : xT := xm_rl (Z := vS × Int32) (fun (σ, w) av g => av = [.ref 0, .int w] ∧ mTop σ g) (fun (σ, w) g o g' => o = some (.int (aGame σ w)) ∧ mTop σ g')
set_option maxRecDepth 100000 in
set_option maxHeartbeats 400000 in
theorem xp_X9_game {l : Launch} {D : va_G} {cA : Nat → ClassId} {B : List (Nat × Cell)} : xm_Met l D cA B xs_M 5 yX9_game cX9_game 4 (some .int) xt_X9_game := by
  have hm : xm_monos [xt_X9_in, xt_X9_fillsJoins, xt_X9_all, xt_X9_wonWith] := ⟨(by first | exact xm_fn_mono _ _ _ | exact xm_rl_mono _ _), (by first | exact xm_fn_mono _ _ _ | exact xm_rl_mono _ _), (by first | exact xm_fn_mono _ _ _ | exact xm_rl_mono _ _), (by first | exact xm_fn_mono _ _ _ | exact xm_rl_mono _ _), trivial⟩
  refine xm_meth (own := RX9) (ks := xk_X9_game) (C := xc_X9_game) (Ts := [xt_X9_in, xt_X9_fillsJoins, xt_X9_all, xt_X9_wonWith]) (by decide +kernel) rfl xm_clsok xs_M_ok xf_X9_ok xi_X9_ok xj_X9_ok (xm_lk xl_X9_307 xp_X9_in (by decide) (xm_lk xl_X9_427 xp_X9_fillsJoins (by decide) (xm_lk xl_X9_430 xp_X9_all (by decide) (xm_lk xl_X9_457 xp_X9_wonWith (by decide) xm_lk0)))) xo_X9_game ?_ ?_
  · rintro av g Q ⟨z, ⟨rfl, -⟩, -⟩
    exact Nat.le_of_ble_eq_true rfl
  · rintro av g Q ⟨⟨σ, w⟩, ⟨rfl, ⟨lv, h⟩⟩, hQ⟩
    dsimp only at h hQ
    have m6 := h.m6
    have hl := h.lv
    rcases vDo_or (m := 2) w (by omega) with hv | ⟨w, hv, rfl⟩
    · have fin := hQ (some (.int (-1))) g ⟨by rw [aGame, if_neg (fun e => hv (by rw [e]; decide)), if_neg (fun e => hv (by rw [e]; decide))], lv, h⟩
      refine xm_run_go hm 30 ⟨(w, 0, 1), ⟨rfl, trivial⟩, ⟨fun z => ?_, fun _ => fin⟩⟩
      exact absurd (vIn_n (k := 1) rfl (by omega) hv) z
    have z2 := vIn_y (k := 1) (hi := 1) rfl (by omega) hv
    refine xm_run_go hm 40 ⟨(nI w, 0, 1), ⟨rfl, trivial⟩, ⟨fun _ => ⟨(lv, σ), ⟨rfl, h⟩, ?_⟩, fun z => ?_⟩⟩
    · rintro o g0 ⟨rfl, i0, f0, d0, -, -⟩
      have p64 := p2_le m6
      have p0 := p2_pos (tM (sT σ))
      have fin : ∀ g1, mF37 g0 g1 → ∀ x, x = vWst (tM (sT σ)) (vSh (sT σ) (sC σ)) (vNx (sT σ) (sC σ)) → (¬ nI w = 1 → (x < 0 → Q (some (.int 2)) g1) ∧ (0 ≤ x → Q (some (.int 1)) g1)) ∧ (nI w = 1 → Q (some (.int x)) g1) := fun g1 f1 x hx => by
        have or2 : x = -2 ∨ ∃ j, j < tM (sT σ) ∧ x = nI j := by
          rw [hx]
          rcases vFirst_or (fun p => (vSh (sT σ) (sC σ)).testBit p && !vWin (vNx (sT σ) (sC σ)) (tM (sT σ)) (tM (sT σ) - 1) p (2 ^ p)) (tM (sT σ)) 0 with ⟨q, -⟩ | ⟨j, q1, q2, -, q3⟩
          · exact Or.inl q
          · exact Or.inr ⟨j, by omega, q3⟩
        refine ⟨fun z => ?_, fun z => hQ _ _ ⟨by rw [aGame, if_pos z, hx], lv, h.q (f0.tr f1.q)⟩⟩
        have w0 : nI w = 0 := by
          have : w ≠ 1 := fun e => z (by rw [e]; rfl)
          rw [show w = 0 by omega]; rfl
        refine ⟨fun y => hQ _ _ ⟨?_, lv, h.q (f0.tr f1.q)⟩, fun y => hQ _ _ ⟨?_, lv, h.q (f0.tr f1.q)⟩⟩
        · rw [aGame, if_neg z, if_pos w0, if_pos]
          rcases or2 with q | ⟨j, q1, q2⟩
          · rw [← hx]; exact q
          · rw [q2] at y; exact absurd y (nI_pos (by omega))
        · rw [aGame, if_neg z, if_pos w0, if_neg]
          intro q
          rw [← hx] at q
          rw [q] at y; exact absurd y (by decide)
      have middle : ∀ u, 0 < u → u < 2 ^ tM (sT σ) → (∀ g1, mF37 g0 g1 → mTb (mRg (vNx (sT σ) (sC σ)) (tM (sT σ))) u (tM (sT σ)) g1 → ∀ w3, xm_go xs_M xk_X9_game [xt_X9_in, xt_X9_fillsJoins, xt_X9_all, xt_X9_wonWith] xc_X9_game Q (xm_drop 12 xc_X9_game) [.ref 0, .int (nI w), .int (nI u + -1), w3] [] g1) →
          ∀ d L, L + d = tM (sT σ) → ∀ g1, mF37 g0 g1 → mTb (mRg (vNx (sT σ) (sC σ)) (tM (sT σ))) (u + 1) (tM (sT σ)) g1 → (∀ L', L' < L → g1.1 37 (6 * u + L') = nI (mRg (vNx (sT σ) (sC σ)) (tM (sT σ)) u L')) → xm_go xs_M xk_X9_game [xt_X9_in, xt_X9_fillsJoins, xt_X9_all, xt_X9_wonWith] xc_X9_game Q (xm_drop 16 xc_X9_game) [.ref 0, .int (nI w), .int (nI u), .int (nI L)] [] g1 := by
        intro u u0 hu hout d
        induction d with
        | zero =>
          intro L hL g1 f1 tb dn
          have hL : L = tM (sT σ) := by omega
          subst hL
          have d1 := d0.f f1
          refine xm_run_go hm 30 ⟨lv, ⟨hl, d1.l⟩, ⟨fun _ => xm_cut hm (hout g1 f1 (fun v hv1 hv2 L' hL' => ?_) _), fun z => ?_⟩⟩
          · by_cases z : v = u
            · rw [z]; exact dn L' hL'
            · exact tb v (by omega) hv2 L' hL'
          · rw [d1.m] at z
            exact absurd z (nI_nlt (Nat.le_refl _) (by omega))
        | succ d ih =>
          intro L hL g1 f1 tb dn
          have d1 := d0.f f1
          have i1 := i0.f f1
          have Lm : L < tM (sT σ) := by omega
          have nx1 := ih (L + 1) (by omega)
          rw [nI_succ] at nx1
          have ix : 6 * nI u + nI L = nI (6 * u + L) := xn_6 u L
          have wo := vWo_win (c := sC σ) h.1.1 (L := L) (u := u) Lm
          have go : ∀ x, x = nI (mRg (vNx (sT σ) (sC σ)) (tM (sT σ)) u L) → xm_go xs_M xk_X9_game [xt_X9_in, xt_X9_fillsJoins, xt_X9_all, xt_X9_wonWith] xc_X9_game Q (xm_drop 16 xc_X9_game) [.ref 0, .int (nI w), .int (nI u), .int (nI L + 1)] [] (xm_sI g1 37 (6 * u + L) x) := fun x hx => by
            refine nx1 _ (f1.p _ _) (fun v hv1 hv2 L' hL' => ?_) (fun L' hL' => ?_)
            · rw [xg_in, if_neg (by omega)]; exact tb v hv1 hv2 L' hL'
            · rw [xg_in]
              by_cases z : L' = L
              · rw [if_pos (by omega), z]; exact hx
              · rw [if_neg (by omega)]; exact dn L' (by omega)
          refine xm_run_go hm 60 ⟨lv, ⟨hl, d1.l⟩, ⟨fun z => ?_, fun _ => ⟨(L, nI L, u, lv, sT σ, sC σ), ⟨rfl, Or.inr ⟨Lm, rfl⟩, hu, i1, d1, tb⟩, ⟨fun z => ⟨6 * u + L, ⟨by omega, ix⟩, xm_cut hm (go _ ?_)⟩, fun z => ⟨6 * u + L, ⟨by omega, ix⟩, xm_cut hm (go _ ?_)⟩⟩⟩⟩⟩
          · rw [d1.m] at z
            exact absurd z (nI_ge Lm (by omega))
          · rw [mRg, wo.mp z]; rfl
          · have : vWin (vNx (sT σ) (sC σ)) (tM (sT σ)) (vMs u (tM (sT σ))) L u = true := by
              cases hh : vWin (vNx (sT σ) (sC σ)) (tM (sT σ)) (vMs u (tM (sT σ))) L u with
              | true => rfl
              | false => exact absurd (wo.mpr hh) (Int32.not_lt.mpr z)
            rw [mRg, this]; rfl
      have outer : ∀ u, u < 2 ^ tM (sT σ) → ∀ g1, mF37 g0 g1 → mTb (mRg (vNx (sT σ) (sC σ)) (tM (sT σ))) (u + 1) (tM (sT σ)) g1 → ∀ x, x = nI u → ∀ w3, xm_go xs_M xk_X9_game [xt_X9_in, xt_X9_fillsJoins, xt_X9_all, xt_X9_wonWith] xc_X9_game Q (xm_drop 12 xc_X9_game) [.ref 0, .int (nI w), .int x, w3] [] g1 := by
        intro u
        induction u with
        | zero =>
          intro hu g1 f1 tb x hx w3
          obtain ⟨q1, q2⟩ := fin g1 f1 _ (vWo_st (c := sC σ) h.1.1)
          refine xm_run_go hm 40 ⟨fun _ => ⟨(7, -1, 0, lv, sT σ, sC σ), ⟨rfl, Or.inl ⟨rfl, rfl⟩, p0, i0.f f1, d0.f f1, tb⟩, ⟨fun z => ⟨fun y => (q1 z).1 y, fun y => (q1 z).2 y⟩, fun z => q2 z⟩⟩, fun z => ?_⟩
          rw [hx] at z; exact absurd z (by decide)
        | succ u ih =>
          intro hu g1 f1 tb x hx w3
          subst hx
          refine xm_run_go hm 20 ⟨fun z => absurd z (nI_nle (by omega) (by omega)), fun _ => xm_cut hm (middle (u + 1) (by omega) hu (fun g2 f2 tb2 w3 => ?_) (tM (sT σ)) 0 (by omega) g1 f1 tb (fun L' hL' => absurd hL' (by omega)))⟩
          exact ih (by omega) g2 f2 tb2 _ (by rw [sb_m1 (by omega)]; rfl) _
      exact ⟨(lv, tM (sT σ), vNx (sT σ) (sC σ)), ⟨rfl, d0⟩, xm_cut hm (outer (2 ^ tM (sT σ) - 1) (by omega) g0 mF37.rf (fun v hv1 hv2 => absurd hv1 (by omega)) _ rfl _)⟩
    · rw [z2] at z; exact absurd z (by decide)
