-- the fewest slides to be thrown: 99 or 1000 for what can't be
theorem vChp_min {c : Nat → Nat} {ok : Nat → Bool} {F : Nat} : ∀ {n s : Nat}, s < n → ok s = true → (vChp c ok F n).2 ≤ c s
  | 0, s, h, _ => absurd h (by omega)
  | n + 1, s, h, hk => by
    unfold vChp
    by_cases z : s = n
    · subst z
      split
      · exact Nat.le_refl _
      · rename_i q
        rw [hk, Bool.true_and, decide_eq_true_eq] at q
        omega
    · have ih := vChp_min (c := c) (ok := ok) (F := F) (n := n) (s := s) (by omega) hk
      split
      · rename_i q
        simp only [Bool.and_eq_true, decide_eq_true_eq] at q
        exact Nat.le_trans (Nat.le_of_lt q.2) ih
      · exact ih
theorem vChp_first {c : Nat → Nat} {ok : Nat → Bool} {F : Nat} : ∀ {n : Nat}, (vChp c ok F n).2 < F → ∃ a, a < n ∧ (vChp c ok F n).1 = nI a ∧ ok a = true ∧ c a = (vChp c ok F n).2 ∧ ∀ s, s < a → ok s = true → (vChp c ok F n).2 < c s
  | 0, h => absurd h (by simp [vChp])
  | n + 1, h => by
    unfold vChp at h ⊢
    by_cases z : (ok n && decide (c n < (vChp c ok F n).2)) = true
    · rw [if_pos z] at h ⊢
      simp only [Bool.and_eq_true, decide_eq_true_eq] at z
      exact ⟨n, by omega, rfl, z.1, rfl, fun s hs hk => Nat.lt_of_lt_of_le z.2 (vChp_min hs hk)⟩
    · rw [if_neg z] at h ⊢
      obtain ⟨a, h1, h2⟩ := vChp_first h
      exact ⟨a, by omega, h2⟩
/-- the same in both measures, or in both too far -/
def vSame (x y : Nat) : Prop := (x = y ∧ x < 50) ∨ (99 ≤ x ∧ 1000 ≤ y)
theorem vChp_same {c c' : Nat → Nat} {ok : Nat → Bool} : ∀ {n : Nat}, (∀ o, o < n → vSame (c o) (c' o)) → (vChp c ok 99 n).1 = (vChp c' ok 1000 n).1 ∧ (((vChp c ok 99 n).2 = (vChp c' ok 1000 n).2 ∧ (vChp c ok 99 n).2 < 50) ∨ ((vChp c ok 99 n).2 = 99 ∧ (vChp c' ok 1000 n).2 = 1000))
  | 0, _ => ⟨rfl, Or.inr ⟨rfl, rfl⟩⟩
  | n + 1, h => by
    obtain ⟨e1, e2⟩ := vChp_same (ok := ok) (n := n) (fun o ho => h o (by omega))
    have hn := h n (by omega)
    unfold vChp
    cases hk : ok n with
    | false => simp only [Bool.false_and, Bool.false_eq_true, if_false]; exact ⟨e1, e2⟩
    | true =>
      simp only [Bool.true_and, decide_eq_true_eq]
      rcases hn with ⟨q1, q2⟩ | ⟨q1, q2⟩
      · rw [q1] at q2 ⊢
        by_cases z : c' n < (vChp c ok 99 n).2
        · rw [if_pos z, if_pos (by omega)]
          exact ⟨rfl, Or.inl ⟨rfl, q2⟩⟩
        · rw [if_neg z, if_neg (by omega)]
          exact ⟨e1, e2⟩
      · rw [if_neg (by omega), if_neg (by omega)]
        exact ⟨e1, e2⟩
theorem vCs_same (t : vSt) (c : vSc) : ∀ r s, r < 40 → (vCs t c 99 r s = vCs t c 1000 r s ∧ vCs t c 99 r s ≤ r + 1) ∨ (99 ≤ vCs t c 99 r s ∧ 1000 ≤ vCs t c 1000 r s)
  | 0, s, _ => by
    left
    refine ⟨rfl, ?_⟩
    show vAt t c (tM t - 1) s ≤ 1
    unfold vAt; split <;> omega
  | r + 1, s, hr => by
    have ih := fun o => vCs_same t c r o (by omega)
    have sm := (vChp_same (c := vCs t c 99 r) (c' := vCs t c 1000 r) (ok := fun o => decide (tL t o = tR t s)) (n := tN t) (fun o _ => by
      rcases ih o with ⟨a, b⟩ | q
      · exact Or.inl ⟨a, by omega⟩
      · exact Or.inr q)).2
    have a1 : vAt t c (tM t - 1 - (r + 1)) s ≤ 1 := by unfold vAt; split <;> omega
    simp only [vCs]
    rcases sm with ⟨q1, q2⟩ | ⟨q1, q2⟩
    · left
      refine ⟨by omega, ?_⟩
      obtain ⟨a, h1, h2, h3, h4, h5⟩ := vChp_first (c := vCs t c 99 r) (ok := fun o => decide (tL t o = tR t s)) (F := 99) (n := tN t) (by omega)
      rcases ih a with ⟨b1, b2⟩ | ⟨b1, b2⟩ <;> omega
    · right; omega
theorem vCs_sm (t : vSt) (c : vSc) {r : Nat} (hr : r < 40) (s : Nat) : vSame (vCs t c 99 r s) (vCs t c 1000 r s) := by
  rcases vCs_same t c r s hr with ⟨a, b⟩ | q
  · exact Or.inl ⟨a, by omega⟩
  · exact Or.inr q
theorem vMd_same {t : vSt} (ht : vTok t) (c : vSc) : ∀ i, vMd t c 99 i = vMd t c 1000 i
  | 0 => (vChp_same (fun o _ => vCs_sm t c (by have := ht.2.1; omega) o)).1
  | i + 1 => by
    simp only [vMd]
    rw [vMd_same ht c i, (vChp_same (fun o _ => vCs_sm t c (by have := ht.2.1; omega) o)).1]
def vMend9 (t : vSt) (c : vSc) (i : Int32) : Int32 :=
  if tM t = 0 then 0 else if vMd t c 99 0 < 0 then -2 else if i = -1 then nI (vChp (vCs t c 99 (tM t - 1)) (fun _ => true) 99 (tN t)).2 else vMd t c 99 i.toNatClampNeg
theorem vMend_9 {t : vSt} (ht : vTok t) (c : vSc) (i : Int32) : vMended t c i = vMend9 t c i := by
  unfold vMended vMend9
  have n5 := ht.1
  by_cases m0 : tM t = 0
  · rw [if_pos m0, if_pos m0]
  · rw [if_neg m0, if_neg m0, vMd_same ht c 0]
    by_cases z : vMd t c 1000 0 < 0
    · rw [if_pos z, if_pos z]
    · rw [if_neg z, if_neg z, vMd_same ht c]
      by_cases y : i = -1
      · rw [if_pos y, if_pos y]
        obtain ⟨e1, e2⟩ := vChp_same (c := vCs t c 99 (tM t - 1)) (c' := vCs t c 1000 (tM t - 1)) (ok := fun _ => true) (n := tN t) (fun o _ => vCs_sm t c (by have := ht.2.1; omega) o)
        rcases e2 with ⟨q1, q2⟩ | ⟨q1, q2⟩
        · rw [q1]
        · exfalso
          rcases vChp_pic (vCs t c 1000 (tM t - 1)) (fun _ => true) 1000 (tN t) with ⟨p1, -⟩ | ⟨s, p1, p2, p3, -⟩
          · exact z (by rw [vMd, p1]; decide)
          · have := vChp_min (c := vCs t c 99 (tM t - 1)) (ok := fun _ => true) (F := 99) p1 rfl
            have q := vCs_sm t c (r := tM t - 1) (by have := ht.2.1; omega) s
            rcases q with ⟨b1, b2⟩ | ⟨b1, b2⟩
            · omega
            · have := vChp_le (vCs t c 1000 (tM t - 1)) (fun _ => true) 1000 (tN t)
              -- the picked one is far: then it would not have been picked
              have : ∀ n, (vChp (vCs t c 1000 (tM t - 1)) (fun _ => true) 1000 n).1 = -2 ∨ (vChp (vCs t c 1000 (tM t - 1)) (fun _ => true) 1000 n).2 < 1000 := fun n => by
                induction n with
                | zero => exact Or.inl rfl
                | succ n ih =>
                  unfold vChp
                  split
                  · rename_i w
                    simp only [Bool.true_and, decide_eq_true_eq] at w
                    right
                    exact Nat.lt_of_lt_of_le w (vChp_le _ _ _ _)
                  · exact ih
              rcases this (tN t) with w | w
              · exact z (by rw [vMd, w]; decide)
              · omega
      · rw [if_neg y, if_neg y]
def xt_X9_mendAt : xT := xm_fn (Z := Nat × Nat × Nat × vSt × vSc) (fun (k, s, lv, t, c) av g => av = [.ref 0, .int (nI k), .int (nI s)] ∧ k < tM t ∧ mIn lv t c g) (fun (k, s, lv, t, c) _ => some (.int (nI (vAt t c k s)))) (fun _ g => g)
set_option maxRecDepth 100000 in
set_option maxHeartbeats 400000 in
theorem xp_X9_mendAt {l : Launch} {D : va_G} {cA : Nat → ClassId} {B : List (Nat × Cell)} : xm_Met l D cA B xs_M 2 yX9_mendAt cX9_mendAt 3 (some .int) xt_X9_mendAt := by
  have hm : xm_monos [xt_X9_pictureOf] := ⟨(by first | exact xm_fn_mono _ _ _ | exact xm_rl_mono _ _), trivial⟩
  refine xm_meth (own := RX9) (ks := xk_X9_mendAt) (C := xc_X9_mendAt) (Ts := [xt_X9_pictureOf]) (by decide +kernel) rfl xm_clsok xs_M_ok xf_X9_ok xi_X9_ok xj_X9_ok (xm_lk xl_X9_336 xp_X9_pictureOf (by decide) xm_lk0) xo_X9_mendAt ?_ ?_
  · rintro av g Q ⟨z, ⟨rfl, -⟩, -⟩
    exact Nat.le_of_ble_eq_true rfl
  · rintro av g Q ⟨⟨k, s, lv, t, c⟩, ⟨rfl, hk, h⟩, hQ⟩
    dsimp only at hk h hQ
    have m6 := h.m6
    have r1 := h.2.2.2.2.1 k (by omega)
    have l1 := (h.2.1.1 k hk).1
    have a6 : cR c k < 6 := by omega
    have ea : [Value.ref 0, .int (g.1 33 (30 + k))] = [Value.ref 0, .int (nI (cR c k))] := by rw [r1]
    unfold vAt at hQ
    refine xm_run_go hm 30 ⟨30 + k, ⟨by omega, xn_30 _⟩, (cR c k, lv, t, c), ⟨ea, a6, h⟩, ⟨fun z => xq_i hQ ?_, fun z => xq_i hQ ?_⟩⟩
    · rw [if_neg z]; rfl
    · rw [if_pos z]; rfl
def mTm (t : vSt) (c : vSc) (j : Nat) (g : xG) : Prop := ∀ k, j ≤ k → k < tM t → ∀ s, s < tN t → g.1 38 (5 * k + s) = nI (vCs t c 99 (tM t - 1 - k) s)
def mF38 (g g' : xG) : Prop := (∀ k, k ≠ 38 → g'.1 k = g.1 k) ∧ g'.2 = g.2
theorem mF38.rf {g : xG} : mF38 g g := ⟨fun _ _ => rfl, rfl⟩
theorem mF38.p {g g1 : xG} (h : mF38 g g1) (j : Nat) (v : Int32) : mF38 g (xm_sI g1 38 j v) := ⟨fun a h1 => (xg_off g1 j v h1).trans (h.1 a h1), h.2⟩
theorem mF38.q {g g' : xG} (h : mF38 g g') : mFq g g' := ⟨fun k _ _ _ _ _ _ _ q => h.1 k q, fun j _ _ _ => by rw [h.1 0 (by decide)], h.2⟩
theorem mIn.f8 {lv : Nat} {t : vSt} {c : vSc} {g g' : xG} (h : mIn lv t c g) (f : mF38 g g') : mIn lv t c g' := ⟨h.1, h.2.1, h.2.2.1.q f.q, h.2.2.2.fr (f.1 33 (by decide))⟩
theorem vCs_le9 (t : vSt) (c : vSc) (r s : Nat) : vCs t c 99 r s ≤ 100 := vCs_le t c 99 r s
def xt_X9_fillsMend : xT := xm_rl (Z := Nat × vS) (fun (lv, σ) av g => av = [.ref 0] ∧ mTp lv σ g) (fun (lv, σ) g o g' => o = none ∧ mIn lv (sT σ) (sC σ) g' ∧ mFq g g' ∧ mTm (sT σ) (sC σ) 0 g')
set_option maxRecDepth 100000 in
set_option maxHeartbeats 400000 in
theorem xp_X9_fillsMend {l : Launch} {D : va_G} {cA : Nat → ClassId} {B : List (Nat × Cell)} : xm_Met l D cA B xs_M 3 yX9_fillsMend cX9_fillsMend 5 none xt_X9_fillsMend := by
  have hm : xm_monos [xt_X9_copies, xt_X9_rightAt, xt_X9_leftAt, xt_X9_mendAt] := ⟨(by first | exact xm_fn_mono _ _ _ | exact xm_rl_mono _ _), (by first | exact xm_fn_mono _ _ _ | exact xm_rl_mono _ _), (by first | exact xm_fn_mono _ _ _ | exact xm_rl_mono _ _), (by first | exact xm_fn_mono _ _ _ | exact xm_rl_mono _ _), trivial⟩
  refine xm_meth (own := RX9) (ks := xk_X9_fillsMend) (C := xc_X9_fillsMend) (Ts := [xt_X9_copies, xt_X9_rightAt, xt_X9_leftAt, xt_X9_mendAt]) (by decide +kernel) rfl xm_clsok xs_M_ok xf_X9_ok xi_X9_ok xj_X9_ok (xm_lk xl_X9_320 xp_X9_copies (by decide) (xm_lk xl_X9_330 xp_X9_rightAt (by decide) (xm_lk xl_X9_333 xp_X9_leftAt (by decide) (xm_lk xl_X9_448 xp_X9_mendAt (by decide) xm_lk0)))) xo_X9_fillsMend ?_ ?_
  · rintro av g Q ⟨z, ⟨rfl, -⟩, -⟩
    exact Nat.le_of_ble_eq_true rfl
  · rintro av g Q ⟨⟨lv, σ⟩, ⟨rfl, h⟩, hQ⟩
    dsimp only at h hQ
    have m6 := h.m6
    have n5 := h.n5
    have hl := h.lv
    refine xm_run_go hm 30 ⟨(lv, σ), ⟨rfl, h⟩, ?_⟩
    rintro o g0 ⟨rfl, i0, f0, -, -⟩
    generalize sT σ = t at *
    generalize sC σ = c at *
    have inner : ∀ k, k + 1 < tM t → ∀ s, s < tN t → ∀ g1, mF38 g0 g1 → mTm t c (k + 1) g1 → (∀ x3, x3 = nI (vChp (vCs t c 99 (tM t - 1 - (k + 1))) (fun o => decide (tL t o = tR t s)) 99 (tN t)).2 → ∀ w4, xm_go xs_M xk_X9_fillsMend [xt_X9_copies, xt_X9_rightAt, xt_X9_leftAt, xt_X9_mendAt] xc_X9_fillsMend Q (xm_drop 84 xc_X9_fillsMend) [.ref 0, .int (nI k), .int (nI s), .int x3, w4] [] g1) →
        ∀ d o, o + d = tN t → ∀ x3, x3 = nI (vChp (vCs t c 99 (tM t - 1 - (k + 1))) (fun o => decide (tL t o = tR t s)) 99 o).2 → xm_go xs_M xk_X9_fillsMend [xt_X9_copies, xt_X9_rightAt, xt_X9_leftAt, xt_X9_mendAt] xc_X9_fillsMend Q (xm_drop 36 xc_X9_fillsMend) [.ref 0, .int (nI k), .int (nI s), .int x3, .int (nI o)] [] g1 := by
      intro k hk s hs g1 f1 tb hout d
      have i1 := i0.f8 f1
      induction d with
      | zero =>
        intro o ho x3 h3
        have ho : o = tN t := by omega
        subst ho
        refine xm_run_go hm 7 ⟨lv, ⟨hl, i1.l⟩, ⟨fun _ => hout x3 h3 _, fun z => ?_⟩⟩
        rw [i1.n] at z
        exact absurd z (nI_nlt (Nat.le_refl _) (by omega))
      | succ d ih =>
        intro o ho x3 h3
        have hon : o < tN t := by omega
        have nx1 := ih (o + 1) (by omega)
        rw [nI_succ] at nx1
        have tv := tb (k + 1) (Nat.le_refl _) hk o hon
        have ix : 5 * nI k + 5 + nI o = nI (5 * (k + 1) + o) := by
          rw [show (5 : Int32) = nI 5 from rfl, pk_mul, nI_add, nI_add]; exact congrArg nI (by omega)
        have cb := vCs_le9 t c (tM t - 1 - (k + 1)) o
        have vb := vChp_le (vCs t c 99 (tM t - 1 - (k + 1))) (fun o => decide (tL t o = tR t s)) 99 o
        have lt : ¬ g1.1 14 lv - 1 ≤ nI k := by
          rw [i1.m, xn_dec (by omega)]; exact nI_ge (by omega) (by omega)
        refine xm_run_go hm 80 ⟨lv, ⟨hl, i1.l⟩, ⟨fun z => ?_, fun _ => ⟨lv, ⟨hl, i1.l⟩, ⟨fun z => absurd z lt, fun _ => ⟨(s, lv, t), ⟨rfl, hs, i1.1, i1.2.2.1⟩, (o, lv, t), ⟨rfl, hon, i1.1, i1.2.2.1⟩, ⟨fun z => xm_cut hm (nx1 _ ?_), fun z => ⟨5 * (k + 1) + o, ⟨by omega, ix⟩, ⟨fun y => xm_cut hm (nx1 _ ?_), fun y => ⟨5 * (k + 1) + o, ⟨by omega, ix⟩, xm_cut hm (nx1 _ ?_)⟩⟩⟩⟩⟩⟩⟩⟩⟩
        · rw [i1.n] at z
          exact absurd z (nI_ge hon (by omega))
        · rw [vChp, decide_eq_false (fun e => z e.symm), Bool.false_and, h3]; rfl
        · rw [tv, h3] at y
          have := (nI_leI (by omega) (by omega)).mp y
          rw [vChp, if_neg (by rw [Bool.and_eq_true, decide_eq_true_eq, decide_eq_true_eq]; omega), h3]
        · rw [tv, h3] at y
          have := (nI_ltI (by omega) (by omega)).mp y
          rw [vChp, if_pos (by rw [Bool.and_eq_true, decide_eq_true_eq, decide_eq_true_eq]; exact ⟨z.symm, this⟩)]; exact tv
    have middle : ∀ k, k < tM t → (∀ g1, mF38 g0 g1 → mTm t c k g1 → ∀ w2 w3 w4, xm_go xs_M xk_X9_fillsMend [xt_X9_copies, xt_X9_rightAt, xt_X9_leftAt, xt_X9_mendAt] xc_X9_fillsMend Q (xm_drop 10 xc_X9_fillsMend) [.ref 0, .int (nI k + -1), w2, w3, w4] [] g1) →
        ∀ d s, s + d = tN t → ∀ g1, mF38 g0 g1 → mTm t c (k + 1) g1 → (∀ s', s' < s → g1.1 38 (5 * k + s') = nI (vCs t c 99 (tM t - 1 - k) s')) → ∀ w3 w4, xm_go xs_M xk_X9_fillsMend [xt_X9_copies, xt_X9_rightAt, xt_X9_leftAt, xt_X9_mendAt] xc_X9_fillsMend Q (xm_drop 14 xc_X9_fillsMend) [.ref 0, .int (nI k), .int (nI s), w3, w4] [] g1 := by
      intro k hk hout d
      induction d with
      | zero =>
        intro s hs g1 f1 tb dn w3 w4
        have hs : s = tN t := by omega
        subst hs
        have i1 := i0.f8 f1
        refine xm_run_go hm 30 ⟨lv, ⟨hl, i1.l⟩, ⟨fun _ => xm_cut hm (hout g1 f1 (fun j hj1 hj2 s' hs' => ?_) _ _ _), fun z => ?_⟩⟩
        · by_cases z : j = k
          · rw [z]; exact dn s' hs'
          · exact tb j (by omega) hj2 s' hs'
        · rw [i1.n] at z
          exact absurd z (nI_nlt (Nat.le_refl _) (by omega))
      | succ d ih =>
        intro s hs g1 f1 tb dn w3 w4
        have i1 := i0.f8 f1
        have hsn : s < tN t := by omega
        have nx1 := ih (s + 1) (by omega)
        rw [nI_succ] at nx1
        have ix : 5 * nI k + nI s = nI (5 * k + s) := xn_5 k s
        have tail : ∀ x3 n, x3 = nI n → n + vAt t c k s = vCs t c 99 (tM t - 1 - k) s → ∀ w4, xm_go xs_M xk_X9_fillsMend [xt_X9_copies, xt_X9_rightAt, xt_X9_leftAt, xt_X9_mendAt] xc_X9_fillsMend Q (xm_drop 84 xc_X9_fillsMend) [.ref 0, .int (nI k), .int (nI s), .int x3, w4] [] g1 := fun x3 n hx hn w4 => by
          refine xm_run_go hm 40 ⟨(k, s, lv, t, c), ⟨rfl, hk, i1⟩, 5 * k + s, ⟨by omega, ix⟩, xm_cut hm (nx1 _ (f1.p _ _) (fun j hj1 hj2 s' hs' => ?_) (fun s' hs' => ?_) _ _)⟩
          · rw [xg_in, if_neg (by omega)]; exact tb j hj1 hj2 s' hs'
          · rw [xg_in]
            by_cases z : s' = s
            · rw [if_pos (by omega), z, hx, nI_add, hn]
            · rw [if_neg (by omega)]; exact dn s' (by omega)
        have m1 : g1.1 14 lv - 1 = nI (tM t - 1) := by rw [i1.m, xn_dec (by omega)]
        by_cases last : k + 1 < tM t
        · refine xm_run_go hm 40 ⟨lv, ⟨hl, i1.l⟩, ⟨fun z => ?_, fun _ => ⟨lv, ⟨hl, i1.l⟩, ⟨fun _ => xm_cut hm (inner k last s hsn g1 f1 tb (fun x3 h3 w4 => tail x3 _ h3 ?_ w4) (tN t) 0 (by omega) _ rfl), fun z => ?_⟩⟩⟩⟩
          · rw [i1.n] at z
            exact absurd z (nI_ge hsn (by omega))
          · rw [show tM t - 1 - k = (tM t - 1 - (k + 1)) + 1 by omega, vCs, show tM t - 1 - (tM t - 1 - (k + 1) + 1) = k by omega]
            exact Nat.add_comm _ _
          · rw [m1] at z
            have := (nI_eq (by omega) (by omega)).mp z
            omega
        · have one : xm_go xs_M xk_X9_fillsMend [xt_X9_copies, xt_X9_rightAt, xt_X9_leftAt, xt_X9_mendAt] xc_X9_fillsMend Q (xm_drop 36 xc_X9_fillsMend) [.ref 0, .int (nI k), .int (nI s), .int 0, .int (nI 0)] [] g1 := by
            refine xm_run_go hm 16 ⟨lv, ⟨hl, i1.l⟩, ⟨fun z => ?_, fun _ => ⟨lv, ⟨hl, i1.l⟩, ⟨fun _ => ?_, fun z => ?_⟩⟩⟩⟩
            · rw [i1.n] at z
              exact absurd z (nI_ge (a := 0) (by omega) (by omega))
            · refine tail 0 0 rfl ?_ _
              rw [show tM t - 1 - k = 0 by omega, vCs, show tM t - 1 = k by omega, Nat.zero_add]
            · rw [m1] at z
              have := (nI_ltI (by omega) (by omega)).mp z
              omega
          refine xm_run_go hm 40 ⟨lv, ⟨hl, i1.l⟩, ⟨fun z => ?_, fun _ => ⟨lv, ⟨hl, i1.l⟩, ⟨fun z => ?_, fun _ => xm_cut hm one⟩⟩⟩⟩
          · rw [i1.n] at z
            exact absurd z (nI_ge hsn (by omega))
          · rw [m1] at z
            exact absurd (congrArg nI (show k = tM t - 1 by omega)) z
    have outer : ∀ j, j ≤ tM t → ∀ g1, mF38 g0 g1 → mTm t c j g1 → ∀ x, x = nI j - 1 → ∀ w2 w3 w4, xm_go xs_M xk_X9_fillsMend [xt_X9_copies, xt_X9_rightAt, xt_X9_leftAt, xt_X9_mendAt] xc_X9_fillsMend Q (xm_drop 10 xc_X9_fillsMend) [.ref 0, .int x, w2, w3, w4] [] g1 := by
      intro j
      induction j with
      | zero =>
        intro hj g1 f1 tb x hx w2 w3 w4
        refine xm_run_go hm 20 ⟨fun _ => hQ _ _ ⟨rfl, i0.f8 f1, f0.tr f1.q, tb⟩, fun z => ?_⟩
        rw [hx] at z
        exact absurd z (by decide)
      | succ j ih =>
        intro hj g1 f1 tb x hx w2 w3 w4
        have hx : x = nI j := by rw [hx, nI_pred]
        subst hx
        refine xm_run_go hm 20 ⟨fun z => absurd z (nI_pos (by omega)), fun _ => xm_cut hm (middle j (by omega) (fun g2 f2 tb2 w2 w3 w4 => ?_) (tN t) 0 (by omega) g1 f1 tb (fun s' hs' => absurd hs' (by omega)) _ _)⟩
        exact ih (by omega) g2 f2 tb2 _ (Int32.sub_eq_add_neg _ _).symm _ _ _
    exact ⟨lv, ⟨hl, i0.l⟩, xm_cut hm (outer (tM t) (Nat.le_refl _) g0 mF38.rf (fun k h1 h2 => absurd h1 (by omega)) _ (by rw [i0.m]) _ _ _)⟩
