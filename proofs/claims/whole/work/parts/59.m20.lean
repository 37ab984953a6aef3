-- mend
theorem vChp_in (c : Nat → Nat) (ok : Nat → Bool) (F : Nat) : ∀ n, ((vChp c ok F n).1 = -2 ∧ (vChp c ok F n).2 = F) ∨ ((vChp c ok F n).2 < F ∧ ∃ a, a < n ∧ (vChp c ok F n).1 = nI a ∧ ok a = true ∧ c a = (vChp c ok F n).2 ∧ ∀ s, s < a → ok s = true → (vChp c ok F n).2 < c s) := fun n => by
  have far : (vChp c ok F n).2 < F ∨ ((vChp c ok F n).1 = -2 ∧ (vChp c ok F n).2 = F) := by
    induction n with
    | zero => exact Or.inr ⟨rfl, rfl⟩
    | succ n ih =>
      unfold vChp
      split
      · rename_i w
        simp only [Bool.and_eq_true, decide_eq_true_eq] at w
        exact Or.inl (Nat.lt_of_lt_of_le w.2 (vChp_le c ok F n))
      · exact ih
  rcases far with q | q
  · exact Or.inr ⟨q, vChp_first q⟩
  · exact Or.inl q
def xt_X9_mend : xT := xm_rl (Z := vS × Int32) (fun (σ, i) av g => av = [.ref 0, .int i] ∧ mTop σ g) (fun (σ, i) g o g' => o = some (.int (aMend σ i)) ∧ mTop σ g')
set_option maxRecDepth 100000 in
set_option maxHeartbeats 400000 in
theorem xp_X9_mend {l : Launch} {D : va_G} {cA : Nat → ClassId} {B : List (Nat × Cell)} : xm_Met l D cA B xs_M 4 yX9_mend cX9_mend 6 (some .int) xt_X9_mend := by
  have hm : xm_monos [xt_X9_isPerson, xt_X9_fillsMend, xt_X9_rightAt, xt_X9_leftAt, xt_X9_mendAt] := ⟨(by first | exact xm_fn_mono _ _ _ | exact xm_rl_mono _ _), (by first | exact xm_fn_mono _ _ _ | exact xm_rl_mono _ _), (by first | exact xm_fn_mono _ _ _ | exact xm_rl_mono _ _), (by first | exact xm_fn_mono _ _ _ | exact xm_rl_mono _ _), (by first | exact xm_fn_mono _ _ _ | exact xm_rl_mono _ _), trivial⟩
  refine xm_meth (own := RX9) (ks := xk_X9_mend) (C := xc_X9_mend) (Ts := [xt_X9_isPerson, xt_X9_fillsMend, xt_X9_rightAt, xt_X9_leftAt, xt_X9_mendAt]) (by decide +kernel) rfl xm_clsok xs_M_ok xf_X9_ok xi_X9_ok xj_X9_ok (xm_lk xl_X9_412 xp_X9_isPerson (by decide) (xm_lk xl_X9_451 xp_X9_fillsMend (by decide) (xm_lk xl_X9_330 xp_X9_rightAt (by decide) (xm_lk xl_X9_333 xp_X9_leftAt (by decide) (xm_lk xl_X9_448 xp_X9_mendAt (by decide) xm_lk0))))) xo_X9_mend ?_ ?_
  · rintro av g Q ⟨z, ⟨rfl, -⟩, -⟩
    exact Nat.le_of_ble_eq_true rfl
  · rintro av g Q ⟨⟨σ, i⟩, ⟨rfl, ⟨lv, h⟩⟩, hQ⟩
    dsimp only at h hQ
    have m6 := h.m6
    have n5 := h.n5
    have hl := h.lv
    have main : ∀ n, i = -1 ∨ (i = nI n ∧ n < tM (sT σ)) → tM (sT σ) ≠ 0 → ∀ g0, mIn lv (sT σ) (sC σ) g0 → mFq g g0 → mTm (sT σ) (sC σ) 0 g0 → ∀ x, x = nI 99 → ∀ w4 w5, xm_go xs_M xk_X9_mend [xt_X9_isPerson, xt_X9_fillsMend, xt_X9_rightAt, xt_X9_leftAt, xt_X9_mendAt] xc_X9_mend Q (xm_drop 23 xc_X9_mend) [.ref 0, .int i, .int x, .int 0, w4, w5] [] g0 := by
      intro n hi m0 g0 i0 f0 tb
      have hQi : ∀ x, x = vMend9 (sT σ) (sC σ) i → Q (some (.int x)) g0 := fun x hx => hQ _ _ ⟨by
        rw [← vMend_9 h.1.1] at hx
        rcases hi with hi | ⟨hi, hn⟩
        · rw [aMend, if_pos hi, hx, hi]
        · have : ¬ i = -1 := by rw [hi]; intro z; exact absurd (show nI n < 0 by rw [z]; decide) (nI_pos (by omega))
          rw [aMend, if_neg this, hi, vDo_y hn (by omega), hx, hi], lv, h.q f0⟩
      unfold vMend9 at hQi
      rw [if_neg m0] at hQi
      generalize sT σ = t at *
      generalize sC σ = c at *
      have v0 : vMd t c 99 0 = (vChp (vCs t c 99 (tM t - 1)) (fun _ => true) 99 (tN t)).1 := rfl
      -- the lowest slide that costs as little as can be
      have inner : ∀ k, k < tM t → ∀ (ok : Nat → Bool) (x3 : Int32) (few : Nat), few < 99 → (∃ a, a < tN t ∧ ok a = true ∧ vCs t c 99 (tM t - 1 - k) a = few ∧ ∀ s, s < a → ok s = true → few < vCs t c 99 (tM t - 1 - k) s) → ((x3 = -1 ∧ ∀ s, ok s = true) ∨ ∃ b, b < tN t ∧ x3 = nI b ∧ ∀ s, ok s = decide (tL t s = tR t b)) →
          ∃ a, a < tN t ∧ ok a = true ∧ vCs t c 99 (tM t - 1 - k) a = few ∧ (∀ s, s < a → ok s = true → few < vCs t c 99 (tM t - 1 - k) s) ∧ ((∀ x2, x2 = nI few → xm_go xs_M xk_X9_mend [xt_X9_isPerson, xt_X9_fillsMend, xt_X9_rightAt, xt_X9_leftAt, xt_X9_mendAt] xc_X9_mend Q (xm_drop 83 xc_X9_mend) [.ref 0, .int i, .int x2, .int x3, .int (nI k), .int (nI a)] [] g0) → ∀ d s, s + d = a → ∀ x2, x2 = nI few → xm_go xs_M xk_X9_mend [xt_X9_isPerson, xt_X9_fillsMend, xt_X9_rightAt, xt_X9_leftAt, xt_X9_mendAt] xc_X9_mend Q (xm_drop 62 xc_X9_mend) [.ref 0, .int i, .int x2, .int x3, .int (nI k), .int (nI s)] [] g0) := by
        rintro k hk ok x3 few hfew ⟨a, a1, a2, a3, a4⟩ hx3
        refine ⟨a, a1, a2, a3, a4, fun hout d => ?_⟩
        induction d with
        | zero =>
          intro s hs x2 h2
          have hs : s = a := by omega
          subst hs
          have tv := tb k (Nat.zero_le _) hk s a1
          have ix : 5 * nI k + nI s = nI (5 * k + s) := xn_5 k s
          have e2 : g0.1 38 (5 * k + s) = x2 := by rw [tv, a3, h2]
          rcases hx3 with ⟨rfl, -⟩ | ⟨b, hb, rfl, ho⟩
          · exact xm_run_go hm 12 ⟨5 * k + s, ⟨by omega, ix⟩, ⟨fun z => absurd e2 z, fun _ => ⟨fun _ => hout x2 h2, fun z => absurd z (by decide)⟩⟩⟩
          · have eq : tR t b = tL t s := by
              have := a2
              rw [ho, decide_eq_true_eq] at this
              exact this.symm
            exact xm_run_go hm 19 ⟨5 * k + s, ⟨by omega, ix⟩, ⟨fun z => absurd e2 z, fun _ => ⟨fun z => absurd z (nI_pos (by omega)), fun _ => ⟨(b, lv, t), ⟨rfl, hb, i0.1, i0.2.2.1⟩, (s, lv, t), ⟨rfl, a1, i0.1, i0.2.2.1⟩, ⟨fun _ => hout x2 h2, fun z => absurd eq z⟩⟩⟩⟩⟩
        | succ d ih =>
          intro s hs x2 h2
          have hsn : s < tN t := by omega
          have nx1 := ih (s + 1) (by omega) x2 h2
          rw [nI_succ] at nx1
          have tv := tb k (Nat.zero_le _) hk s hsn
          have ix : 5 * nI k + nI s = nI (5 * k + s) := xn_5 k s
          have cb := vCs_le9 t c (tM t - 1 - k) s
          rcases hx3 with ⟨rfl, ho⟩ | ⟨b, hb, rfl, ho⟩
          · have lt := a4 s (by omega) (ho s)
            refine xm_run_go hm 40 ⟨5 * k + s, ⟨by omega, ix⟩, ⟨fun _ => xm_cut hm nx1, fun z => ?_⟩⟩
            rw [tv, h2] at z
            have := (nI_eq (by omega) (by omega)).mp z
            omega
          · refine xm_run_go hm 40 ⟨5 * k + s, ⟨by omega, ix⟩, ⟨fun _ => xm_cut hm nx1, fun z => ⟨fun y => absurd y (nI_pos (by omega)), fun _ => ⟨(b, lv, t), ⟨rfl, hb, i0.1, i0.2.2.1⟩, (s, lv, t), ⟨rfl, hsn, i0.1, i0.2.2.1⟩, ⟨fun y => ?_, fun _ => xm_cut hm nx1⟩⟩⟩⟩⟩
            have lt := a4 s (by omega) (by rw [ho, decide_eq_true_eq]; exact y.symm)
            rw [tv, h2] at z
            have := (nI_eq (by omega) (by omega)).mp z
            omega
      have walk : i = nI n → n < tM t → 0 ≤ vMd t c 99 0 → ∀ d k, k + d = n + 1 → ∀ (ok : Nat → Bool) (x3 : Int32) (few : Nat), few < 99 → (k < tM t → ∃ a, a < tN t ∧ ok a = true ∧ vCs t c 99 (tM t - 1 - k) a = few ∧ (∀ s, s < a → ok s = true → few < vCs t c 99 (tM t - 1 - k) s) ∧ vMd t c 99 k = nI a) → ((x3 = -1 ∧ k = 0 ∧ ∀ s, ok s = true) ∨ (0 < k ∧ x3 = vMd t c 99 (k - 1) ∧ ∃ b, b < tN t ∧ x3 = nI b ∧ ∀ s, ok s = decide (tL t s = tR t b))) → ∀ x2, x2 = nI few → ∀ w5, xm_go xs_M xk_X9_mend [xt_X9_isPerson, xt_X9_fillsMend, xt_X9_rightAt, xt_X9_leftAt, xt_X9_mendAt] xc_X9_mend Q (xm_drop 57 xc_X9_mend) [.ref 0, .int i, .int x2, .int x3, .int (nI k), w5] [] g0 := by
        intro hin hn v0p d
        have ni : ¬ i = -1 := by rw [hin]; intro z; exact absurd (show nI n < 0 by rw [z]; decide) (nI_pos (by omega))
        induction d with
        | zero =>
          intro k hk ok x3 few hfew hex hx3 x2 h2 w5
          refine xm_run_go hm 20 ⟨fun _ => hQi x3 ?_, fun z => ?_⟩
          · rw [if_neg (Int32.not_lt.mpr v0p), if_neg ni, hin, nI_clamp (by omega)]
            rcases hx3 with ⟨-, q, -⟩ | ⟨-, q, -⟩
            · omega
            · rw [q, show k - 1 = n by omega]
          · rw [hin] at z
            exact absurd z (nI_ge (by omega) (by omega))
        | succ d ih =>
          intro k hk ok x3 few hfew hex hx3 x2 h2 w5
          have km : k < tM t := by omega
          obtain ⟨a', b1, b2, b3, b4, b5⟩ := hex km
          obtain ⟨a, a1, a2, a3, a4, go⟩ := inner k km ok x3 few hfew ⟨a', b1, b2, b3, b4⟩ (by
            rcases hx3 with ⟨q1, -, q3⟩ | ⟨-, -, q⟩
            · exact Or.inl ⟨q1, q3⟩
            · exact Or.inr q)
          have aa : a = a' := by
            rcases Nat.lt_trichotomy a a' with q | q | q
            · have := b4 a q a2; omega
            · exact q
            · have := a4 a' q b2; omega
          subst aa
          have at1 : vAt t c k a ≤ 1 := by unfold vAt; split <;> omega
          have sub : vAt t c k a ≤ few := by
            rw [← a3]
            cases hr : tM t - 1 - k with
            | zero => rw [vCs, show tM t - 1 = k by omega]; exact Nat.le_refl _
            | succ r => rw [vCs, show tM t - 1 - (r + 1) = k by omega]; omega
          have sb : nI few - nI (vAt t c k a) = nI (few - vAt t c k a) := by
            have : few = (few - vAt t c k a) + vAt t c k a := by omega
            rw [this, ← nI_add, Int32.add_sub_cancel, Nat.add_sub_cancel]
          have nx1 := ih (k + 1) (by omega) (fun s => decide (tL t s = tR t a)) (nI a) (few - vAt t c k a) (by omega) (fun km1 => by
            have hr : tM t - 1 - k = (tM t - 1 - (k + 1)) + 1 := by omega
            have e : vCs t c 99 (tM t - 1 - k) a = vAt t c k a + (vChp (vCs t c 99 (tM t - 1 - (k + 1))) (fun o => decide (tL t o = tR t a)) 99 (tN t)).2 := by
              rw [hr, vCs, show tM t - 1 - (tM t - 1 - (k + 1) + 1) = k by omega]
            rcases vChp_in (vCs t c 99 (tM t - 1 - (k + 1))) (fun o => decide (tL t o = tR t a)) 99 (tN t) with ⟨-, q2⟩ | ⟨q2, z, z1, z2, z3, z4, z5⟩
            · omega
            · refine ⟨z, z1, z3, by omega, fun s hs hk => by have := z5 s hs hk; omega, ?_⟩
              rw [vMd, b5, if_neg (nI_pos (by omega)), nI_clamp (by omega)]
              exact z2) (Or.inr ⟨by omega, by rw [Nat.add_sub_cancel, b5], a, a1, rfl, fun _ => rfl⟩)
          rw [nI_succ] at nx1
          refine xm_run_go hm 20 ⟨fun z => ?_, fun _ => xm_cut hm (go (fun y2 hy2 => ?_) a 0 (by omega) x2 h2)⟩
          · rw [hin] at z
            exact absurd z (nI_nlt (by omega) (by omega))
          · exact xm_run_go hm 20 ⟨(k, a, lv, t, c), ⟨rfl, km, i0⟩, xm_cut hm (nx1 _ (by rw [hy2, sb]) _)⟩
      have loop : ∀ d s, s + d = tN t → ∀ x2, x2 = nI (vChp (vCs t c 99 (tM t - 1)) (fun _ => true) 99 s).2 → ∀ w4 w5, xm_go xs_M xk_X9_mend [xt_X9_isPerson, xt_X9_fillsMend, xt_X9_rightAt, xt_X9_leftAt, xt_X9_mendAt] xc_X9_mend Q (xm_drop 23 xc_X9_mend) [.ref 0, .int i, .int x2, .int (nI s), w4, w5] [] g0 := by
        intro d
        induction d with
        | zero =>
          intro s hs x2 h2 w4 w5
          have hs : s = tN t := by omega
          subst hs
          have far := vChp_in (vCs t c 99 (tM t - 1)) (fun _ => true) 99 (tN t)
          have cases0 : (vMd t c 99 0 < 0 ∧ x2 = nI 99) ∨ (0 ≤ vMd t c 99 0 ∧ (vChp (vCs t c 99 (tM t - 1)) (fun _ => true) 99 (tN t)).2 < 99) := by
            rcases far with ⟨q1, q2⟩ | ⟨q2, a, a1, a2, -⟩
            · exact Or.inl ⟨by rw [v0, q1]; decide, by rw [h2, q2]⟩
            · exact Or.inr ⟨by rw [v0, a2]; exact nI_pos' (by omega), q2⟩
          refine xm_run_go hm 40 ⟨lv, ⟨hl, i0.l⟩, ⟨fun _ => ⟨fun z => ?_, fun z => ?_⟩, fun z => ?_⟩⟩
          · rcases cases0 with ⟨q1, q2⟩ | ⟨q1, q2⟩
            · rw [q2] at z; exact absurd z (by decide)
            · refine ⟨fun y => ?_, fun y => hQi x2 ?_⟩
              · rcases hi with hi | ⟨hi, hn⟩
                · exact absurd hi y
                · rcases far with ⟨-, q3⟩ | ⟨-, a, a1, a2, a3, a4, a5⟩
                  · omega
                  · exact xm_cut hm (walk hi hn q1 (n + 1) 0 (by omega) (fun _ => true) _ _ q2 (fun _ => ⟨a, a1, rfl, a4, a5, a2⟩) (Or.inl ⟨rfl, rfl, fun _ => rfl⟩) x2 h2 _)
              · rw [if_neg (Int32.not_lt.mpr q1), if_pos y, h2]
          · rcases cases0 with ⟨q1, q2⟩ | ⟨q1, q2⟩
            · exact hQi _ (by rw [if_pos q1])
            · rw [h2] at z
              exact absurd z (nI_ge (b := 99) q2 (by decide))
          · rw [i0.n] at z
            exact absurd z (nI_nlt (Nat.le_refl _) (by omega))
        | succ d ih =>
          intro s hs x2 h2 w4 w5
          have hsn : s < tN t := by omega
          have nx1 := ih (s + 1) (by omega)
          rw [nI_succ] at nx1
          have tv := tb 0 (Nat.zero_le _) (by omega) s hsn
          rw [Nat.mul_zero, Nat.zero_add, Nat.sub_zero] at tv
          have cb := vCs_le9 t c (tM t - 1) s
          have vb := vChp_le (vCs t c 99 (tM t - 1)) (fun _ => true) 99 s
          refine xm_run_go hm 40 ⟨lv, ⟨hl, i0.l⟩, ⟨fun z => ?_, fun _ => ⟨s, ⟨by omega, rfl⟩, ⟨fun z => xm_cut hm (nx1 _ ?_ _ _), fun z => ⟨s, ⟨by omega, rfl⟩, xm_cut hm (nx1 _ ?_ _ _)⟩⟩⟩⟩⟩
          · rw [i0.n] at z
            exact absurd z (nI_ge hsn (by omega))
          · rw [tv, h2] at z
            have := (nI_leI (by omega) (by omega)).mp z
            rw [vChp, if_neg (by rw [Bool.true_and, decide_eq_true_eq]; omega), h2]
          · rw [tv, h2] at z
            have := (nI_ltI (by omega) (by omega)).mp z
            rw [vChp, if_pos (by rw [Bool.true_and, decide_eq_true_eq]; exact this)]; exact tv
      exact fun x hx w4 w5 => loop (tN t) 0 (by omega) x hx w4 w5
    by_cases hi : i = -1
    · by_cases m0 : tM (sT σ) = 0
      · have fin := hQ (some (.int 0)) g ⟨by rw [aMend, if_pos hi, vMended, if_pos m0], lv, h⟩
        refine xm_run_go hm 40 ⟨fun _ => ⟨lv, ⟨hl, h.l⟩, ⟨fun z => ?_, fun _ => fin⟩⟩, fun z => absurd hi z⟩
        rw [h.m, m0] at z; exact absurd rfl z
      · refine xm_run_go hm 40 ⟨fun _ => ⟨lv, ⟨hl, h.l⟩, ⟨fun _ => ⟨(lv, σ), ⟨rfl, h⟩, ?_⟩, fun z => ?_⟩⟩, fun z => absurd hi z⟩
        · rintro o g0 ⟨rfl, i0, f0, tb⟩
          exact xm_cut hm (main 0 (Or.inl hi) m0 g0 i0 f0 tb _ (xn_c 99) _ _)
        · rw [h.m] at z
          exact absurd ((nI_eq (b := 0) (by omega) (by omega)).mp z) m0
    · rcases vDo_c (m := tM (sT σ)) i (by omega) with hp | ⟨n, hn, hin⟩
      · have fin := hQ (some (.int (-1))) g ⟨by rw [aMend, if_neg hi, vDo_n hp], lv, h⟩
        refine xm_run_go hm 60 ⟨fun z => absurd z hi, fun _ => ⟨(i, lv, tM (sT σ)), ⟨rfl, hl, h.m9, h.l, h.m⟩, ⟨fun z => ?_, fun _ => fin⟩⟩⟩
        exact absurd (vIs_n hp) z
      · have z1 := vIs_y hn (by omega : tM (sT σ) < 2 ^ 31)
        have m0 : tM (sT σ) ≠ 0 := by omega
        refine xm_run_go hm 40 ⟨fun z => absurd z hi, fun _ => ⟨(i, lv, tM (sT σ)), ⟨rfl, hl, h.m9, h.l, h.m⟩, ⟨fun _ => ⟨lv, ⟨hl, h.l⟩, ⟨fun _ => ⟨(lv, σ), ⟨rfl, h⟩, ?_⟩, fun z => ?_⟩⟩, fun z => ?_⟩⟩⟩
        · rintro o g0 ⟨rfl, i0, f0, tb⟩
          exact xm_cut hm (main n (Or.inr ⟨hin, hn⟩) m0 g0 i0 f0 tb _ (xn_c 99) _ _)
        · rw [h.m] at z
          exact absurd ((nI_eq (b := 0) (by omega) (by omega)).mp z) m0
        · rw [hin, z1] at z; exact absurd z (by decide)
