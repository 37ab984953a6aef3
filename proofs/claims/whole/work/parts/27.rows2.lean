-- rows that are tried
/-- the cells that a search changes -/
def xRw (g g' : xG) : Prop := g'.2 = g.2 ∧ (∀ k, k ≠ 49 → k ≠ 50 → k ≠ 52 → g'.1 k = g.1 k) ∧ ∀ j, 3 ≤ j → g'.1 49 j = g.1 49 j
theorem xRw.rf {g : xG} : xRw g g := ⟨rfl, fun _ _ _ _ => rfl, fun _ _ => rfl⟩
theorem xRw.tr {g g1 g2 : xG} (h : xRw g g1) (h2 : xRw g1 g2) : xRw g g2 := ⟨h2.1.trans h.1, fun k a b c => (h2.2.1 k a b c).trans (h.2.1 k a b c), fun j hj => (h2.2.2 j hj).trans (h.2.2 j hj)⟩
theorem xRw.pt {g g1 : xG} (h : xRw g g1) (j : Nat) (v : Int32) : xRw g (xm_sI g1 52 j v) := ⟨h.1, fun k a b c => (xg_off g1 j v c).trans (h.2.1 k a b c), fun i hi => by rw [xg_off _ _ _ (by decide)]; exact h.2.2 i hi⟩
theorem xRw.p9 {g g1 : xG} (h : xRw g g1) {j : Nat} (v : Int32) (hj : j < 3) : xRw g (xm_sI g1 49 j v) := ⟨h.1, fun k a b c => (xg_off g1 j v a).trans (h.2.1 k a b c), fun i hi => by rw [xg_in, if_neg (by omega)]; exact h.2.2 i hi⟩
theorem xRw.rows {g g' : xG} {m sh : Nat} {nx : Nat → Nat} (h : xRw g g') (hr : xRows m sh nx g) : xRows m sh nx g' := hr.fr (h.2.2 4 (by omega)) (h.2.2 5 (by omega)) (h.2.1 51 (by decide) (by decide) (by decide))
theorem xRw.fr {g g' : xG} (h : xRw g g') : xFr 49 53 g g' := ⟨h.1, fun k hk => h.2.1 k (by omega) (by omega) (by omega)⟩
-- whether the one wins who is to put somebody
def vAny (c : Nat → Bool) : Nat → Bool
  | 0 => false
  | n + 1 => vAny c n || c n
theorem vAny_f {c : Nat → Bool} : ∀ {n : Nat}, vAny c n = false ↔ ∀ k, k < n → c k = false
  | 0 => by simp [vAny]
  | n + 1 => by
    rw [vAny, Bool.or_eq_false_iff, vAny_f (n := n)]
    constructor
    · rintro ⟨h1, h2⟩ k hk
      by_cases z : k = n
      · rw [z]; exact h2
      · exact h1 k (by omega)
    · intro h
      exact ⟨fun k hk => h k (by omega), h n (by omega)⟩
def vWin (nx : Nat → Nat) (m : Nat) : Nat → Nat → Nat → Bool
  | 0, _, _ => false
  | f + 1, last, used => vAny (fun p => ((nx last).testBit p && !used.testBit p) && !vWin nx m f p (used ||| 2 ^ p)) m
def xt_X2_canWin : Nat → xT
  | 0 => fun _ _ _ => False
  | f + 1 => xm_fn (Z := Nat × Nat × Nat × Nat × Nat × (Nat → Nat)) (fun (a, u, d, m, sh, nx) av g => av = [.ref 49, .int (nI a), .int (nI u), .int (nI d)] ∧ a < m ∧ u < 64 ∧ d + f = m ∧ xRows m sh nx g) (fun (a, u, d, m, sh, nx) _ => some (.int (if vWin nx m f a u then 1 else 0))) (fun _ g => g)
theorem xn_X2_canWin : ∀ f, xm_mono (xt_X2_canWin f)
  | 0 => fun _ _ _ _ _ h => h
  | _ + 1 => xm_fn_mono _ _ _
set_option maxRecDepth 100000 in
set_option maxHeartbeats 4000000 in
theorem xp_X2_canWin {l : Launch} {D : va_G} {cA : Nat → ClassId} {B : List (Nat × Cell)} : ∀ (f R : Nat), f ≤ R → xm_Met l D cA B xs_X (R + 1) yX2_canWin cX2_canWin 5 (some .boolean) (xt_X2_canWin f)
  | 0, _, _ => fun _ _ _ _ _ h => h.elim
  | _ + 1, 0, hR => absurd hR (by omega)
  | f + 1, R + 1, hR => by
    have hm : xm_monos [xt_X2_has, xt_X2_canWin f] := ⟨(by first | exact xm_fn_mono _ _ _ | exact xm_rl_mono _ _), xn_X2_canWin f, trivial⟩
    refine xm_meth (own := RX2) (ks := xk_X2_canWin) (C := xc_X2_canWin) (Ts := [xt_X2_has, xt_X2_canWin f]) (by decide +kernel) rfl xm_clsok xs_X_ok xf_X2_ok xi_X2_ok xj_X2_ok (xm_lk xl_X2_70 xp_X2_has (by omega) (xm_lk xl_X2_98 (xp_X2_canWin f R (by omega))  (by omega) xm_lk0)) xo_X2_canWin ?_ ?_
    · rintro av g Q ⟨z, ⟨rfl, -⟩, -⟩
      exact Nat.le_of_ble_eq_true rfl
    · rintro av g Q ⟨⟨a, u, dp, m, sh, nx⟩, ⟨rfl, ha, hu, hd, hr⟩, hQ⟩
      dsimp only at hQ ha hu hd hr
      obtain ⟨h1, h2, h3, h4, h5⟩ := id hr
      obtain ⟨b1, b2⟩ := h3 a ha
      cases f with
      | zero =>
        refine xm_run_go hm 30 (xm_cut hm ?_)
        refine xm_run_go hm 30 ⟨fun _ => ⟨Or.inl rfl, hQ⟩, fun _ => ⟨fun _ => ⟨Or.inl rfl, hQ⟩, fun q => ?_⟩⟩
        rw [h1] at q
        exact absurd q (nI_nlt (by omega) (by omega))
      | succ f =>
        rw [vWin] at hQ
        generalize hcd : (fun p => ((nx a).testBit p && !u.testBit p) && !vWin nx m f p (u ||| 2 ^ p)) = cd at hQ
        have hcp : ∀ p, cd p = (((nx a).testBit p && !u.testBit p) && !vWin nx m f p (u ||| 2 ^ p)) := fun p => by rw [← hcd]
        have e1 : nI dp + 1 = nI (dp + 1) := nI_1 dp
        have loop : ∀ d k, k + d = m → vAny cd k = false → xm_go xs_X xk_X2_canWin [xt_X2_has, xt_X2_canWin (f + 1)] xc_X2_canWin Q (xm_drop 2 xc_X2_canWin) [.ref 49, .int (nI a), .int (nI u), .int (nI dp), .int (nI k)] [] g := by
          intro d
          induction d with
          | zero =>
            intro k hk hv
            have hk : k = m := by omega
            subst hk
            rw [hv] at hQ
            refine xm_run_go hm 30 ⟨fun _ => ⟨Or.inl rfl, hQ⟩, fun q => ?_⟩
            rw [h1] at q
            exact absurd q (nI_nlt (Nat.le_refl _) (by omega))
          | succ d ih =>
            intro k hk hv
            have hk6 : k < 6 := by omega
            have hkm : k < m := by omega
            have lt : (nx a) &&& (63 ^^^ u) < 64 := ub_andlt _ b2
            have nx1 : cd k = false → xm_go xs_X xk_X2_canWin [xt_X2_has, xt_X2_canWin (f + 1)] xc_X2_canWin Q (xm_drop 2 xc_X2_canWin) [.ref 49, .int (nI a), .int (nI u), .int (nI dp), .int (nI k + 1)] [] g := fun z => by
              rw [nI_1]
              exact ih (k + 1) (by omega) (by rw [vAny, hv, z]; rfl)
            have dpf : dp + 1 + f = m := by omega
            refine xm_run_go hm 50 ⟨fun q => ?_, fun _ => ⟨fun q => ?_, fun _ => ⟨a, ⟨by omega, rfl⟩, (nx a &&& (63 ^^^ u), k), ⟨?_, lt, hk6⟩, ⟨fun q => xm_cut hm (nx1 ?_), fun q => ⟨(k, u ||| 2 ^ k, dp + 1, m, sh, nx), ⟨?_, hkm, ub_orlt hu (ub_pow hk6), dpf, hr⟩, ⟨fun y => xm_cut hm (nx1 ?_), fun y => ⟨Or.inr rfl, ?_⟩⟩⟩⟩⟩⟩⟩
            · rw [h1] at q
              exact absurd q (nI_ge (by omega) (by omega))
            · rw [h1] at q
              exact absurd q (nI_ge (by omega) (by omega))
            · rw [b1, ub_less _ b2 _ hu]
            · rw [ub_tless _ _ _ hk6] at q
              rw [hcp]
              cases z : ((nx a).testBit k && !u.testBit k) with
              | true => rw [z] at q; exact absurd q (by decide)
              | false => rfl
            · rw [ub_or1 u hu k hk6, e1]
            · rw [hcp]
              cases z : vWin nx m f k (u ||| 2 ^ k) with
              | true => rw [Bool.not_true, Bool.and_false]
              | false => rw [z] at y; exact absurd rfl y
            · rw [ub_tless _ _ _ hk6] at q
              have ct : cd k = true := by
                rw [hcp]
                cases z : ((nx a).testBit k && !u.testBit k) with
                | false => rw [z] at q; exact absurd rfl q
                | true =>
                  cases z2 : vWin nx m f k (u ||| 2 ^ k) with
                  | true => rw [z2] at y; exact absurd y (by decide)
                  | false => rfl
              have : vAny cd m = true := by
                cases z : vAny cd m with
                | true => rfl
                | false => rw [vAny_f.mp z k hkm] at ct; cases ct
              rw [this] at hQ
              exact hQ
        exact xm_run_go hm 20 (xm_cut hm (loop m 0 (by omega) rfl))
def xt_X2_canWinA : xT := fun av g Q => ∃ f, f ≤ 8 ∧ xt_X2_canWin f av g Q
theorem xp_X2_canWinA {l : Launch} {D : va_G} {cA : Nat → ClassId} {B : List (Nat × Cell)} : xm_Met l D cA B xs_X 9 yX2_canWin cX2_canWin 5 (some .boolean) xt_X2_canWinA := fun ad sz av g Q ⟨f, hf, h⟩ => xp_X2_canWin f 8 hf ad sz av g Q h
theorem xn_X2_canWinA : xm_mono xt_X2_canWinA := fun av g Q Q' h ⟨f, hf, k⟩ => ⟨f, hf, xn_X2_canWin f av g Q Q' h k⟩
