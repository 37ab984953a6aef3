-- the longest row, the best row
def vMx (w : Nat → Nat) : Nat → Nat
  | 0 => 0
  | n + 1 => if vMx w n < w n then w n else vMx w n
def vAr (w : Nat → Nat) : Nat → Nat
  | 0 => 0
  | n + 1 => if vMx w n < w n then n else vAr w n
/-- one row after the other, the better one kept -/
def vRs (base : Nat) (w : Nat → Nat) (pay : Nat → List Nat) (M : Nat) (ls : List Nat) (k : Nat) : Nat × List Nat := if 0 < vMx w k ∧ M < base + vMx w k then (base + vMx w k, pay (vAr w k)) else (M, ls)
theorem vRs_0 {base : Nat} {w : Nat → Nat} {pay : Nat → List Nat} {M : Nat} {ls : List Nat} : vRs base w pay M ls 0 = (M, ls) := by
  unfold vRs
  rw [if_neg (by simp only [vMx]; omega)]
theorem vRs_no {base : Nat} {w : Nat → Nat} {pay : Nat → List Nat} {M : Nat} {ls : List Nat} {k : Nat} (h : w k = 0) : vRs base w pay M ls (k + 1) = vRs base w pay M ls k := by
  unfold vRs
  simp only [vMx, vAr, h, Nat.not_lt_zero, if_false]
theorem vRs_yes {base : Nat} {w : Nat → Nat} {pay : Nat → List Nat} {M : Nat} {ls : List Nat} {k : Nat} (hw : 0 < w k) : vRs base w pay M ls (k + 1) = if (vRs base w pay M ls k).1 < base + w k then (base + w k, pay k) else vRs base w pay M ls k := by
  unfold vRs
  by_cases h1 : 0 < vMx w k ∧ M < base + vMx w k
  · rw [if_pos h1]
    by_cases h2 : vMx w k < w k
    · simp only [vMx, vAr, if_pos h2]
      rw [if_pos (show 0 < w k ∧ M < base + w k by omega), if_pos (by omega)]
    · simp only [vMx, vAr, if_neg h2]
      rw [if_pos h1, if_neg (by omega)]
  · rw [if_neg h1]
    by_cases h2 : vMx w k < w k
    · simp only [vMx, vAr, if_pos h2]
      by_cases h3 : M < base + w k
      · rw [if_pos ⟨hw, h3⟩, if_pos h3]
      · rw [if_neg (fun z => h3 z.2), if_neg h3]
    · simp only [vMx, vAr, if_neg h2]
      rw [if_neg h1, if_neg (by omega)]
def vLg (nx : Nat → Nat) (m : Nat) : Nat → Nat → Nat → Nat
  | 0, _, _ => 0
  | f + 1, L, u => vMx (fun p => if vCf nx L u p then 1 + vLg nx m f p (u ||| 2 ^ p) else 0) m
def vLp (nx : Nat → Nat) (m : Nat) : Nat → Nat → Nat → List Nat
  | 0, _, _ => []
  | f + 1, L, u => if vLg nx m (f + 1) L u = 0 then [] else vAr (fun p => if vCf nx L u p then 1 + vLg nx m f p (u ||| 2 ^ p) else 0) m :: vLp nx m f (vAr (fun p => if vCf nx L u p then 1 + vLg nx m f p (u ||| 2 ^ p) else 0) m) (u ||| 2 ^ (vAr (fun p => if vCf nx L u p then 1 + vLg nx m f p (u ||| 2 ^ p) else 0) m))
def xLs (g : xG) (k : Nat) (ls : List Nat) : Prop := ∀ i x, ls[i]? = some x → g.1 k i = nI x
theorem xLs_nil {g : xG} {k : Nat} : xLs g k [] := fun i x h => by cases h
theorem xLs.fr {g g' : xG} {k : Nat} {ls : List Nat} (h : xLs g k ls) (e : ∀ i, i < ls.length → g'.1 k i = g.1 k i) : xLs g' k ls := fun i x hx => by rw [e i (List.getElem?_eq_some_iff.mp hx).1]; exact h i x hx
theorem xLs.snoc {g : xG} {k : Nat} {ls : List Nat} {x : Nat} (h : xLs g k ls) (e : g.1 k ls.length = nI x) : xLs g k (ls ++ [x]) := by
  intro i y hy
  rcases Nat.lt_or_ge i ls.length with q | q
  · rw [List.getElem?_append_left q] at hy
    exact h i y hy
  · rw [List.getElem?_append_right q] at hy
    have : i - ls.length < 1 := (List.getElem?_eq_some_iff.mp hy).1
    have hi : i = ls.length := by omega
    subst hi
    rw [Nat.sub_self] at hy
    cases hy
    exact e
def xt_X2_tryLongest : Nat → xT
  | 0 => fun _ _ _ => False
  | f + 1 => xm_rl (Z := Nat × Nat × Nat × List Nat × Nat × List Nat × Nat × Nat × (Nat → Nat)) (fun (d, u, L, pre, M, ls, m, sh, nx) av g => av = [.ref 49, .int (nI d), .int (nI u)] ∧ u < 64 ∧ d + f = m ∧ pre.length = d ∧ xLs g 52 pre ∧ xLast d L m g ∧ M ≤ 6 ∧ g.1 49 0 = nI M ∧ xLs g 50 ls ∧ xRows m sh nx g)
      (fun (d, u, L, pre, M, ls, m, sh, nx) g o g' => o = none ∧ xRw g g' ∧ (∀ i, i < d → g'.1 52 i = g.1 52 i) ∧ g'.1 49 0 = nI (if M < d + vLg nx m f L u then (d + vLg nx m f L u, pre ++ vLp nx m f L u) else (M, ls)).1 ∧ (if M < d + vLg nx m f L u then (d + vLg nx m f L u, pre ++ vLp nx m f L u) else (M, ls)).1 ≤ 6 ∧ xLs g' 50 (if M < d + vLg nx m f L u then (d + vLg nx m f L u, pre ++ vLp nx m f L u) else (M, ls)).2)
theorem xn_X2_tryLongest : ∀ f, xm_mono (xt_X2_tryLongest f)
  | 0 => fun _ _ _ _ _ h => h
  | _ + 1 => xm_rl_mono _ _
set_option maxRecDepth 100000 in
set_option maxHeartbeats 4000000 in
theorem xp_X2_tryLongest {l : Launch} {D : va_G} {cA : Nat → ClassId} {B : List (Nat × Cell)} : ∀ (f R : Nat), f ≤ R → xm_Met l D cA B xs_X (R + 3) yX2_tryLongest cX2_tryLongest 4 none (xt_X2_tryLongest f)
  | 0, _, _ => fun _ _ _ _ _ h => h.elim
  | _ + 1, 0, hR => absurd hR (by omega)
  | f + 1, R + 1, hR => by
    have hm : xm_monos [xt_X2_keep, xt_X2_canFollow, xt_X2_tryLongest f] := ⟨(by first | exact xm_fn_mono _ _ _ | exact xm_rl_mono _ _), (by first | exact xm_fn_mono _ _ _ | exact xm_rl_mono _ _), xn_X2_tryLongest f, trivial⟩
    refine xm_meth (own := RX2) (ks := xk_X2_tryLongest) (C := xc_X2_tryLongest) (Ts := [xt_X2_keep, xt_X2_canFollow, xt_X2_tryLongest f]) (by decide +kernel) rfl xm_clsok xs_X_ok xf_X2_ok xi_X2_ok xj_X2_ok (xm_lk xl_X2_60 xp_X2_keep (by omega) (xm_lk xl_X2_88 xp_X2_canFollow (by omega) (xm_lk xl_X2_92 (xp_X2_tryLongest f R (by omega))  (by omega) xm_lk0))) xo_X2_tryLongest ?_ ?_
    · rintro av g Q ⟨z, ⟨rfl, -⟩, -⟩
      exact Nat.le_of_ble_eq_true rfl
    · rintro av g Q ⟨⟨dp, u, L, pre, M, ls, m, sh, nx⟩, ⟨rfl, hu, hd, hpl, hpr, hl, hM, e0, hls, hr⟩, hQ⟩
      dsimp only at hQ hu hd hl hr hpl hpr hM e0 hls
      obtain ⟨h1, h2, h3, h4, h5⟩ := id hr
      have hd6 : dp ≤ 6 := by omega
      have d1 : nI dp + 1 = nI (dp + 1) := nI_1 dp
      cases f with
      | zero =>
        have hdm : dp = m := by omega
        simp only [vLg, vLp, Nat.add_zero, List.append_nil] at hQ
        refine xm_run_go hm 60 ⟨fun q => ⟨fun y => ?_, fun _ => ?_⟩, fun q => ⟨(dp, nI dp), ⟨rfl, hd6⟩, ?_⟩⟩
        · rw [h1] at y
          exact absurd y (nI_nlt (by omega) (by omega))
        · rw [e0] at q
          have hle : dp ≤ M := (nI_leI (by omega) (by omega)).mp q
          rw [if_neg (by omega)] at hQ
          exact hQ _ _ ⟨rfl, xRw.rf, fun _ _ => rfl, e0, hM, hls⟩
        · rintro o g1 ⟨rfl, q1, q2, q3, q4, q5⟩
          rw [e0] at q
          have hlt : M < dp := (nI_ltI (by omega) (by omega)).mp q
          rw [if_pos hlt] at hQ
          have h11 := q1.rows hr
          refine ⟨fun y => ?_, fun _ => hQ _ _ ⟨rfl, q1, fun i _ => by rw [q4], q2, hd6, fun i x hx => ?_⟩⟩
          · rw [h11.1] at y
            exact absurd y (nI_nlt (by omega) (by omega))
          · have hi : i < pre.length := (List.getElem?_eq_some_iff.mp hx).1
            rw [q5 i (by omega)]; exact hpr i x hx
      | succ f =>
        have hdm : dp < m := by omega
        have hd1 : dp + 1 + f = m := by omega
        generalize hw : (fun p => if vCf nx L u p then 1 + vLg nx m f p (u ||| 2 ^ p) else 0) = w
        have hwp : ∀ p, w p = if vCf nx L u p then 1 + vLg nx m f p (u ||| 2 ^ p) else 0 := fun p => by rw [← hw]
        generalize hpy : (fun p => pre ++ (p :: vLp nx m f p (u ||| 2 ^ p))) = pay
        have hpp : ∀ p, pay p = pre ++ (p :: vLp nx m f p (u ||| 2 ^ p)) := fun p => by rw [← hpy]
        have eLg : vLg nx m (f + 1) L u = vMx w m := by rw [vLg, hw]
        have eLp : vLp nx m (f + 1) L u = if vMx w m = 0 then [] else vAr w m :: vLp nx m f (vAr w m) (u ||| 2 ^ (vAr w m)) := by rw [vLp, eLg, hw]
        have loop : ∀ M1 ls1, dp ≤ M1 → (∀ g1, xRw g g1 → (∀ i, i < dp → g1.1 52 i = g.1 52 i) → g1.1 49 0 = nI (vRs dp w pay M1 ls1 m).1 → (vRs dp w pay M1 ls1 m).1 ≤ 6 → xLs g1 50 (vRs dp w pay M1 ls1 m).2 → Q none g1) →
            ∀ d k, k + d = m → ∀ g1, xRw g g1 → (∀ i, i < dp → g1.1 52 i = g.1 52 i) → g1.1 49 0 = nI (vRs dp w pay M1 ls1 k).1 → (vRs dp w pay M1 ls1 k).1 ≤ 6 → xLs g1 50 (vRs dp w pay M1 ls1 k).2 → xm_go xs_X xk_X2_tryLongest [xt_X2_keep, xt_X2_canFollow, xt_X2_tryLongest (f + 1)] xc_X2_tryLongest Q (xm_drop 15 xc_X2_tryLongest) [.ref 49, .int (nI dp), .int (nI u), .int (nI k)] [] g1 := by
          intro M1 ls1 hM1 fin d
          induction d with
          | zero =>
            intro k hk g1 hf hi c1 c2 c3
            have hk : k = m := by omega
            subst hk
            have h11 := hf.rows hr
            refine xm_run_go hm 30 ⟨fun _ => fin g1 hf hi c1 c2 c3, fun q => ?_⟩
            rw [h11.1] at q
            exact absurd q (nI_nlt (Nat.le_refl _) (by omega))
          | succ d ih =>
            intro k hk g1 hf hi c1 c2 c3
            have h11 := hf.rows hr
            have hk6 : k < 6 := by omega
            have hkm : k < m := by omega
            have hl1 : xLast dp L m g1 := by
              rcases hl with z | ⟨z1, z2, z3, z4⟩
              · exact Or.inl z
              · exact Or.inr ⟨z1, z2, z3, by rw [hi _ (by omega)]; exact z4⟩
            refine xm_run_go hm 50 ⟨fun q => ?_, fun _ => ⟨(dp, u, k, L, m, sh, nx), ⟨rfl, hu, hk6, hl1, h11⟩, ⟨fun q => ?_, fun q => ⟨dp, ⟨by omega, rfl⟩, (dp + 1, u ||| 2 ^ k, k, pre ++ [k], (vRs dp w pay M1 ls1 k).1, (vRs dp w pay M1 ls1 k).2, m, sh, nx), ⟨?_, ub_orlt hu (ub_pow hk6), hd1, ?_, ?_, ?_, c2, ?_, ?_, ?_⟩, ?_⟩⟩⟩⟩
            · rw [h11.1] at q
              exact absurd q (nI_ge (by omega) (by omega))
            · have z : w k = 0 := by
                rw [hwp]
                cases z : vCf nx L u k with
                | false => rfl
                | true => rw [z] at q; exact absurd q (by decide)
              have := ih (k + 1) (by omega) g1 hf hi (by rw [vRs_no z]; exact c1) (by rw [vRs_no z]; exact c2) (by rw [vRs_no z]; exact c3)
              rw [nI_succ] at this
              exact xm_cut hm this
            · rw [ub_or1 u hu k hk6, d1]
            · rw [List.length_append, hpl]; rfl
            · refine xLs.snoc (hpr.fr (fun i hi2 => ?_)) ?_
              · rw [xg_in, if_neg (by omega)]; exact hi i (by omega)
              · rw [hpl, xg_in, if_pos rfl]
            · exact Or.inr ⟨by omega, by omega, hkm, by rw [show dp + 1 - 1 = dp by omega, xg_in, if_pos rfl]⟩
            · rw [xg_off _ _ _ (by decide)]; exact c1
            · exact c3.fr (fun i _ => by rw [xg_off _ _ _ (by decide)])
            · exact (xRw.rf.pt _ _).rows h11
            · rintro o g2 ⟨rfl, q1, q2, q3, q4, q5⟩
              have z : vCf nx L u k = true := by
                cases z : vCf nx L u k with
                | true => rfl
                | false => rw [z] at q; exact absurd rfl q
              have ew : dp + 1 + vLg nx m f k (u ||| 2 ^ k) = dp + w k := by rw [hwp, z, if_pos rfl]; omega
              have wpos : 0 < w k := by rw [hwp, z, if_pos rfl]; omega
              rw [ew, List.append_assoc, List.singleton_append, ← hpp] at q3 q4 q5
              have := ih (k + 1) (by omega) g2 ((hf.pt _ _).tr q1) (fun i hi2 => by rw [q2 i (by omega), xg_in, if_neg (by omega)]; exact hi i hi2) (by rw [vRs_yes wpos]; exact q3) (by rw [vRs_yes wpos]; exact q4) (by rw [vRs_yes wpos]; exact q5)
              rw [nI_succ] at this
              exact xm_cut hm this
        have fin : ∀ M1 ls1, ((M < dp ∧ M1 = dp ∧ ls1 = pre) ∨ (dp ≤ M ∧ M1 = M ∧ ls1 = ls)) → vRs dp w pay M1 ls1 m = if M < dp + vLg nx m (f + 1) L u then (dp + vLg nx m (f + 1) L u, pre ++ vLp nx m (f + 1) L u) else (M, ls) := by
          intro M1 ls1 hc
          rw [eLg, eLp]
          unfold vRs
          rcases hc with ⟨a1, a2, a3⟩ | ⟨a1, a2, a3⟩
          · rw [a2, a3, if_pos (show M < dp + vMx w m by omega)]
            by_cases z : vMx w m = 0
            · rw [if_pos z, z, if_neg (by omega), List.append_nil]; rfl
            · rw [if_neg z, if_pos (by omega), hpp]
          · rw [a2, a3]
            by_cases y : M < dp + vMx w m
            · rw [if_pos (show 0 < vMx w m ∧ M < dp + vMx w m by omega), if_pos y, if_neg (by omega), hpp]
            · rw [if_neg (show ¬ (0 < vMx w m ∧ M < dp + vMx w m) by omega), if_neg y]
        refine xm_run_go hm 60 ⟨fun q => ⟨fun _ => xm_cut hm ?_, fun y => ?_⟩, fun q => ⟨(dp, nI dp), ⟨rfl, hd6⟩, ?_⟩⟩
        · rw [e0] at q
          have hle : dp ≤ M := (nI_leI (by omega) (by omega)).mp q
          refine loop M ls hle (fun g1 b1 b2 b3 b4 b5 => ?_) m 0 (by omega) g xRw.rf (fun _ _ => rfl) (by rw [vRs_0]; exact e0) (by rw [vRs_0]; exact hM) (by rw [vRs_0]; exact hls)
          rw [fin M ls (Or.inr ⟨hle, rfl, rfl⟩)] at b3 b4 b5
          exact hQ _ _ ⟨rfl, b1, b2, b3, b4, b5⟩
        · rw [h1] at y
          exact absurd y (nI_ge hdm (by omega))
        · rintro o g0 ⟨rfl, q1, q2, q3, q4, q5⟩
          rw [e0] at q
          have hlt : M < dp := (nI_ltI (by omega) (by omega)).mp q
          have h11 := q1.rows hr
          refine ⟨fun _ => xm_cut hm ?_, fun y => ?_⟩
          · refine loop dp pre (Nat.le_refl _) (fun g1 b1 b2 b3 b4 b5 => ?_) m 0 (by omega) g0 q1 (fun i _ => by rw [q4]) (by rw [vRs_0]; exact q2) (by rw [vRs_0]; exact hd6) (by
              rw [vRs_0]
              intro i x hx
              have hi : i < pre.length := (List.getElem?_eq_some_iff.mp hx).1
              rw [q5 i (by omega)]; exact hpr i x hx)
            rw [fin dp pre (Or.inl ⟨hlt, rfl, rfl⟩)] at b3 b4 b5
            exact hQ _ _ ⟨rfl, b1, b2, b3, b4, b5⟩
          · rw [h11.1] at y
            exact absurd y (nI_ge hdm (by omega))
def xt_X2_tryLongestA : xT := fun av g Q => ∃ f, f ≤ 8 ∧ xt_X2_tryLongest f av g Q
theorem xp_X2_tryLongestA {l : Launch} {D : va_G} {cA : Nat → ClassId} {B : List (Nat × Cell)} : xm_Met l D cA B xs_X 11 yX2_tryLongest cX2_tryLongest 4 none xt_X2_tryLongestA := fun ad sz av g Q ⟨f, hf, h⟩ => xp_X2_tryLongest f 8 hf ad sz av g Q h
theorem xn_X2_tryLongestA : xm_mono xt_X2_tryLongestA := fun av g Q Q' h ⟨f, hf, k⟩ => ⟨f, hf, xn_X2_tryLongest f av g Q Q' h k⟩
def xt_X2_findLongest : xT := xm_rl (Z := Nat × Nat × (Nat → Nat)) (fun (m, sh, nx) av g => av = [.ref 49] ∧ xRows m sh nx g) (fun (m, sh, nx) g o g' => o = none ∧ xRw g g' ∧ g'.1 49 0 = nI (vLg nx m m 7 0) ∧ vLg nx m m 7 0 ≤ 6 ∧ xLs g' 50 (vLp nx m m 7 0))
set_option maxRecDepth 100000 in
set_option maxHeartbeats 4000000 in
theorem xp_X2_findLongest {l : Launch} {D : va_G} {cA : Nat → ClassId} {B : List (Nat × Cell)} : xm_Met l D cA B xs_X 12 yX2_findLongest cX2_findLongest 1 none xt_X2_findLongest := by
  have hm : xm_monos [xt_X2_tryLongestA] := ⟨xn_X2_tryLongestA, trivial⟩
  refine xm_meth (own := RX2) (ks := xk_X2_findLongest) (C := xc_X2_findLongest) (Ts := [xt_X2_tryLongestA]) (by decide +kernel) rfl xm_clsok xs_X_ok xf_X2_ok xi_X2_ok xj_X2_ok (xm_lk xl_X2_92 xp_X2_tryLongestA (by decide) xm_lk0) xo_X2_findLongest ?_ ?_
  · rintro av g Q ⟨z, ⟨rfl, -⟩, -⟩
    exact Nat.le_of_ble_eq_true rfl
  · rintro av g Q ⟨⟨m, sh, nx⟩, ⟨rfl, hr⟩, hQ⟩
    dsimp only at hQ hr
    have hm8 : m + 1 ≤ 8 := by have := hr.2.2.2.1; omega
    have z6 : (0 : Nat) < 64 := by decide
    have z7 : (0 : Nat) ≤ 6 := by decide
    have zm : 0 + m = m := by omega
    have h1 := (xRw.rf (g := g)).p9 (j := 0) 0 (by omega)
    refine xm_run_go hm 20 ⟨m + 1, hm8, (0, 0, 7, [], 0, [], m, sh, nx), ⟨rfl, z6, zm, rfl, xLs_nil, Or.inl ⟨rfl, rfl⟩, z7, ?_, xLs_nil, h1.rows hr⟩, ?_⟩
    · rw [xg_in, if_pos rfl]; rfl
    · rintro o g2 ⟨rfl, q1, q2, q3, q4, q5⟩
      have key : (if 0 < 0 + vLg nx m m 7 0 then (0 + vLg nx m m 7 0, [] ++ vLp nx m m 7 0) else (0, [])) = (vLg nx m m 7 0, vLp nx m m 7 0) := by
        rw [Nat.zero_add, List.nil_append]
        by_cases z : 0 < vLg nx m m 7 0
        · rw [if_pos z]
        · rw [if_neg z]
          have z0 : vLg nx m m 7 0 = 0 := by omega
          rw [z0]
          cases m with
          | zero => rfl
          | succ m => rw [vLp, if_pos z0]
      rw [key] at q3 q4 q5
      exact hQ _ _ ⟨rfl, h1.tr q1, q3, q4, q5⟩
