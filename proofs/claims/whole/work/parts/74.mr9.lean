-- THE REFERENCE READS: one telling
def mTr (sd a : Nat) (X : Nat → List (vX × vX × vX) × vX) (g : xG) : Prop := g.1 0 12 = 0 ∧ g.1 0 19 = nI sd ∧ ∃ b c, 4 * b ≤ a ∧ c ≤ a ∧ g.1 0 35 = nI (130 * sd + b) ∧ g.1 0 41 = nI (420 * sd + c) ∧ ∀ i, i < 4 → mLy g sd i (130 * sd + b) (420 * sd + c) (X i).1 (X i).2
theorem mTr.d {sd a a' : Nat} {X : Nat → List (vX × vX × vX) × vX} {g g' : xG} (h : mTr sd a X g) (f : mFd g g') (ha : a ≤ a') : mTr sd a' X g' := by
  obtain ⟨h1, h2, b, c, h3, h4, h5, h6, h7⟩ := h
  refine ⟨f.2.1.trans h1, f.2.2.1.trans h2, b, c, by omega, by omega, f.2.2.2.1.trans h5, f.2.2.2.2.trans h6, fun i hi => ?_⟩
  exact (h7 i hi).k (by rw [f.1 20 (by decide) (by decide)]) (by rw [f.1 21 (by decide) (by decide)]) (fun c j a b _ => by rw [f.1 c (by omega) (by omega)]) (fun j _ => by rw [f.1 27 (by decide) (by decide), f.1 28 (by decide) (by decide)]; exact ⟨rfl, rfl⟩) (Nat.le_refl _) (Nat.le_refl _)
def mTl (k : vTk) (N sd a : Nat) (s : pSt) (g : xG) : Prop := mDa k N sd a s g ∧ mTr sd a (qX s) g
theorem mSd.fr {sd : Nat} {s : pSt} {g g' : xG} (h : mSd sd s g) (hk : ∀ k, 10 ≤ k → k ≤ 19 → g'.1 k = g.1 k) : mSd sd s g' := by
  obtain ⟨h1, h2, h3, h4, h5, h6, h7⟩ := h
  refine ⟨by rw [hk 10 (by decide) (by decide)]; exact h1, by rw [hk 14 (by decide) (by decide)]; exact h2, by rw [hk 16 (by decide) (by decide)]; exact h3, fun i q hq => ?_, fun i q hq => ?_, fun hn i q hq => ?_, by rw [hk 19 (by decide) (by decide)]; exact h7⟩
  · rw [hk 11 (by decide) (by decide), hk 12 (by decide) (by decide), hk 13 (by decide) (by decide)]; exact h4 i q hq
  · rw [hk 15 (by decide) (by decide)]; exact h5 i q hq
  · rw [hk 17 (by decide) (by decide), hk 18 (by decide) (by decide)]; exact h6 hn i q hq
theorem mDa.w {k : vTk} {N sd a b : Nat} {s : pSt} {g g' : xG} (h : mDa k N sd a s g) (f : mFw g g') (e15 : g'.1 0 15 = g.1 0 15) (e16 : g'.1 0 16 = g.1 0 16) (hat : mAt N (.inr b) g') (hp : k.2.1 a ≤ k.2.1 b) : mDa k N sd b s g' := by
  obtain ⟨-, h2, ⟨nm, h3, h4⟩, h5⟩ := h
  exact ⟨hat, h2.k hp e15 e16, ⟨nm, h3.w f, h4⟩, h5.fr (fun c h1 _ => f.2.1 c (by omega))⟩
def nRo (n m a : Nat) (g : xG) : xG := if n = m then nFail 2 a g else nGo a g
theorem nRo_at {k : vTk} {N n m a : Nat} {g : xG} (h : mAt N (.inr a) g) (tk : mTk k N g) (h0 : k.1 a ≠ 0) (h1 : k.1 a ≠ 1) : mAt N (pRo k n m a) (nRo n m a g) := by
  have aN := h.2.2
  have N4 := tk.1
  unfold pRo nRo
  by_cases c : n = m
  · rw [if_pos c, if_pos c]
    exact nFail_fl (f := 2) h.1 (Or.inr rfl) (by omega) h.2.1 (tk.2.2 a aN).2.1
  · rw [if_neg c, if_neg c]
    exact mAt.go h tk (by omega) h.2.1 (fun b hb => by cases hb; exact ⟨h0, h1⟩)
theorem nRo_w {n m a : Nat} {g : xG} : mFw g (nRo n m a g) ∧ ∀ j, j ≠ 11 → j ≠ 13 → j ≠ 14 → (nRo n m a g).1 0 j = g.1 0 j := by
  unfold nRo
  split
  · exact ⟨mFw.rf.fl _ _, fun j _ h2 h3 => nFail_j h2 h3⟩
  · refine ⟨mFw.rf.go _, fun j h1 h2 h3 => ?_⟩
    unfold nGo
    split
    · exact nFail_j h2 h3
    · rw [xg_in, if_neg h1]
theorem nMust_j {x : Int32} {a j : Nat} {g : xG} (h1 : j ≠ 11) (h2 : j ≠ 13) (h3 : j ≠ 14) : (nMust x a g).1 0 j = g.1 0 j := by
  unfold nMust nGo
  split
  · split
    · exact nFail_j h2 h3
    · rw [xg_in, if_neg h1]
  · exact nFail_j h2 h3
theorem mFe.d {g g' : xG} (h : mFe g g') : ∀ c, 10 ≤ c → c ≤ 19 → g'.1 c = g.1 c := fun c h1 h2 => h.2.1 c (by omega) (by omega)
theorem mAt.gt {N : Nat} {q : pF} {g : xG} (h : mAt N (.inl q) g) : ¬ g.1 0 13 ≤ 0 := by
  have h : mFl q.1 q.2 g := h
  rw [h.1]; rcases h.2.1 with w | w <;> rw [w] <;> decide
theorem mAt.le {N a : Nat} {g : xG} (h : mAt N (.inr a) g) : g.1 0 13 ≤ 0 := by rw [h.1]; decide
theorem nI_23 : ∀ l, l < 4 → nI (23 + l) - 23 = nI l := by decide +kernel
theorem nI_l23 : ∀ v, v < 23 → nI v - 23 < 0 := by decide +kernel
theorem nI_g26 : ∀ v, v < 40 → 27 ≤ v → ¬ nI v - 23 < 0 ∧ ¬ nI v ≤ 26 := by decide +kernel
theorem nI_r26 : ∀ v, v < 40 → 23 ≤ v → v ≤ 26 → ¬ nI v - 23 < 0 ∧ nI v ≤ 26 := by decide +kernel
theorem pMk_or : ∀ k, k < 148 → pVk k = true → (k = 128 ∧ pMk k = 20) ∨ (k = 129 ∧ pMk k = 21) ∨ (k = 130 ∧ pMk k = 22) ∨ (131 ≤ k ∧ k ≤ 134 ∧ pMk k = 23 + (k - 131)) ∨ (k = 135 ∧ pMk k = 27) ∨ (¬ (128 ≤ k ∧ k ≤ 135) ∧ (pMk k < 20 ∨ 28 ≤ pMk k)) := by decide +kernel
-- a person
def pPeS (k : vTk) (a : Nat) (s : pSt) : pSt := (pLt (pLt (qL s) (pDp s (k.2.2.2 a)) 3 (k.2.1 a)) (pOut (k.2.2.1 (a + 1)) 0 9) 5 (k.2.1 (a + 1)), qS s, qP s ++ [(k.2.2.2 a, k.2.2.1 (a + 1))], qH s, qD s, qX s)
def pPeC (k : vTk) (a : Nat) : pF ⊕ Nat := pBn (pBn (pBn (.inr a) (pMu k 2)) (pMu k 3)) (pMu k 59)
def pShS (k : vTk) (a : Nat) (s : pSt) : pSt := (pLt (pLt (qL s) (pFd (k.2.2.2 a) (pNp s)).isNone 4 (k.2.1 a)) (pFd (k.2.2.2 (a + 1)) (pNs s)).isNone 4 (k.2.1 (a + 1)), qS s, qP s, qH s ++ [((pFd (k.2.2.2 a) (pNp s)).getD 0, (pFd (k.2.2.2 (a + 1)) (pNs s)).getD 0)], qD s, qX s)
def pShC (k : vTk) (a : Nat) : pF ⊕ Nat := pBn (pBn (pBn (.inr a) (pMu k 2)) (pMu k 2)) (pMu k 59)
def pSeS (k : vTk) (a : Nat) (s : pSt) : pSt := (pLt (qL s) (pOut (k.2.2.1 a) 0 9999) 5 (k.2.1 a), qS s, qP s, qH s, k.2.2.1 a, qX s)
def pSeC (k : vTk) (a : Nat) : pF ⊕ Nat := pBn (pBn (.inr a) (pMu k 3)) (pMu k 59)
theorem pTell_1 {k : vTk} {a : Nat} {s : pSt} (h : k.1 a = 128) : pTell k a s = pBn (pRo k (qS s).length 5 a) fun a1 => pBn (pSlC k a1) fun b => .inr (b, pSlS k a1 s) := by
  unfold pTell
  rw [if_pos h]
  cases hr : pRo k (qS s).length 5 a with
  | inl q => rfl
  | inr a1 => obtain ⟨-, -, rfl⟩ := pRo_i.mp hr; rfl
theorem pTell_2 {k : vTk} {a : Nat} {s : pSt} (h : k.1 a = 129) : pTell k a s = pBn (pRo k (qP s).length 6 a) fun a1 => pBn (pPeC k a1) fun b => .inr (b, pPeS k a1 s) := by
  unfold pTell
  rw [if_neg (by omega), if_pos h]
  cases hr : pRo k (qP s).length 6 a with
  | inl q => rfl
  | inr a1 => obtain ⟨-, -, rfl⟩ := pRo_i.mp hr; rfl
theorem pTell_3 {k : vTk} {a : Nat} {s : pSt} (h : k.1 a = 130) : pTell k a s = pBn (pRo k (qH s).length 20 a) fun a1 => pBn (pShC k a1) fun b => .inr (b, pShS k a1 s) := by
  unfold pTell
  rw [if_neg (by omega), if_neg (by omega), if_pos h]
  cases hr : pRo k (qH s).length 20 a with
  | inl q => rfl
  | inr a1 => obtain ⟨-, -, rfl⟩ := pRo_i.mp hr; rfl
theorem pLr_law (k : vTk) (a : Nat) : pLr k (pGo k a) = pLaw k a := by
  unfold pLaw pLr
  cases pGo k a with
  | inl q => rfl
  | inr a1 => rfl
theorem mDa.e {k : vTk} {N sd a b : Nat} {s : pSt} {g g' : xG} (h : mDa k N sd a s g) (f : mFe g g') (hat : mAt N (.inr b) g') (hp : k.2.1 a ≤ k.2.1 b) : mDa k N sd b s g' := by
  obtain ⟨-, h2, ⟨nm, h3, h4⟩, h5⟩ := h
  refine ⟨hat, h2.k hp (f.2.2 15 (by decide)) (f.2.2 16 (by decide)), ⟨nm, ⟨(f.2.2 20 (by decide)).trans h3.1, h3.2.1, fun i q hq => ?_⟩, h4⟩, h5.fr (fun c h1 h2 => f.d c h1 h2)⟩
  rw [f.1, f.2.1 9 (by decide) (by decide)]; exact h3.2.2 i q hq
theorem pTell_4 {k : vTk} {a : Nat} {s : pSt} (h : 131 ≤ k.1 a ∧ k.1 a ≤ 134) : pTell k a s = pBn (pLr k (pGo k a)) fun q => .inr (q.1, qL s, qS s, qP s, qH s, qD s, fun i => if i = k.1 a - 131 then q.2 else qX s i) := by
  unfold pTell
  rw [if_neg (by omega), if_neg (by omega), if_neg (by omega), if_pos h]
  rw [pLr_law]
theorem pTell_5 {k : vTk} {a : Nat} {s : pSt} (h : k.1 a = 135) : pTell k a s = pBn (pGo k a) fun a1 => pBn (pSeC k a1) fun b => .inr (b, pSeS k a1 s) := by
  unfold pTell
  rw [if_neg (by omega), if_neg (by omega), if_neg (by omega), if_neg (by omega), if_pos h]
  cases hr : pGo k a with
  | inl q => rfl
  | inr a1 => obtain ⟨-, rfl⟩ := pGo_i.mp hr; rfl
theorem pTell_6 {k : vTk} {a : Nat} {s : pSt} (h : ¬ (128 ≤ k.1 a ∧ k.1 a ≤ 135)) : pTell k a s = .inl (1, k.2.1 a) := by
  unfold pTell
  rw [if_neg (by omega), if_neg (by omega), if_neg (by omega), if_neg (by omega), if_neg (by omega)]
def xt_X9_tellOne : xT := xm_rl (Z := vTk × Nat × Nat × Nat × pSt) (fun (k, N, sd, a, s) av g => av = [.ref 0] ∧ mTk k N g ∧ pKk k N ∧ sd < 2 ∧ mTl k N sd a s g ∧ (qS s).length ≤ 5 ∧ (qP s).length ≤ 6 ∧ (qH s).length ≤ 20 ∧ k.1 a ≠ 0)
  (fun (k, N, sd, a, s) g o g' => o = none ∧ mFr sd g g' ∧ (∀ q, pTell k a s = .inl q → mFl q.1 q.2 g') ∧ ∀ a' s', pTell k a s = .inr (a', s') → mTl k N sd a' s' g')
set_option maxRecDepth 100000 in
set_option maxHeartbeats 400000 in
theorem xp_X9_tellOne {l : Launch} {D : va_G} {cA : Nat → ClassId} {B : List (Nat × Cell)} : xm_Met l D cA B xs_M 6 yX9_tellOne cX9_tellOne 2 none xt_X9_tellOne := by
  have hm : xm_monos [xt_X9_roomFor, xt_X9_tellSlide, xt_X9_named, xt_X9_bounded, xt_X9_endsName, xt_X9_known, xt_X9_must, xt_X9_goesOn, xt_X9_fail, xt_X9_tellLaw] := ⟨(by first | exact xm_fn_mono _ _ _ | exact xm_rl_mono _ _), (by first | exact xm_fn_mono _ _ _ | exact xm_rl_mono _ _), (by first | exact xm_fn_mono _ _ _ | exact xm_rl_mono _ _), (by first | exact xm_fn_mono _ _ _ | exact xm_rl_mono _ _), (by first | exact xm_fn_mono _ _ _ | exact xm_rl_mono _ _), (by first | exact xm_fn_mono _ _ _ | exact xm_rl_mono _ _), (by first | exact xm_fn_mono _ _ _ | exact xm_rl_mono _ _), (by first | exact xm_fn_mono _ _ _ | exact xm_rl_mono _ _), (by first | exact xm_fn_mono _ _ _ | exact xm_rl_mono _ _), (by first | exact xm_fn_mono _ _ _ | exact xm_rl_mono _ _), trivial⟩
  refine xm_meth (own := RX9) (ks := xk_X9_tellOne) (C := xc_X9_tellOne) (Ts := [xt_X9_roomFor, xt_X9_tellSlide, xt_X9_named, xt_X9_bounded, xt_X9_endsName, xt_X9_known, xt_X9_must, xt_X9_goesOn, xt_X9_fail, xt_X9_tellLaw]) (by decide +kernel) rfl xm_clsok xs_M_ok xf_X9_ok xi_X9_ok xj_X9_ok (xm_lk xl_X9_254 xp_X9_roomFor (by decide) (xm_lk xl_X9_258 xp_X9_tellSlide (by decide) (xm_lk xl_X9_261 xp_X9_named (by decide) (xm_lk xl_X9_265 xp_X9_bounded (by decide) (xm_lk xl_X9_269 xp_X9_endsName (by decide) (xm_lk xl_X9_272 xp_X9_known (by decide) (xm_lk xl_X9_275 xp_X9_must (by decide) (xm_lk xl_X9_221 xp_X9_goesOn (by decide) (xm_lk xl_X9_215 xp_X9_fail (by decide) (xm_lk xl_X9_278 xp_X9_tellLaw (by decide) xm_lk0)))))))))) xo_X9_tellOne ?_ ?_
  · rintro av g Q ⟨z, ⟨rfl, -⟩, -⟩
    exact Nat.le_of_ble_eq_true rfl
  · rintro av g Q ⟨⟨k, N, sd, a, s⟩, ⟨rfl, tk, kk, sd2, htl, n5, p6, h20, k0⟩, hQ⟩
    dsimp only at tk kk sd2 htl n5 p6 h20 k0 hQ
    obtain ⟨hda, htr⟩ := id htl
    obtain ⟨hat, hlt, ⟨nm, nt, nn⟩, hsd⟩ := id hda
    obtain ⟨h13, h11, aN⟩ := id hat
    have a4 : a ≤ 400 := by have := tk.1; omega
    have e19 : g.1 0 19 = nI sd := htr.2.1
    obtain ⟨t1, t2, ⟨t3, tv⟩, -, -⟩ := tk.2.2 a aN
    obtain ⟨W, hW⟩ : ∃ W, pTell k a s = W := ⟨_, rfl⟩
    rw [hW] at hQ
    have le0 : g.1 0 13 ≤ 0 := by rw [h13]; decide
    -- with a fault
    have bad : ∀ g' q, W = .inl q → mFr sd g g' → mFl q.1 q.2 g' → Q none g' := fun g' q hq f fl => hQ _ _ ⟨rfl, f, (fun q' h => by rw [hq] at h; cases h; exact fl), (fun a' s' h => by rw [hq] at h; cases h)⟩
    have good : ∀ g' a' s', W = .inr (a', s') → mFr sd g g' → mTl k N sd a' s' g' → Q none g' := fun g' a' s' hq f h2 => hQ _ _ ⟨rfl, f, (fun q' h => by rw [hq] at h; cases h), (fun a' s' h => by rw [hq] at h; cases h; exact h2)⟩
    rcases pMk_or _ t3 tv with ⟨hk, hv⟩ | ⟨hk, hv⟩ | ⟨hk, hv⟩ | ⟨hk, hk2, hv⟩ | ⟨hk, hv⟩ | ⟨hk, hv⟩
    · -- a slide
      have hx : g.1 3 a = 20 := by rw [t1, hv]; rfl
      rw [pTell_1 hk] at hW
      have at1 := nRo_at (n := (qS s).length) (m := 5) hat tk (by omega) (by omega)
      obtain ⟨fw1, j1⟩ := nRo_w (n := (qS s).length) (m := 5) (a := a) (g := g)
      have ea : [Value.ref 0, .int (g.1 10 sd), .int 5] = [Value.ref 0, .int (nI (qS s).length), .int (nI 5)] := by rw [hsd.1]; rfl
      cases hr : pRo k (qS s).length 5 a with
      | inl q =>
        rw [hr] at at1 hW
        have fl : mFl q.1 q.2 (nRo (qS s).length 5 a g) := at1
        have fin := bad _ q hW.symm fw1.n.r fl
        have n0 := fl.n0
        exact xm_run_go hm 60 ⟨a, ⟨by omega, h11⟩, ⟨fun _ => ⟨sd, ⟨sd2, e19⟩, ((qS s).length, 5, a), ⟨ea, by omega, by omega, a4, h11, h13⟩, ⟨fun _ => fin, fun w => absurd w n0⟩⟩, fun w => absurd hx w⟩⟩
      | inr a1 =>
        rw [hr] at at1 hW
        obtain ⟨x1, x2, x3⟩ := pRo_i.mp hr
        subst x3
        have p1 := kk.2 a (a + 1) (by omega) at1.2.2
        have da1 := hda.w fw1 (j1 15 (by decide) (by decide) (by decide)) (j1 16 (by decide) (by decide) (by decide)) at1 (by omega)
        have tk1 := tk.w fw1
        have e19' : (nRo (qS s).length 5 a g).1 0 19 = nI sd := (j1 19 (by decide) (by decide) (by decide)).trans e19
        have h13' : (nRo (qS s).length 5 a g).1 0 13 = 0 := at1.1
        have next : ∀ (o : Option Value) (g2 : xG), (o = none ∧ mFr sd (nRo (qS s).length 5 a g) g2 ∧ mFd (nRo (qS s).length 5 a g) g2 ∧ (∀ q, pSlC k (a + 1) = .inl q → mFl q.1 q.2 g2) ∧ ∀ b, pSlC k (a + 1) = .inr b → mDa k N sd b (pSlS k (a + 1) s) g2) → o = none ∧ Q none g2 := by
          rintro o g2 ⟨rfl, f2, d2, b2, c2⟩
          refine ⟨rfl, ?_⟩
          rw [pBn_r] at hW
          cases hc : pSlC k (a + 1) with
          | inl q =>
            rw [hc] at hW
            exact bad g2 q hW.symm (fw1.n.r.tr f2) (b2 q hc)
          | inr b =>
            rw [hc] at hW
            have hb : a ≤ b := by
              unfold pSlC at hc
              obtain ⟨y6, hy6, -, -, eb⟩ := pCi hc
              obtain ⟨y4, hy4, -, -, e6⟩ := pCi hy6
              obtain ⟨y2, hy2, -, -, e4⟩ := pCi hy4
              obtain ⟨y1, hy1, -, -, e2⟩ := pCi hy2
              obtain ⟨y0, hy0, -, -, e1⟩ := pCi hy1
              cases hy0
              omega
            exact good g2 b (pSlS k (a + 1) s) hW.symm (fw1.n.r.tr f2) ⟨c2 b hc, htr.d (fw1.n.d.tr d2) hb⟩
        refine xm_run_go hm 60 ⟨a, ⟨by omega, h11⟩, ⟨fun _ => ⟨sd, ⟨sd2, e19⟩, ((qS s).length, 5, a), ⟨ea, by omega, by omega, a4, h11, h13⟩, ⟨fun w => absurd h13' w, fun _ => ⟨(k, N, sd, a + 1, s), ⟨rfl, tk1, kk, sd2, e19', da1, by show (qS s).length < 5; omega, p6⟩, ?_⟩⟩⟩, fun w => absurd hx w⟩⟩
        intro o g2 h2
        obtain ⟨rfl, fin⟩ := next o g2 h2
        exact fin
    · -- a person
      have hx : g.1 3 a = 21 := by rw [t1, hv]; rfl
      have x20 : ¬ g.1 3 a = 20 := by rw [hx]; decide
      rw [pTell_2 hk] at hW
      have at1 := nRo_at (n := (qP s).length) (m := 6) hat tk (by omega) (by omega)
      obtain ⟨fw1, j1⟩ := nRo_w (n := (qP s).length) (m := 6) (a := a) (g := g)
      have ea : [Value.ref 0, .int (g.1 14 sd), .int 6] = [Value.ref 0, .int (nI (qP s).length), .int (nI 6)] := by rw [hsd.2.1]; rfl
      cases hr : pRo k (qP s).length 6 a with
      | inl q =>
        rw [hr] at at1 hW
        have fl : mFl q.1 q.2 (nRo (qP s).length 6 a g) := at1
        have fin := bad _ q hW.symm fw1.n.r fl
        have gt := mAt.gt (q := q) at1
        exact xm_run_go hm 60 ⟨a, ⟨by omega, h11⟩, ⟨fun w => absurd w x20, fun _ => ⟨fun _ => ⟨sd, ⟨sd2, e19⟩, ((qP s).length, 6, a), ⟨ea, by omega, by omega, a4, h11, h13⟩, ⟨fun w => absurd w gt, fun _ => fin⟩⟩, fun w => absurd hx w⟩⟩⟩
      | inr a1 =>
        rw [hr] at at1 hW
        obtain ⟨x1, x2, x3⟩ := pRo_i.mp hr
        subst x3
        rw [pBn_r] at hW
        have p1 := kk.2 a (a + 1) (by omega) at1.2.2
        have da1 := hda.w fw1 (j1 15 (by decide) (by decide) (by decide)) (j1 16 (by decide) (by decide) (by decide)) at1 (by omega)
        have tk1 := tk.w fw1
        have le1 := mAt.le at1
        generalize hg0 : nRo (qP s).length 6 a g = g0 at at1 fw1 j1 da1 tk1 le1
        -- the rest, from the name on
        have at32 : ∀ w, xm_go xs_M xk_X9_tellOne [xt_X9_roomFor, xt_X9_tellSlide, xt_X9_named, xt_X9_bounded, xt_X9_endsName, xt_X9_known, xt_X9_must, xt_X9_goesOn, xt_X9_fail, xt_X9_tellLaw] xc_X9_tellOne Q (xm_drop 32 xc_X9_tellOne) [.ref 0, w] [] g0 := by
          intro w
          obtain ⟨-, hlt0, ⟨nm0, nt0, nn0⟩, hsd0⟩ := id da1
          have nl : nm0.length ≤ 10 := by have := nn0.1; omega
          have e190 : g0.1 0 19 = nI sd := (j1 19 (by decide) (by decide) (by decide)).trans e19
          have lq0 : mLq k (.inr (a + 1)) (qL s) g0 := fun x hx => by cases hx; exact hlt0
          refine xm_run_go hm 120 ⟨(k, N, .inr (a + 1), qL s, nm0), ⟨rfl, tk1, kk, at1, lq0, nt0⟩, ?_⟩
          rintro o1 g1 ⟨t, rfl, t4, f1, at1', c1⟩
          obtain ⟨r1, hr1⟩ : ∃ r, pBn (.inr (a + 1)) (pMu k 2) = r := ⟨_, rfl⟩
          have x1 : ∀ y, r1 = .inr y → y = a + 2 := fun y hy => pCh (hr1.trans hy) (fun y hy => by cases hy; rfl)
          rw [hr1] at at1' c1
          obtain ⟨l1, hl1⟩ : ∃ l, l = pLt (qL s) (pAny (k.2.2.2 (a + 1)) nm0) 3 (k.2.1 (a + 1)) := ⟨_, rfl⟩
          have lq1 : mLq k r1 l1 g1 := fun y hy => by have e := x1 y hy; subst e; rw [hl1]; exact (c1 (a + 1) hy).2
          have tk1' := tk1.w f1
          have e191 : g1.1 0 19 = nI sd := (f1.2.2 19 (by decide) (by decide) (by decide) (by decide) (by decide)).trans e190
          have e141 : g1.1 14 sd = nI (qP s).length := by rw [f1.2.1 14 (by decide)]; exact hsd0.2.1
          have ix : 6 * g1.1 0 19 + g1.1 14 sd = nI (6 * sd + (qP s).length) := by rw [e191, e141, nI_6]
          refine ⟨sd, ⟨sd2, e191⟩, (k, N, r1, l1, 0, 9), ⟨rfl, by decide, by decide, tk1', kk, at1', lq1⟩, ?_⟩
          rintro o2 g2 ⟨v1, rfl, f2, at2, c2⟩
          obtain ⟨r2, hr2⟩ : ∃ r, pBn r1 (pMu k 3) = r := ⟨_, rfl⟩
          have x2 : ∀ y, r2 = .inr y → y = a + 3 := fun y hy => pCh (hr2.trans hy) x1
          rw [hr2] at at2 c2
          have tk2 := tk1'.w f2
          have w3 : mFg g2 (xm_sI g2 15 (6 * sd + (qP s).length) v1) := mFg.rf.pu _ _ ⟨by decide, by decide⟩
          have nt2 := ((nt0.w f1).w f2).g w3
          have b1 : mBz 15 * sd ≤ 6 * sd + (qP s).length ∧ 6 * sd + (qP s).length < mBz 15 * sd + mBz 15 := by rw [show mBz 15 = 6 from rfl]; omega
          have u3 : mFr sd g2 (xm_sI g2 15 (6 * sd + (qP s).length) v1) := mFr.rf.pu v1 ⟨by decide, by decide⟩ b1
          generalize hg3 : xm_sI g2 15 (6 * sd + (qP s).length) v1 = g3 at w3 nt2 u3
          have o15 : ∀ i, g3.1 15 i = if i = 6 * sd + (qP s).length then v1 else g0.1 15 i := fun i => by
            rw [← hg3, xg_in, f2.2.1 15 (by decide), f1.2.1 15 (by decide)]
          have oo : ∀ c, c ≠ 0 → c ≠ 15 → g3.1 c = g0.1 c := fun c h0 h1 => by
            rw [← hg3, xg_off _ _ _ h1, f2.2.1 c h0, f1.2.1 c h0]
          have fr3 : mFr sd g0 g3 := (f1.n.r.tr f2.n.r).tr u3
          have fd3 : mFd g0 g3 := (f1.n.d.tr f2.n.d).tr w3.d
          have e193 : g3.1 0 19 = nI sd := fd3.2.2.1.trans e190
          have e143 : g3.1 14 sd = nI (qP s).length := by rw [oo 14 (by decide) (by decide)]; exact hsd0.2.1
          have eb : 10 + g3.1 14 sd = nI (10 + (qP s).length) := by rw [e143, show (10 : Int32) = nI 10 from rfl, nI_add]
          have ea3 : [Value.ref 0, .int (nI t), .int (10 + g3.1 14 sd)] = [Value.ref 0, .int (nI t), .int (nI (10 + (qP s).length))] := by rw [eb]
          have next : ∀ (o : Option Value) (g8 : xG), (o = none ∧ mFn g3 g8 ∧ (g8.1 0 15 = g3.1 0 15 ∧ g8.1 0 16 = g3.1 0 16) ∧ mAt N (pBn r2 (pMu k 59)) g8 ∧ ∀ b, pBn r2 (pMu k 59) = .inr b → t ≤ N → k.1 t = 2 → pNok (k.2.2.2 t) → 10 + (qP s).length < 20 → mNt (nm0 ++ [(k.2.2.2 t, 10 + (qP s).length)]) g8) → o = none ∧ ((∃ q : pF, mFl q.1 q.2 g8 ∧ Q none g8) ∨ (g8.1 0 13 = 0 ∧ g8.1 0 19 = nI sd ∧ Q none (xm_sI g8 14 sd (g8.1 14 sd + 1)))) := by
            rintro o8 g8 ⟨rfl, f8, ⟨y15, y16⟩, at8, c8⟩
            refine ⟨rfl, ?_⟩
            have hch : pPeC k (a + 1) = pBn r2 (pMu k 59) := by unfold pPeC; rw [hr1, hr2]
            rw [← hch] at at8 c8
            have e198 : g8.1 0 19 = nI sd := (fd3.tr f8.d).2.2.1.trans e190
            cases hc : pPeC k (a + 1) with
            | inl q =>
              rw [hc] at at8 hW
              exact Or.inl ⟨q, at8, bad g8 q hW.symm ((fw1.n.r.tr fr3).tr f8.r) at8⟩
            | inr b =>
              rw [hc] at at8 hW
              refine Or.inr ⟨at8.1, e198, ?_⟩
              obtain ⟨y2, hy2, -, -, eb⟩ := pCi (hch.symm.trans hc)
              obtain ⟨y1, hy1, -, -, e2⟩ := pCi (hr2.trans hy2)
              obtain ⟨y0, hy0, k0', a40, e1⟩ := pCi (hr1.trans hy1)
              cases hy0
              subst e1 e2 eb
              obtain ⟨et, lt1⟩ := c1 (a + 1) hy1
              obtain ⟨ev1, lt2⟩ := c2 (a + 1 + 1) hy2
              subst et
              obtain ⟨h138, h118, bN⟩ := id at8
              have tN : a + 1 ≤ N := by omega
              have nt8 := c8 _ hc tN k0' ((kk.1 _ tN).1 k0') (by omega)
              have q8 : ∀ c, c ≠ 0 → c ≠ 9 → g8.1 c = g3.1 c := f8.2.2.1
              have w9 : mFg g8 (xm_sI g8 14 sd (g8.1 14 sd + 1)) := mFg.rf.pu _ _ ⟨by decide, by decide⟩
              have fr9 : mFr sd g (xm_sI g8 14 sd (g8.1 14 sd + 1)) := ((fw1.n.r.tr fr3).tr f8.r).pu _ (by decide) (by rw [show mBz 14 = 1 from rfl]; omega)
              have fd9 : mFd g (xm_sI g8 14 sd (g8.1 14 sd + 1)) := ((fw1.n.d.tr fd3).tr f8.d).tr w9.d
              have e148 : g8.1 14 sd = nI (qP s).length := by rw [q8 14 (by decide) (by decide)]; exact e143
              have pp := kk.2 (a + 1 + 1 + 1) (a + 1 + 1 + 1 + 1) (by omega) bN
              have pp2 := kk.2 (a + 1 + 1) (a + 1 + 1 + 1) (by omega) (by omega)
              refine good _ _ (pPeS k (a + 1) s) hW.symm fr9 ⟨⟨mAt.g at8 w9, ?_, ⟨_, nt8.g w9, pNn.pe (q := (k.2.2.2 (a + 1), k.2.2.1 (a + 1 + 1))) (s' := pPeS k (a + 1) s) nn0 rfl rfl (by omega)⟩, ?_⟩, htr.d fd9 (by omega)⟩
              · refine mLate.g ?_ w9
                have el : pLt l1 (pOut (k.2.2.1 (a + 1 + 1)) 0 9) 5 (k.2.1 (a + 1 + 1)) = qL (pPeS k (a + 1) s) := by
                  rw [hl1, nt0.dp nn0]; rfl
                rw [← el]
                exact (lt2.g w3).k (by omega) y15 y16
              · have p10 : ∀ c, c ≠ 0 → c ≠ 9 → c ≠ 14 → c ≠ 15 → (xm_sI g8 14 sd (g8.1 14 sd + 1)).1 c = g0.1 c := fun c h0 h9 h10 h11 => by
                  rw [xg_off _ _ _ h10, q8 c h0 h9]; exact oo c h0 h11
                have p15 : ∀ i, (xm_sI g8 14 sd (g8.1 14 sd + 1)).1 15 i = if i = 6 * sd + (qP s).length then v1 else g0.1 15 i := fun i => by
                  rw [xg_off _ _ _ (by decide), q8 15 (by decide) (by decide)]; exact o15 i
                obtain ⟨s1, s2, s3, s4, s5, s6, s7⟩ := hsd0
                refine ⟨by rw [p10 10 (by decide) (by decide) (by decide) (by decide)]; exact s1, ?_, by rw [p10 16 (by decide) (by decide) (by decide) (by decide)]; exact s3, fun i q hq => by rw [p10 11 (by decide) (by decide) (by decide) (by decide), p10 12 (by decide) (by decide) (by decide) (by decide), p10 13 (by decide) (by decide) (by decide) (by decide)]; exact s4 i q hq, fun i q hq => ?_, fun hn i q hq => ?_, by rw [p10 19 (by decide) (by decide) (by decide) (by decide)]; exact s7⟩
                · rw [xg_in, if_pos rfl, e148, nI_1]
                  show _ = nI (qP s ++ [_]).length
                  rw [List.length_append]; rfl
                · rw [p15]
                  rcases app_get hq with ⟨c, hq⟩ | ⟨rfl, rfl⟩
                  · rw [if_neg (by omega)]; exact s5 i q hq
                  · rw [if_pos rfl]; exact ev1
                · rw [p10 17 (by decide) (by decide) (by decide) (by decide), p10 18 (by decide) (by decide) (by decide) (by decide)]
                  exact s6 (pLt_n (pLt_n hn).1).1 i q hq
          have tk3 := tk2.g w3
          have at3 := at2.g w3
          rw [← hg3] at ea3 tk3 at3 nt2 e193 next
          refine ⟨6 * sd + (qP s).length, ⟨by omega, ix⟩, sd, ⟨sd2, e193⟩, (k, N, r2, nm0, t, 10 + (qP s).length), ⟨ea3, t4, tk3, at3, nt2, nl⟩, ?_⟩
          intro o8 g8 h8
          obtain ⟨rfl, h⟩ := next o8 g8 h8
          rcases h with ⟨q, fl, fin⟩ | ⟨z13, z19, fin⟩
          · exact ⟨fun _ => fin, fun w => absurd w fl.n0⟩
          · exact ⟨fun w => absurd z13 w, fun _ => ⟨sd, ⟨sd2, z19⟩, sd, ⟨sd2, z19⟩, fin⟩⟩
        rw [← hg0] at at32 le1
        exact xm_run_go hm 17 ⟨a, ⟨by omega, h11⟩, ⟨fun w => absurd w x20, fun _ => ⟨fun _ => ⟨sd, ⟨sd2, e19⟩, ((qP s).length, 6, a), ⟨ea, by omega, by omega, a4, h11, h13⟩, ⟨fun _ => at32 _, fun w => absurd le1 (Int32.not_le.mpr w)⟩⟩, fun w => absurd hx w⟩⟩⟩
    · -- who is shown what
      have hx : g.1 3 a = 22 := by rw [t1, hv]; rfl
      have x20 : ¬ g.1 3 a = 20 := by rw [hx]; decide
      have x21 : ¬ g.1 3 a = 21 := by rw [hx]; decide
      rw [pTell_3 hk] at hW
      have at1 := nRo_at (n := (qH s).length) (m := 20) hat tk (by omega) (by omega)
      obtain ⟨fw1, j1⟩ := nRo_w (n := (qH s).length) (m := 20) (a := a) (g := g)
      have ea : [Value.ref 0, .int (g.1 16 sd), .int 20] = [Value.ref 0, .int (nI (qH s).length), .int (nI 20)] := by rw [hsd.2.2.1]; rfl
      cases hr : pRo k (qH s).length 20 a with
      | inl q =>
        rw [hr] at at1 hW
        have fl : mFl q.1 q.2 (nRo (qH s).length 20 a g) := at1
        have fin := bad _ q hW.symm fw1.n.r fl
        have gt := mAt.gt (q := q) at1
        exact xm_run_go hm 60 ⟨a, ⟨by omega, h11⟩, ⟨fun w => absurd w x20, fun _ => ⟨fun w => absurd w x21, fun _ => ⟨fun _ => ⟨sd, ⟨sd2, e19⟩, ((qH s).length, 20, a), ⟨ea, by omega, by omega, a4, h11, h13⟩, ⟨fun w => absurd w gt, fun _ => fin⟩⟩, fun w => absurd hx w⟩⟩⟩⟩
      | inr a1 =>
        rw [hr] at at1 hW
        obtain ⟨x1, x2, x3⟩ := pRo_i.mp hr
        subst x3
        rw [pBn_r] at hW
        have p1 := kk.2 a (a + 1) (by omega) at1.2.2
        have da1 := hda.w fw1 (j1 15 (by decide) (by decide) (by decide)) (j1 16 (by decide) (by decide) (by decide)) at1 (by omega)
        have tk1 := tk.w fw1
        have le1 := mAt.le at1
        generalize hg0 : nRo (qH s).length 20 a g = g0 at at1 fw1 j1 da1 tk1 le1
        have at87 : ∀ w, xm_go xs_M xk_X9_tellOne [xt_X9_roomFor, xt_X9_tellSlide, xt_X9_named, xt_X9_bounded, xt_X9_endsName, xt_X9_known, xt_X9_must, xt_X9_goesOn, xt_X9_fail, xt_X9_tellLaw] xc_X9_tellOne Q (xm_drop 87 xc_X9_tellOne) [.ref 0, w] [] g0 := by
          intro w
          obtain ⟨-, hlt0, ⟨nm0, nt0, nn0⟩, hsd0⟩ := id da1
          have e190 : g0.1 0 19 = nI sd := (j1 19 (by decide) (by decide) (by decide)).trans e19
          have lq0 : mLq k (.inr (a + 1)) (qL s) g0 := fun x hx => by cases hx; exact hlt0
          have ix : 20 * g0.1 0 19 + g0.1 16 sd = nI (20 * sd + (qH s).length) := by rw [e190, hsd0.2.2.1, nI_20]
          refine xm_run_go hm 120 ⟨sd, ⟨sd2, e190⟩, (k, N, .inr (a + 1), qL s, nm0, 10), ⟨rfl, by decide, tk1, kk, at1, lq0, nt0⟩, ?_⟩
          rintro o1 g1 ⟨v1, rfl, f1, at1', c1⟩
          obtain ⟨r1, hr1⟩ : ∃ r, pBn (.inr (a + 1)) (pMu k 2) = r := ⟨_, rfl⟩
          have x1 : ∀ y, r1 = .inr y → y = a + 2 := fun y hy => pCh (hr1.trans hy) (fun y hy => by cases hy; rfl)
          rw [hr1] at at1' c1
          obtain ⟨l1, hl1⟩ : ∃ l, l = pLt (qL s) (pKn 10 (k.2.2.2 (a + 1)) nm0).isNone 4 (k.2.1 (a + 1)) := ⟨_, rfl⟩
          have lq1 : mLq k r1 l1 g1 := fun y hy => by have e := x1 y hy; subst e; rw [hl1]; exact (c1 (a + 1) hy).2
          have tk1' := tk1.w f1
          have b1 : mBz 17 * sd ≤ 20 * sd + (qH s).length ∧ 20 * sd + (qH s).length < mBz 17 * sd + mBz 17 := by rw [show mBz 17 = 20 from rfl]; omega
          have b2 : mBz 18 * sd ≤ 20 * sd + (qH s).length ∧ 20 * sd + (qH s).length < mBz 18 * sd + mBz 18 := by rw [show mBz 18 = 20 from rfl]; omega
          have w2 : mFg g1 (xm_sI g1 17 (20 * sd + (qH s).length) v1) := mFg.rf.pu _ _ ⟨by decide, by decide⟩
          have u2 : mFr sd g1 (xm_sI g1 17 (20 * sd + (qH s).length) v1) := mFr.rf.pu v1 ⟨by decide, by decide⟩ b1
          refine ⟨20 * sd + (qH s).length, ⟨by omega, ix⟩, (k, N, r1, l1, nm0, 0), ⟨rfl, by decide, tk1'.g w2, kk, at1'.g w2, lq1.g w2, (nt0.w f1).g w2⟩, ?_⟩
          rintro o3 g3 ⟨v2, rfl, f3, at3, c3⟩
          obtain ⟨r2, hr2⟩ : ∃ r, pBn r1 (pMu k 2) = r := ⟨_, rfl⟩
          have x2 : ∀ y, r2 = .inr y → y = a + 3 := fun y hy => pCh (hr2.trans hy) x1
          rw [hr2] at at3 c3
          have w4 : mFg g3 (xm_sI g3 18 (20 * sd + (qH s).length) v2) := mFg.rf.pu _ _ ⟨by decide, by decide⟩
          have u4 : mFr sd g3 (xm_sI g3 18 (20 * sd + (qH s).length) v2) := mFr.rf.pu v2 ⟨by decide, by decide⟩ b2
          have tk3 := (tk1'.g w2).w f3
          have nt4 := (((nt0.w f1).g w2).w f3).g w4
          have tk4 := tk3.g w4
          have at4 := at3.g w4
          have o17 : ∀ i, (xm_sI g3 18 (20 * sd + (qH s).length) v2).1 17 i = if i = 20 * sd + (qH s).length then v1 else g0.1 17 i := fun i => by
            rw [xg_off _ _ _ (by decide), f3.2.1 17 (by decide), xg_in, f1.2.1 17 (by decide)]
          have o18 : ∀ i, (xm_sI g3 18 (20 * sd + (qH s).length) v2).1 18 i = if i = 20 * sd + (qH s).length then v2 else g0.1 18 i := fun i => by
            rw [xg_in, f3.2.1 18 (by decide), xg_off _ _ _ (by decide), f1.2.1 18 (by decide)]
          have oo : ∀ c, c ≠ 0 → c ≠ 17 → c ≠ 18 → (xm_sI g3 18 (20 * sd + (qH s).length) v2).1 c = g0.1 c := fun c h0 h1 h2 => by
            rw [xg_off _ _ _ h2, f3.2.1 c h0, xg_off _ _ _ h1, f1.2.1 c h0]
          have fr4 : mFr sd g0 (xm_sI g3 18 (20 * sd + (qH s).length) v2) := ((f1.n.r.tr u2).tr f3.n.r).tr u4
          have fd4 : mFd g0 (xm_sI g3 18 (20 * sd + (qH s).length) v2) := ((f1.n.d.tr w2.d).tr f3.n.d).tr w4.d
          obtain ⟨p, p4, e11, ok, -⟩ := at4.pos tk4
          have at5 := at4.mu tk4 p4 e11 (c := 59) (by decide) (by decide) (by decide)
          generalize hg4 : xm_sI g3 18 (20 * sd + (qH s).length) v2 = g4 at w4 u4 nt4 tk4 at4 o17 o18 oo fr4 fd4 e11 ok at5
          have f5 : mFw g4 (nMust 4 p g4) := mFw.rf.mu _ _
          have at5 : mAt N (pBn r2 (pMu k 59)) (nMust 4 p g4) := at5
          have hch : pShC k (a + 1) = pBn r2 (pMu k 59) := by unfold pShC; rw [hr1, hr2]
          rw [← hch] at at5
          have y15 : (nMust 4 p g4).1 0 15 = g4.1 0 15 := nMust_j (by decide) (by decide) (by decide)
          have y16 : (nMust 4 p g4).1 0 16 = g4.1 0 16 := nMust_j (by decide) (by decide) (by decide)
          generalize hg5 : nMust 4 p g4 = g5 at f5 at5 y15 y16
          have e195 : g5.1 0 19 = nI sd := (fd4.tr f5.n.d).2.2.1.trans e190
          cases hc : pShC k (a + 1) with
          | inl q =>
            rw [hc] at at5 hW
            have fl : mFl q.1 q.2 g5 := at5
            have n0 := fl.n0
            have fin := bad g5 q hW.symm ((fw1.n.r.tr fr4).tr f5.n.r) fl
            rw [← hg5] at fin n0
            rw [← hg4] at fin n0 e11 ok
            exact ⟨20 * sd + (qH s).length, ⟨by omega, ix⟩, (4, p), ⟨rfl, p4, e11, ok⟩, ⟨fun _ => fin, fun w => absurd w n0⟩⟩
          | inr b =>
            rw [hc] at at5 hW
            obtain ⟨y2, hy2, -, -, eb⟩ := pCi (hch.symm.trans hc)
            obtain ⟨y1, hy1, -, -, e2⟩ := pCi (hr2.trans hy2)
            obtain ⟨y0, hy0, k0', a40, e1⟩ := pCi (hr1.trans hy1)
            cases hy0
            subst e1 e2 eb
            obtain ⟨ev1, lt1⟩ := c1 (a + 1) hy1
            obtain ⟨ev2, lt2⟩ := c3 (a + 1 + 1) hy2
            obtain ⟨h135, h115, bN⟩ := id at5
            have w9 : mFg g5 (xm_sI g5 16 sd (g5.1 16 sd + 1)) := mFg.rf.pu _ _ ⟨by decide, by decide⟩
            have fr9 : mFr sd g (xm_sI g5 16 sd (g5.1 16 sd + 1)) := ((fw1.n.r.tr fr4).tr f5.n.r).pu _ (by decide) (by rw [show mBz 16 = 1 from rfl]; omega)
            have fd9 : mFd g (xm_sI g5 16 sd (g5.1 16 sd + 1)) := ((fw1.n.d.tr fd4).tr f5.n.d).tr w9.d
            have e165 : g5.1 16 sd = nI (qH s).length := by rw [f5.2.1 16 (by decide), oo 16 (by decide) (by decide) (by decide)]; exact hsd0.2.2.1
            have pp := kk.2 (a + 1 + 1 + 1) (a + 1 + 1 + 1 + 1) (by omega) bN
            have nn0' : pNn nm0 (pShS k (a + 1) s) := nn0
            have fin := good _ _ (pShS k (a + 1) s) hW.symm fr9 ⟨⟨mAt.g at5 w9, by
                refine mLate.g ?_ w9
                have el : pLt l1 (pKn 0 (k.2.2.2 (a + 1 + 1)) nm0).isNone 4 (k.2.1 (a + 1 + 1)) = qL (pShS k (a + 1) s) := by
                  rw [hl1, (nn0.2 _).1, (nn0.2 _).2]; rfl
                rw [← el]
                exact (lt2.g w4).k (by omega) y15 y16, ⟨nm0, (nt4.w f5).g w9, nn0'⟩, by
                have p10 : ∀ c, c ≠ 0 → c ≠ 16 → c ≠ 17 → c ≠ 18 → (xm_sI g5 16 sd (g5.1 16 sd + 1)).1 c = g0.1 c := fun c h0 h9 h10 h11 => by
                  rw [xg_off _ _ _ h9, f5.2.1 c h0]; exact oo c h0 h10 h11
                obtain ⟨s1, s2, s3, s4, s5, s6, s7⟩ := hsd0
                refine ⟨by rw [p10 10 (by decide) (by decide) (by decide) (by decide)]; exact s1, by rw [p10 14 (by decide) (by decide) (by decide) (by decide)]; exact s2, ?_, fun i q hq => by rw [p10 11 (by decide) (by decide) (by decide) (by decide), p10 12 (by decide) (by decide) (by decide) (by decide), p10 13 (by decide) (by decide) (by decide) (by decide)]; exact s4 i q hq, fun i q hq => by rw [p10 15 (by decide) (by decide) (by decide) (by decide)]; exact s5 i q hq, fun hn i q hq => ?_, by rw [p10 19 (by decide) (by decide) (by decide) (by decide)]; exact s7⟩
                · rw [xg_in, if_pos rfl, e165, nI_1]
                  show _ = nI (qH s ++ [_]).length
                  rw [List.length_append]; rfl
                · rw [xg_off _ _ _ (by decide), xg_off _ _ _ (by decide), f5.2.1 17 (by decide), f5.2.1 18 (by decide), o17, o18]
                  rcases app_get hq with ⟨c, hq⟩ | ⟨rfl, rfl⟩
                  · rw [if_neg (by omega), if_neg (by omega)]; exact s6 (pLt_n (pLt_n hn).1).1 i q hq
                  · rw [if_pos rfl, if_pos rfl]
                    obtain ⟨z1, z2⟩ := pLt_n hn
                    obtain ⟨z3, z4⟩ := pLt_n z1
                    rw [← (nn0.2 _).2] at z4
                    rw [← (nn0.2 _).1] at z2
                    constructor
                    · show v1 = nI ((pFd (k.2.2.2 (a + 1)) (pNp s)).getD 0)
                      rw [← (nn0.2 _).2]
                      cases hz : pKn 10 (k.2.2.2 (a + 1)) nm0 with
                      | none => rw [hz] at z4; cases z4
                      | some x => exact ev1 x hz
                    · show v2 = nI ((pFd (k.2.2.2 (a + 1 + 1)) (pNs s)).getD 0)
                      rw [← (nn0.2 _).1]
                      cases hz : pKn 0 (k.2.2.2 (a + 1 + 1)) nm0 with
                      | none => rw [show k.2.2.2 (a + 2) = k.2.2.2 (a + 1 + 1) from rfl, hz] at z2; cases z2
                      | some x => exact ev2 x hz⟩, htr.d fd9 (by omega)⟩
            rw [← hg5] at fin h135 e195
            rw [← hg4] at fin h135 e195 e11 ok
            exact ⟨20 * sd + (qH s).length, ⟨by omega, ix⟩, (4, p), ⟨rfl, p4, e11, ok⟩, ⟨fun w => absurd h135 w, fun _ => ⟨sd, ⟨sd2, e195⟩, sd, ⟨sd2, e195⟩, fin⟩⟩⟩
        rw [← hg0] at at87 le1
        exact xm_run_go hm 17 ⟨a, ⟨by omega, h11⟩, ⟨fun w => absurd w x20, fun _ => ⟨fun w => absurd w x21, fun _ => ⟨fun _ => ⟨sd, ⟨sd2, e19⟩, ((qH s).length, 20, a), ⟨ea, by omega, by omega, a4, h11, h13⟩, ⟨fun _ => at87 _, fun w => absurd le1 (Int32.not_le.mpr w)⟩⟩, fun w => absurd hx w⟩⟩⟩⟩
    · -- a law
      have hx : g.1 3 a = nI (23 + (k.1 a - 131)) := by rw [t1, hv]
      obtain ⟨l, hl⟩ : ∃ l, l = k.1 a - 131 := ⟨_, rfl⟩
      rw [← hl] at hx
      have l4 : l < 4 := by omega
      have ne : ∀ c : Nat, c < 40 → c ≠ 23 + l → ¬ g.1 3 a = nI c := fun c hc h w => by
        rw [hx] at w
        have := nI_inj (by omega) (by omega) w
        omega
      rw [pTell_4 ⟨hk, hk2⟩, ← hl] at hW
      obtain ⟨c1, c2⟩ := nI_r26 (23 + l) (by omega) (by omega) (by omega)
      rw [← hx] at c1 c2
      have ei : g.1 3 a - 23 = nI l := by rw [hx]; exact nI_23 l l4
      have ea : [Value.ref 0, .int (g.1 3 a - 23)] = [Value.ref 0, .int (nI l)] := by rw [ei]
      have at1 := mAt.go (k := k) hat tk a4 h11 (fun b hb => by cases hb; omega)
      rw [pBn_r] at at1
      have fw1 : mFw g (nGo a g) := mFw.rf.go _
      have j1 : ∀ j, j ≠ 11 → j ≠ 13 → j ≠ 14 → (nGo a g).1 0 j = g.1 0 j := fun j h1 h2 h3 => by
        unfold nGo
        split
        · exact nFail_j h2 h3
        · rw [xg_in, if_neg h1]
      obtain ⟨r12, r19, b, c, rb, rc, r35, r41, rl⟩ := htr
      have tk1 := tk.w fw1
      have pre : ∀ a1, pGo k a = .inr a1 → 4 * b + 1 ≤ a1 ∧ c ≤ a1 := fun a1 h => by have := (pGo_i.mp h).2; omega
      have old : ∀ i, i < 4 → mLy (nGo a g) sd i (130 * sd + b) (420 * sd + c) (qX s i).1 (qX s i).2 := fun i hi => (rl i hi).k (by rw [fw1.2.1 20 (by decide)]) (by rw [fw1.2.1 21 (by decide)]) (fun c j a b _ => by rw [fw1.2.1 c (by omega)]) (fun j _ => by rw [fw1.2.1 27 (by decide), fw1.2.1 28 (by decide)]; exact ⟨rfl, rfl⟩) (Nat.le_refl _) (Nat.le_refl _)
      have next : ∀ (o : Option Value) (g' : xG), (o = none ∧ mF2 sd (nGo a g) g' ∧ (∀ q, pLr k (pGo k a) = .inl q → mFl q.1 q.2 g') ∧ ∀ a' bs e, pLr k (pGo k a) = .inr (a', bs, e) → mAt N (.inr a') g' ∧ g'.1 0 12 = 0 ∧ ∃ b' c', 4 * b' ≤ a' ∧ c' ≤ a' ∧ g'.1 0 35 = nI (130 * sd + b') ∧ g'.1 0 41 = nI (420 * sd + c') ∧ ∀ i, i < 4 → mLy g' sd i (130 * sd + b') (420 * sd + c') (if i = l then (bs, e) else qX s i).1 (if i = l then (bs, e) else qX s i).2) → o = none ∧ Q none g' := by
        rintro o g' ⟨rfl, f2, bd, gd⟩
        refine ⟨rfl, ?_⟩
        cases hc : pLr k (pGo k a) with
        | inl q =>
          rw [hc, pBn_l] at hW
          exact bad g' q hW.symm (fw1.n.r.tr f2.1) (bd q hc)
        | inr q =>
          obtain ⟨a', bs, e⟩ := q
          rw [hc, pBn_r] at hW
          obtain ⟨z1, z2, b', c', z3, z4, z5, z6, z7⟩ := gd a' bs e hc
          rw [pLr_law] at hc
          obtain ⟨-, la, -⟩ := pLaw_i hc
          have aN' := z1.2.2
          have p1 := kk.2 a a' la aN'
          -- between the two
          have dk : mDa k N sd a' s g' := by
            obtain ⟨-, h2, ⟨nm2, h3, h4⟩, h5⟩ := hda
            have f := f2.2
            refine ⟨z1, h2.k (by omega) ((f.2.2 15 (by decide)).trans (j1 15 (by decide) (by decide) (by decide))) ((f.2.2 16 (by decide)).trans (j1 16 (by decide) (by decide) (by decide))), ⟨nm2, ⟨((f.2.2 20 (by decide)).trans (j1 20 (by decide) (by decide) (by decide))).trans h3.1, h3.2.1, fun i q hq => ?_⟩, h4⟩, h5.fr (fun c h1 h2 => (f.d c h1 h2).trans (fw1.2.1 c (by omega)))⟩
            rw [f.1, f.2.1 9 (by decide) (by decide), fw1.1, fw1.2.1 9 (by decide)]; exact h3.2.2 i q hq
          exact good g' a' _ hW.symm (fw1.n.r.tr f2.1) ⟨dk, z2, ((f2.2.2.2 19 (by decide)).trans (j1 19 (by decide) (by decide) (by decide))).trans e19, b', c', z3, z4, z5, z6, z7⟩
      have go143 : ∀ w, xm_go xs_M xk_X9_tellOne [xt_X9_roomFor, xt_X9_tellSlide, xt_X9_named, xt_X9_bounded, xt_X9_endsName, xt_X9_known, xt_X9_must, xt_X9_goesOn, xt_X9_fail, xt_X9_tellLaw] xc_X9_tellOne Q (xm_drop 143 xc_X9_tellOne) [.ref 0, w] [] g := by
        intro w
        refine xm_run_go hm 60 ⟨a, ⟨by omega, h11⟩, ⟨fun q => absurd q c1, fun _ => ⟨a, ⟨by omega, h11⟩, ⟨fun _ => ⟨fun _ => ⟨a, ⟨rfl, a4, h11, Or.inl h13⟩, (k, N, sd, l, pGo k a, b, c, qX s), ⟨ea, l4, tk1, sd2, (j1 19 (by decide) (by decide) (by decide)).trans e19, at1, (j1 12 (by decide) (by decide) (by decide)).trans r12, (j1 35 (by decide) (by decide) (by decide)).trans r35, (j1 41 (by decide) (by decide) (by decide)).trans r41, by omega, by omega, pre, old⟩, ?_⟩, fun q => absurd le0 (Int32.not_le.mpr q)⟩, fun q => absurd c2 (Int32.not_le.mpr q)⟩⟩⟩⟩
        intro o g' h'
        obtain ⟨rfl, fin⟩ := next o g' h'
        exact fin
      exact xm_run_go hm 6 ⟨a, ⟨by omega, h11⟩, ⟨fun w => absurd w (ne 20 (by omega) (by omega)), fun _ => ⟨fun w => absurd w (ne 21 (by omega) (by omega)), fun _ => ⟨fun w => absurd w (ne 22 (by omega) (by omega)), fun _ => ⟨fun _ => go143 _, fun _ => ⟨fun _ => go143 _, fun _ => ⟨fun _ => go143 _, fun _ => ⟨fun _ => go143 _, fun _ => ⟨fun w => absurd w (ne 27 (by omega) (by omega)), fun _ => go143 _⟩⟩⟩⟩⟩⟩⟩⟩⟩
    · -- the seed
      have hx : g.1 3 a = 27 := by rw [t1, hv]; rfl
      have xn : ∀ c : Nat, c < 27 → ¬ g.1 3 a = nI c := fun c hc w => by
        rw [hx] at w
        have := nI_inj (a := 27) (by omega) (by omega) w
        omega
      rw [pTell_5 hk] at hW
      have at1 := mAt.go (k := k) hat tk a4 h11 (fun b hb => by cases hb; omega)
      rw [pBn_r] at at1
      have fw1 : mFw g (nGo a g) := mFw.rf.go _
      have j1 : ∀ j, j ≠ 11 → j ≠ 13 → j ≠ 14 → (nGo a g).1 0 j = g.1 0 j := fun j h1 h2 h3 => by
        unfold nGo
        split
        · exact nFail_j h2 h3
        · rw [xg_in, if_neg h1]
      have tk1 := tk.w fw1
      have e191 : (nGo a g).1 0 19 = nI sd := (j1 19 (by decide) (by decide) (by decide)).trans e19
      have lq1 : mLq k (pGo k a) (qL s) (nGo a g) := fun y hy => by
        have hn : a + 1 ≤ N := by
          rw [hy] at at1
          have := at1.2.2
          have := (pGo_i.mp hy).2
          omega
        have := (pGo_i.mp hy).2
        subst this
        have p1 := kk.2 a (a + 1) (by omega) hn
        exact hlt.k (by omega) (j1 15 (by decide) (by decide) (by decide)) (j1 16 (by decide) (by decide) (by decide))
      have next : ∀ (o : Option Value) (g2 : xG), (∃ v, o = some (.int v) ∧ mFw (nGo a g) g2 ∧ mAt N (pBn (pGo k a) (pMu k 3)) g2 ∧ ∀ b, pBn (pGo k a) (pMu k 3) = .inr (b + 1) → v = nI (k.2.2.1 b) ∧ mLate (pLt (qL s) (pOut (k.2.2.1 b) 0 9999) 5 (k.2.1 b)) (k.2.1 (b + 1)) g2) → ∃ v p, o = some (.int v) ∧ p ≤ 400 ∧ (xm_sI g2 19 sd v).1 0 11 = nI p ∧ mOk (xm_sI g2 19 sd v) ∧ Q none (nMust 4 p (xm_sI g2 19 sd v)) := by
        rintro o g2 ⟨v, rfl, f2, at2, c2⟩
        obtain ⟨r1, hr1⟩ : ∃ r, pBn (pGo k a) (pMu k 3) = r := ⟨_, rfl⟩
        rw [hr1] at at2 c2
        have w3 : mFg g2 (xm_sI g2 19 sd v) := mFg.rf.pu _ _ ⟨by decide, by decide⟩
        have u3 : mFr sd g2 (xm_sI g2 19 sd v) := mFr.rf.pu v ⟨by decide, by decide⟩ (by rw [show mBz 19 = 1 from rfl]; omega)
        have o19 : ∀ i, (xm_sI g2 19 sd v).1 19 i = if i = sd then v else g2.1 19 i := fun i => by rw [xg_in]
        have oo : ∀ c, c ≠ 0 → c ≠ 19 → (xm_sI g2 19 sd v).1 c = g.1 c := fun c h0 h1 => by rw [xg_off _ _ _ h1, f2.2.1 c h0, fw1.2.1 c h0]
        have tk3 := (tk1.w f2).g w3
        have at3 := at2.g w3
        obtain ⟨p, p4, e11, ok, -⟩ := at3.pos tk3
        refine ⟨v, p, rfl, p4, e11, ok, ?_⟩
        have at5 := at3.mu tk3 p4 e11 (c := 59) (by decide) (by decide) (by decide)
        generalize hg3 : xm_sI g2 19 sd v = g3 at w3 u3 o19 oo tk3 at3 e11 ok at5
        have f5 : mFw g3 (nMust 4 p g3) := mFw.rf.mu _ _
        have at5 : mAt N (pBn r1 (pMu k 59)) (nMust 4 p g3) := at5
        have y15 : (nMust 4 p g3).1 0 15 = g3.1 0 15 := nMust_j (by decide) (by decide) (by decide)
        have y16 : (nMust 4 p g3).1 0 16 = g3.1 0 16 := nMust_j (by decide) (by decide) (by decide)
        generalize nMust 4 p g3 = g5 at f5 at5 y15 y16
        have fr : mFr sd g g5 := ((fw1.n.r.tr f2.n.r).tr u3).tr f5.n.r
        have fd : mFd g g5 := ((fw1.n.d.tr f2.n.d).tr w3.d).tr f5.n.d
        cases hc : pBn r1 (pMu k 59) with
        | inl q =>
          rw [hc] at at5
          refine bad g5 q ?_ fr at5
          rw [← hW]
          cases hg : pGo k a with
          | inl q' =>
            rw [hg, pBn_l] at hr1
            rw [← hr1, pBn_l] at hc
            cases hc; rfl
          | inr a1 =>
            rw [hg] at hr1
            have e : pSeC k a1 = .inl q := by unfold pSeC; rw [hr1]; exact hc
            rw [pBn_r, e, pBn_l]
        | inr b =>
          rw [hc] at at5
          obtain ⟨y1, hy1, -, -, eb⟩ := pCi hc
          obtain ⟨y0, hy0, k0', a40, e1⟩ := pCi (hr1.trans hy1)
          have e0 := (pGo_i.mp hy0).2
          subst e0 e1 eb
          obtain ⟨ev, lt⟩ := c2 (a + 1) hy1
          obtain ⟨h135, h115, bN⟩ := id at5
          have e : pSeC k (a + 1) = .inr (a + 1 + 1 + 1) := by
            unfold pSeC
            rw [hy0] at hr1
            rw [hr1]; exact hc
          rw [hy0, pBn_r, e, pBn_r] at hW
          have pp := kk.2 (a + 1 + 1) (a + 1 + 1 + 1) (by omega) bN
          refine good g5 _ (pSeS k (a + 1) s) hW.symm fr ⟨⟨at5, ?_, ⟨nm, ((((nt.w fw1).w f2).g w3).w f5), nn⟩, ?_⟩, htr.d fd (by omega)⟩
          · exact (lt.g w3).k (by omega) y15 y16
          · have p10 : ∀ c, c ≠ 0 → c ≠ 19 → g5.1 c = g.1 c := fun c h0 h1 => by rw [f5.2.1 c h0]; exact oo c h0 h1
            obtain ⟨s1, s2, s3, s4, s5, s6, s7⟩ := hsd
            refine ⟨by rw [p10 10 (by decide) (by decide)]; exact s1, by rw [p10 14 (by decide) (by decide)]; exact s2, by rw [p10 16 (by decide) (by decide)]; exact s3, fun i q hq => by rw [p10 11 (by decide) (by decide), p10 12 (by decide) (by decide), p10 13 (by decide) (by decide)]; exact s4 i q hq, fun i q hq => by rw [p10 15 (by decide) (by decide)]; exact s5 i q hq, fun hn i q hq => by rw [p10 17 (by decide) (by decide), p10 18 (by decide) (by decide)]; exact s6 (pLt_n hn).1 i q hq, ?_⟩
            rw [f5.2.1 19 (by decide), o19, if_pos rfl]; exact ev
      refine xm_run_go hm 60 ⟨a, ⟨by omega, h11⟩, ⟨fun w => absurd w (xn 20 (by omega)), fun _ => ⟨fun w => absurd w (xn 21 (by omega)), fun _ => ⟨fun w => absurd w (xn 22 (by omega)), fun _ => ⟨fun w => absurd w (xn 23 (by omega)), fun _ => ⟨fun w => absurd w (xn 24 (by omega)), fun _ => ⟨fun w => absurd w (xn 25 (by omega)), fun _ => ⟨fun w => absurd w (xn 26 (by omega)), fun _ => ⟨fun _ => ⟨a, ⟨rfl, a4, h11, Or.inl h13⟩, (k, N, pGo k a, qL s, 0, 9999), ⟨rfl, by decide, by decide, tk1, kk, at1, lq1⟩, ?_⟩, fun w => absurd hx w⟩⟩⟩⟩⟩⟩⟩⟩⟩
      intro o g2 h2
      obtain ⟨v, p, rfl, z1, z2, z3, fin⟩ := next o g2 h2
      exact ⟨sd, ⟨sd2, e191⟩, (4, p), ⟨rfl, z1, z2, z3⟩, fin⟩
    · -- nothing that tells
      have hx := t1
      generalize hvv : pMk (k.1 a) = v at hv hx
      have v40 : v < 40 := by rw [← hvv]; exact pMk_lt _ t3 tv
      have ne : ∀ c : Nat, 20 ≤ c → c < 28 → ¬ g.1 3 a = nI c := fun c h1 h2 w => by
        rw [hx] at w
        have := nI_inj (by omega) (by omega) w
        omega
      rw [pTell_6 hk] at hW
      have fl : mFl 1 (k.2.1 a) (nFail 1 a g) := nFail_fl (f := 1) h13 (Or.inl rfl) a4 h11 t2
      have gt : ¬ (nFail 1 a g).1 0 13 ≤ 0 := by rw [fl.1]; decide
      have fin := bad _ _ hW.symm (mFw.rf.fl 1 a).n.r fl
      have go143 : ∀ w, xm_go xs_M xk_X9_tellOne [xt_X9_roomFor, xt_X9_tellSlide, xt_X9_named, xt_X9_bounded, xt_X9_endsName, xt_X9_known, xt_X9_must, xt_X9_goesOn, xt_X9_fail, xt_X9_tellLaw] xc_X9_tellOne Q (xm_drop 143 xc_X9_tellOne) [.ref 0, w] [] g := by
        intro w
        rcases hv with hv | hv
        · have c1 : g.1 3 a - 23 < 0 := by rw [hx]; exact nI_l23 v (by omega)
          exact xm_run_go hm 60 ⟨a, ⟨by omega, h11⟩, ⟨fun _ => ⟨(1, a), ⟨rfl, a4, h11, Or.inl h13⟩, ⟨fun q => absurd q gt, fun _ => fin⟩⟩, fun q => absurd c1 (Int32.not_lt.mpr q)⟩⟩
        · obtain ⟨c1, c2⟩ := nI_g26 v v40 (by omega)
          rw [← hx] at c1 c2
          exact xm_run_go hm 60 ⟨a, ⟨by omega, h11⟩, ⟨fun q => absurd q c1, fun _ => ⟨a, ⟨by omega, h11⟩, ⟨fun q => absurd q c2, fun _ => ⟨(1, a), ⟨rfl, a4, h11, Or.inl h13⟩, ⟨fun q => absurd q gt, fun _ => fin⟩⟩⟩⟩⟩⟩
      exact xm_run_go hm 6 ⟨a, ⟨by omega, h11⟩, ⟨fun w => absurd w (ne 20 (by omega) (by omega)), fun _ => ⟨fun w => absurd w (ne 21 (by omega) (by omega)), fun _ => ⟨fun w => absurd w (ne 22 (by omega) (by omega)), fun _ => ⟨fun _ => go143 _, fun _ => ⟨fun _ => go143 _, fun _ => ⟨fun _ => go143 _, fun _ => ⟨fun _ => go143 _, fun _ => ⟨fun w => absurd w (ne 27 (by omega) (by omega)), fun _ => go143 _⟩⟩⟩⟩⟩⟩⟩⟩⟩
