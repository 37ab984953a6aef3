-- THE CLASS READS: one telling
def xTl (N a : Nat) (s : pSt) (g : xG) : Prop := xDa N a s g ∧ xTr a (qX s) g
def xFR (g g' : xG) : Prop := g'.2.2 = g.2.2 ∧ (∀ k, k ≠ 4 → k ≠ 5 → g'.2.1 k = g.2.1 k) ∧ (∀ k, k ≠ 3 → k ≠ 6 → ¬ (38 ≤ k ∧ k ≤ 46) → g'.1 k = g.1 k) ∧ ∀ j, j < 5 → g'.1 3 j = g.1 3 j
theorem xFR.rf {g : xG} : xFR g g := ⟨rfl, fun _ _ _ => rfl, fun _ _ _ _ => rfl, fun _ _ => rfl⟩
theorem xFR.tr {g g1 g2 : xG} (h : xFR g g1) (h2 : xFR g1 g2) : xFR g g2 := ⟨h2.1.trans h.1, fun k a b => (h2.2.1 k a b).trans (h.2.1 k a b), fun k a b c => (h2.2.2.1 k a b c).trans (h.2.2.1 k a b c), fun j a => (h2.2.2.2 j a).trans (h.2.2.2 j a)⟩
theorem xFa.R {g g' : xG} (h : xFa g g') : xFR g g' := ⟨h.1, h.2.1, fun k a _ c => h.2.2.1 k a (by omega), fun j a => h.2.2.2.2 j (by omega)⟩
theorem xFl.R {l : Nat} {g g' : xG} (h : xFl l g g') : xFR g g' := ⟨by rw [h.1], fun k _ _ => by rw [h.1], fun k a b c => h.2.1 k a b (by omega) (by omega) (by omega), fun j a => h.2.2.2.1 j (by omega)⟩
theorem xTk.R {k : vTk} {N : Nat} {g g' : xG} (h : xTk k N g) (f : xFR g g') : xTk k N g' := ⟨h.1, h.2.1, fun i hi => by rw [f.2.2.1 8 (by decide) (by decide) (by decide), f.2.2.1 9 (by decide) (by decide) (by decide), f.2.1 10 (by decide) (by decide)]; exact h.2.2 i hi⟩
theorem xTr.k {a a' : Nat} {X : Nat → List (vX × vX × vX) × vX} {g g' : xG} (h : xTr a X g) (ha : a ≤ a') (e12 : g'.1 38 12 = g.1 38 12) (e45 : g'.1 45 = g.1 45) (e46 : g'.1 46 = g.1 46) : xTr a' X g' := by
  obtain ⟨sz, h1, h2, h3, h4⟩ := h
  exact ⟨sz, by omega, h2, e12.trans h3, by rw [e45, e46]; exact h4⟩
theorem xTr.a {a a' : Nat} {X : Nat → List (vX × vX × vX) × vX} {g g' : xG} (h : xTr a X g) (ha : a ≤ a') (f : xFa g g') : xTr a' X g' := h.k ha f.2.2.2.1 (f.2.2.1 45 (by decide) (by decide)) (f.2.2.1 46 (by decide) (by decide))
theorem xSd.k {s : pSt} {g g' : xG} (h : xSd s g) (e8 : ∀ j, j = 10 ∨ j = 11 → g'.1 38 j = g.1 38 j) (hk : ∀ k, 39 ≤ k → k ≤ 44 → g'.1 k = g.1 k) : xSd s g' := by
  obtain ⟨s1, s2, s3, s4, s5⟩ := h
  exact ⟨(e8 10 (by omega)).trans s1, fun i q hq => by rw [hk 39 (by decide) (by decide), hk 40 (by decide) (by decide), hk 41 (by decide) (by decide)]; exact s2 i q hq, fun i q hq => by rw [hk 42 (by decide) (by decide)]; exact s3 i q hq, fun hn i q hq => by rw [hk 43 (by decide) (by decide), hk 44 (by decide) (by decide)]; exact s4 hn i q hq, (e8 11 (by omega)).trans s5⟩
theorem pSlB_le {k : vTk} {n a b : Nat} (h : pSlB k n a = .inr b) : a ≤ b := by
  unfold pSlB at h
  obtain ⟨y4, hy4, -, -, e5⟩ := pCi h
  obtain ⟨y3, hy3, -, -, e4⟩ := pCi hy4
  obtain ⟨y2, hy2, -, -, e3⟩ := pCi hy3
  obtain ⟨y1, hy1, -, -, e2⟩ := pCi hy2
  have := (pRo_i.mp hy1).2.2
  omega
theorem pPeB_le {k : vTk} {n a b : Nat} (h : pPeB k n a = .inr b) : a ≤ b := by
  unfold pPeB at h
  obtain ⟨y2, hy2, -, -, e3⟩ := pCi h
  obtain ⟨y1, hy1, -, -, e2⟩ := pCi hy2
  have := (pRo_i.mp hy1).2.2
  omega
theorem pShB_le {k : vTk} {n a b : Nat} (h : pShB k n a = .inr b) : a ≤ b := by
  unfold pShB at h
  obtain ⟨y2, hy2, -, -, e3⟩ := pCi h
  obtain ⟨y1, hy1, -, -, e2⟩ := pCi hy2
  have := (pRo_i.mp hy1).2.2
  omega
theorem pTell_1' {k : vTk} {a : Nat} {s : pSt} (h : k.1 a = 128) : pTell k a s = pBn (pBn (pSlB k (qS s).length a) (pMu k 59)) fun b => .inr (b, pSlS k (a + 1) s) := by
  rw [pTell_1 h]
  unfold pSlB
  cases hr : pRo k (qS s).length 5 a with
  | inl q => rfl
  | inr a1 => obtain ⟨-, -, rfl⟩ := pRo_i.mp hr; rfl
theorem pTell_2' {k : vTk} {a : Nat} {s : pSt} (h : k.1 a = 129) : pTell k a s = pBn (pBn (pPeB k (qP s).length a) (pMu k 59)) fun b => .inr (b, pPeS k (a + 1) s) := by
  rw [pTell_2 h]
  unfold pPeB
  cases hr : pRo k (qP s).length 6 a with
  | inl q => rfl
  | inr a1 => obtain ⟨-, -, rfl⟩ := pRo_i.mp hr; rfl
theorem pTell_3' {k : vTk} {a : Nat} {s : pSt} (h : k.1 a = 130) : pTell k a s = pBn (pBn (pShB k (qH s).length a) (pMu k 59)) fun b => .inr (b, pShS k (a + 1) s) := by
  rw [pTell_3 h]
  unfold pShB
  cases hr : pRo k (qH s).length 20 a with
  | inl q => rfl
  | inr a1 => obtain ⟨-, -, rfl⟩ := pRo_i.mp hr; rfl
theorem pTell_4' {k : vTk} {a : Nat} {s : pSt} (h : 131 ≤ k.1 a ∧ k.1 a ≤ 134) : pTell k a s = pBn (pLx k a) fun q => pBn (pMu k 59 q.1) fun b => .inr (b, qL s, qS s, qP s, qH s, qD s, fun i => if i = k.1 a - 131 then q.2 else qX s i) := by
  rw [pTell_4 h]
  unfold pLr pLx pLe
  cases pBn (pGo k a) (pMu k 61) with
  | inl q => rfl
  | inr a2 =>
    rw [pBn_r, pBn_r]
    cases pIfs k 4 a2 [] with
    | inl q => rfl
    | inr q =>
      rw [pBn_r, pBn_r]
      cases pMu k 59 q.1 <;> rfl
theorem pTell_5' {k : vTk} {a : Nat} {s : pSt} (h : k.1 a = 135) : pTell k a s = pBn (pBn (pBn (pGo k a) (pMu k 3)) (pMu k 59)) fun b => .inr (b, pSeS k (a + 1) s) := by
  rw [pTell_5 h]
  cases hr : pGo k a with
  | inl q => rfl
  | inr a1 => obtain ⟨-, rfl⟩ := pGo_i.mp hr; rfl
theorem pLx_le {k : vTk} {a a' : Nat} {bs : List (vX × vX × vX)} {e : vX} (h : pLx k a = .inr (a', bs, e)) : a ≤ a' := by
  unfold pLx at h
  obtain ⟨a2, h2, h⟩ := pBn_i.mp h
  obtain ⟨y, hy, -, y4, e2⟩ := pCi h2
  have := (pGo_i.mp hy).2
  have := (pIfs_i 4 a2 [] a' bs e h (by omega) (fun q hq => by cases hq)).2.1
  omega
theorem nI_131 : ∀ l, l < 4 → nI (131 + l) - 131 = nI l := by decide +kernel
def xt_X1_readTell : xT := xm_rl (Z := vTk × Nat × Nat × pSt) (fun (k, N, a, s) av g => av = [.ref 3] ∧ xTk k N g ∧ pKk k N ∧ xTl N a s g ∧ (qH s).length ≤ 20 ∧ k.1 a ≠ 0)
  (fun (k, N, a, s) g o g' => o = none ∧ xFR g g' ∧ (∀ q, pTell k a s = .inl q → xFt q.1 q.2 g') ∧ ∀ a' s', pTell k a s = .inr (a', s') → xTl N a' s' g')
set_option maxRecDepth 100000 in
set_option maxHeartbeats 400000 in
theorem xp_X1_readTell {l : Launch} {D : va_G} {cA : Nat → ClassId} {B : List (Nat × Cell)} : xm_Met l D cA B xs_X 5 yX1_readTell cX1_readTell 2 none xt_X1_readTell := by
  have hm : xm_monos [xt_X1_kind, xt_X1_readSlide, xt_X1_readPerson, xt_X1_readShown, xt_X1_readLaw, xt_X1_take, xt_X1_number, xt_X1_fail] := ⟨(by first | exact xm_fn_mono _ _ _ | exact xm_rl_mono _ _), (by first | exact xm_fn_mono _ _ _ | exact xm_rl_mono _ _), (by first | exact xm_fn_mono _ _ _ | exact xm_rl_mono _ _), (by first | exact xm_fn_mono _ _ _ | exact xm_rl_mono _ _), (by first | exact xm_fn_mono _ _ _ | exact xm_rl_mono _ _), (by first | exact xm_fn_mono _ _ _ | exact xm_rl_mono _ _), (by first | exact xm_fn_mono _ _ _ | exact xm_rl_mono _ _), (by first | exact xm_fn_mono _ _ _ | exact xm_rl_mono _ _), trivial⟩
  refine xm_meth (own := RX1) (ks := xk_X1_readTell) (C := xc_X1_readTell) (Ts := [xt_X1_kind, xt_X1_readSlide, xt_X1_readPerson, xt_X1_readShown, xt_X1_readLaw, xt_X1_take, xt_X1_number, xt_X1_fail]) (by decide +kernel) rfl xm_clsok xs_X_ok xf_X1_ok xi_X1_ok xj_X1_ok (xm_lk xl_X1_60 xp_X1_kind (by decide) (xm_lk xl_X1_64 xp_X1_readSlide (by decide) (xm_lk xl_X1_67 xp_X1_readPerson (by decide) (xm_lk xl_X1_70 xp_X1_readShown (by decide) (xm_lk xl_X1_73 xp_X1_readLaw (by decide) (xm_lk xl_X1_77 xp_X1_take (by decide) (xm_lk xl_X1_81 xp_X1_number (by decide) (xm_lk xl_X1_88 xp_X1_fail (by decide) xm_lk0)))))))) xo_X1_readTell ?_ ?_
  · rintro av g Q ⟨z, ⟨rfl, -⟩, -⟩
    exact Nat.le_of_ble_eq_true rfl
  · rintro av g Q ⟨⟨k, N, a, s⟩, ⟨rfl, tk, kk, htl, h20, k0⟩, hQ⟩
    dsimp only at tk kk htl h20 k0 hQ
    obtain ⟨hda, htr⟩ := id htl
    obtain ⟨hat, hlt, ns, sd⟩ := id hda
    obtain ⟨h8, h7, aN⟩ := id hat
    have a4 : a ≤ 400 := by have := tk.1; omega
    obtain ⟨t1, t2, t3, -, -⟩ := tk.2.2 a aN
    obtain ⟨W, hW⟩ : ∃ W, pTell k a s = W := ⟨_, rfl⟩
    rw [hW] at hQ
    -- the sign behind it
    have at35 : ∀ (g1 : xG) (r : pF ⊕ Nat) (s' : pSt), xFR g g1 → xAt N r g1 → (∀ b, r = .inr b → xLate (qL s') g1 ∧ xNs s' g1 ∧ xSd s' g1 ∧ xTr b (qX s') g1) → (W = pBn (pBn r (pMu k 59)) fun b => .inr (b, s')) → ∀ w1, xm_go xs_X xk_X1_readTell [xt_X1_kind, xt_X1_readSlide, xt_X1_readPerson, xt_X1_readShown, xt_X1_readLaw, xt_X1_take, xt_X1_number, xt_X1_fail] xc_X1_readTell Q (xm_drop 35 xc_X1_readTell) [.ref 3, w1] [] g1 := by
      intro g1 r s' f1 at1 hd hw w1
      have tk1 := tk.R f1
      obtain ⟨q, q4, q7, hr⟩ := at1.pos tk1
      obtain ⟨b, hb, at2, -⟩ := at1.mu tk1 q4 q7 (c := 59) (by decide) (by decide)
      have f2 : xFw g1 (uTake b q g1) := xFw.rf.tk b q
      have fin : Q none (uTake b q g1) := by
        cases hc : pBn r (pMu k 59) with
        | inl p =>
          rw [hc] at at2 hw
          exact hQ _ _ ⟨rfl, f1.tr f2.a.R, (fun q' h => by rw [hw] at h; cases h; exact at2), (fun a' s' h => by rw [hw] at h; cases h)⟩
        | inr y =>
          rw [hc] at at2 hw
          obtain ⟨b0, hb0, -, -, ey⟩ := pCi hc
          obtain ⟨c1, c2, c3, c4⟩ := hd b0 hb0
          refine hQ _ _ ⟨rfl, f1.tr f2.a.R, (fun q' h => by rw [hw] at h; cases h), (fun a' s'' h => ?_)⟩
          rw [hw, pBn_r] at h
          cases h
          exact ⟨⟨at2, c1.k (uTake_late b q g1 10 (by decide)) (uTake_late b q g1 11 (by decide)), c2.w f2, c3.k (fun j _ => by rw [f2.2.1 38 (by decide)]) (fun c h1 h2 => f2.2.1 c (by omega))⟩, c4.a (by omega) f2.a⟩
      cases b with
      | true => exact xm_run_go hm 40 ⟨q, ⟨rfl, q4, q7⟩, ⟨fun w => absurd (hb.mp rfl) w, fun _ => ⟨(true, q), ⟨rfl, q4, q7⟩, fin⟩⟩⟩
      | false => exact xm_run_go hm 40 ⟨q, ⟨rfl, q4, q7⟩, ⟨fun _ => ⟨(false, q), ⟨rfl, q4, q7⟩, fin⟩, fun w => absurd (hb.mpr w) (by decide)⟩⟩
    have ne : ∀ c : Nat, c < 148 → k.1 a ≠ c → ¬ g.1 8 a = nI c := fun c hc h w => by
      rw [t1] at w
      exact h (nI_inj (by omega) (by omega) w)
    by_cases c1 : k.1 a = 128
    · rw [pTell_1' c1] at hW
      have hx : g.1 8 a = 128 := by rw [t1, c1]; rfl
      have next : ∀ (o : Option Value) (g1 : xG), (o = none ∧ xFa g g1 ∧ xAt N (pSlB k (qS s).length a) g1 ∧ ∀ b, pSlB k (qS s).length a = .inr b → xLate (qL (pSlS k (a + 1) s)) g1 ∧ xNs (pSlS k (a + 1) s) g1 ∧ xSd (pSlS k (a + 1) s) g1) → o = none ∧ ∀ w, xm_go xs_X xk_X1_readTell [xt_X1_kind, xt_X1_readSlide, xt_X1_readPerson, xt_X1_readShown, xt_X1_readLaw, xt_X1_take, xt_X1_number, xt_X1_fail] xc_X1_readTell Q (xm_drop 35 xc_X1_readTell) [.ref 3, w] [] g1 := by
        rintro o g1 ⟨rfl, f1, at1, hd⟩
        exact ⟨rfl, at35 g1 _ (pSlS k (a + 1) s) f1.R at1 (fun b hb => ⟨(hd b hb).1, (hd b hb).2.1, (hd b hb).2.2, htr.a (pSlB_le hb) f1⟩) hW.symm⟩
      refine xm_run_go hm 8 ⟨a, ⟨rfl, a4, h7⟩, ⟨fun _ => ⟨(k, N, a, s), ⟨rfl, tk, kk, hda, by show k.1 a ≠ 0; omega, by show k.1 a ≠ 1; omega⟩, ?_⟩, fun w => absurd hx w⟩⟩
      intro o g1 h1
      obtain ⟨rfl, go⟩ := next o g1 h1
      exact go _
    have n1 := ne 128 (by decide) c1
    by_cases c2 : k.1 a = 129
    · rw [pTell_2' c2] at hW
      have hx : g.1 8 a = 129 := by rw [t1, c2]; rfl
      have next : ∀ (o : Option Value) (g1 : xG), (o = none ∧ xFa g g1 ∧ xAt N (pPeB k (qP s).length a) g1 ∧ ∀ b, pPeB k (qP s).length a = .inr b → xLate (qL (pPeS k (a + 1) s)) g1 ∧ xNs (pPeS k (a + 1) s) g1 ∧ xSd (pPeS k (a + 1) s) g1) → o = none ∧ ∀ w, xm_go xs_X xk_X1_readTell [xt_X1_kind, xt_X1_readSlide, xt_X1_readPerson, xt_X1_readShown, xt_X1_readLaw, xt_X1_take, xt_X1_number, xt_X1_fail] xc_X1_readTell Q (xm_drop 35 xc_X1_readTell) [.ref 3, w] [] g1 := by
        rintro o g1 ⟨rfl, f1, at1, hd⟩
        exact ⟨rfl, at35 g1 _ (pPeS k (a + 1) s) f1.R at1 (fun b hb => ⟨(hd b hb).1, (hd b hb).2.1, (hd b hb).2.2, htr.a (pPeB_le hb) f1⟩) hW.symm⟩
      refine xm_run_go hm 8 ⟨a, ⟨rfl, a4, h7⟩, ⟨fun w => absurd w n1, fun _ => ⟨fun _ => ⟨(k, N, a, s), ⟨rfl, tk, kk, hda, by show k.1 a ≠ 0; omega, by show k.1 a ≠ 1; omega⟩, ?_⟩, fun w => absurd hx w⟩⟩⟩
      intro o g1 h1
      obtain ⟨rfl, go⟩ := next o g1 h1
      exact go _
    have n2 := ne 129 (by decide) c2
    by_cases c3 : k.1 a = 130
    · rw [pTell_3' c3] at hW
      have hx : g.1 8 a = 130 := by rw [t1, c3]; rfl
      have next : ∀ (o : Option Value) (g1 : xG), (o = none ∧ xFa g g1 ∧ xAt N (pShB k (qH s).length a) g1 ∧ ∀ b, pShB k (qH s).length a = .inr b → xLate (qL (pShS k (a + 1) s)) g1 ∧ xNs (pShS k (a + 1) s) g1 ∧ xSd (pShS k (a + 1) s) g1) → o = none ∧ ∀ w, xm_go xs_X xk_X1_readTell [xt_X1_kind, xt_X1_readSlide, xt_X1_readPerson, xt_X1_readShown, xt_X1_readLaw, xt_X1_take, xt_X1_number, xt_X1_fail] xc_X1_readTell Q (xm_drop 35 xc_X1_readTell) [.ref 3, w] [] g1 := by
        rintro o g1 ⟨rfl, f1, at1, hd⟩
        exact ⟨rfl, at35 g1 _ (pShS k (a + 1) s) f1.R at1 (fun b hb => ⟨(hd b hb).1, (hd b hb).2.1, (hd b hb).2.2, htr.a (pShB_le hb) f1⟩) hW.symm⟩
      refine xm_run_go hm 8 ⟨a, ⟨rfl, a4, h7⟩, ⟨fun w => absurd w n1, fun _ => ⟨fun w => absurd w n2, fun _ => ⟨fun _ => ⟨(k, N, a, s), ⟨rfl, tk, kk, hda, h20, by show k.1 a ≠ 0; omega, by show k.1 a ≠ 1; omega⟩, ?_⟩, fun w => absurd hx w⟩⟩⟩⟩
      intro o g1 h1
      obtain ⟨rfl, go⟩ := next o g1 h1
      exact go _
    have n3 := ne 130 (by decide) c3
    by_cases c4 : 131 ≤ k.1 a ∧ k.1 a ≤ 134
    · rw [pTell_4' c4] at hW
      obtain ⟨l, hl⟩ : ∃ l, l = k.1 a - 131 := ⟨_, rfl⟩
      rw [← hl] at hW
      have l4 : l < 4 := by omega
      have hx : g.1 8 a = nI (131 + l) := by rw [t1]; congr 1; omega
      have ei : g.1 8 a - 131 = nI l := by rw [hx]; exact nI_131 l l4
      have ea : [Value.ref 3, .int (g.1 8 a - 131)] = [Value.ref 3, .int (nI l)] := by rw [ei]
      have next : ∀ (o : Option Value) (g1 : xG), (o = none ∧ xFl l g g1 ∧ xAt N (pF3 (pLx k a)) g1 ∧ ∀ a' bs e, pLx k a = .inr (a', bs, e) → xTr a' (fun i => if i = l then (bs, e) else qX s i) g1) → o = none ∧ ∀ w, xm_go xs_X xk_X1_readTell [xt_X1_kind, xt_X1_readSlide, xt_X1_readPerson, xt_X1_readShown, xt_X1_readLaw, xt_X1_take, xt_X1_number, xt_X1_fail] xc_X1_readTell Q (xm_drop 35 xc_X1_readTell) [.ref 3, w] [] g1 := by
        rintro o g1 ⟨rfl, f1, at1, hd⟩
        refine ⟨rfl, ?_⟩
        cases hc : pLx k a with
        | inl q =>
          rw [hc] at at1 hW
          exact at35 g1 (.inl q) s f1.R at1 (fun b hb => by cases hb) hW.symm
        | inr q =>
          obtain ⟨a', bs, e⟩ := q
          rw [hc] at at1 hW
          have tr := hd a' bs e hc
          refine at35 g1 (.inr a') (qL s, qS s, qP s, qH s, qD s, fun i => if i = l then (bs, e) else qX s i) f1.R at1 (fun b hb => ?_) hW.symm
          cases hb
          exact ⟨hlt.k (f1.2.2.2.1 10 (by omega)) (f1.2.2.2.1 11 (by omega)), ns.k f1.1 (f1.2.2.1 8 (by decide)) (f1.2.2.1 9 (by decide)), sd.k (fun j hj => f1.2.2.1 j (by omega)) (fun c h1 h2 => f1.2.1 c (by omega) (by omega) (by omega) (by omega) (by omega)), tr⟩
      have at14 : xm_go xs_X xk_X1_readTell [xt_X1_kind, xt_X1_readSlide, xt_X1_readPerson, xt_X1_readShown, xt_X1_readLaw, xt_X1_take, xt_X1_number, xt_X1_fail] xc_X1_readTell Q (xm_drop 14 xc_X1_readTell) [.ref 3, .int (g.1 8 a)] [] g := by
        refine xm_run_go hm 6 ⟨(k, N, l, a, qX s), ⟨ea, l4, tk, hat, by show k.1 a ≠ 0; omega, by show k.1 a ≠ 1; omega, htr⟩, ?_⟩
        intro o g1 h1
        obtain ⟨rfl, go⟩ := next o g1 h1
        exact go _
      have n5 := ne 135 (by decide) (by omega)
      have o4 : l = 0 ∨ l = 1 ∨ l = 2 ∨ l = 3 := by omega
      have nl : ∀ c : Nat, c < 4 → c ≠ l → ¬ g.1 8 a = nI (131 + c) := fun c hc h => ne (131 + c) (by omega) (by omega)
      refine xm_run_go hm 5 ⟨a, ⟨rfl, a4, h7⟩, ⟨fun w => absurd w n1, fun _ => ⟨fun w => absurd w n2, fun _ => ⟨fun w => absurd w n3, fun _ => ⟨fun _ => at14, fun w1 => ⟨fun _ => at14, fun w2 => ⟨fun _ => at14, fun w3 => ⟨fun _ => at14, fun w4 => ⟨fun w => absurd w n5, fun _ => ?_⟩⟩⟩⟩⟩⟩⟩⟩⟩
      exfalso
      rcases o4 with o | o | o | o <;> subst o
      · exact w1 hx
      · exact w2 hx
      · exact w3 hx
      · exact w4 hx
    have n4 : ∀ c : Nat, c < 4 → ¬ g.1 8 a = nI (131 + c) := fun c hc => ne (131 + c) (by omega) (by omega)
    by_cases c5 : k.1 a = 135
    · rw [pTell_5' c5] at hW
      have hx : g.1 8 a = 135 := by rw [t1, c5]; rfl
      obtain ⟨at1, -⟩ := hat.go tk a4 h7 (fun b hb => by cases hb; omega)
      rw [pBn_r] at at1
      have f1 : xFw g (uTake true a g) := xFw.rf.tk true a
      have lq1 : xLq (pGo k a) (qL s) (uTake true a g) := fun y _ => hlt.k (uTake_late _ _ _ 10 (by decide)) (uTake_late _ _ _ 11 (by decide))
      have next : ∀ (o : Option Value) (g2 : xG), (∃ v, o = some (.int v) ∧ xFw (uTake true a g) g2 ∧ xAt N (pBn (pGo k a) (pMu k 3)) g2 ∧ ∀ b, pBn (pGo k a) (pMu k 3) = .inr (b + 1) → v = nI (k.2.2.1 b) ∧ xLate (pLt (qL s) (pOut (k.2.2.1 b) 0 9999) 5 (k.2.1 b)) g2) → ∃ v, o = some (.int v) ∧ ∀ w, xm_go xs_X xk_X1_readTell [xt_X1_kind, xt_X1_readSlide, xt_X1_readPerson, xt_X1_readShown, xt_X1_readLaw, xt_X1_take, xt_X1_number, xt_X1_fail] xc_X1_readTell Q (xm_drop 35 xc_X1_readTell) [.ref 3, w] [] (xm_sI g2 38 11 v) := by
        rintro o g2 ⟨v, rfl, f2, at2, hd⟩
        have fw := f1.tr f2
        have fa : xFa g (xm_sI g2 38 11 v) := fw.a.p8 _ (by decide)
        refine ⟨v, rfl, at35 _ _ (pSeS k (a + 1) s) fa.R (at2.k (fun j _ _ => by rw [xg_off _ _ _ (by decide)])) (fun b hb => ?_) hW.symm⟩
        obtain ⟨y, hy, -, -, e⟩ := pCi hb
        have ey := (pGo_i.mp hy).2
        subst ey e
        obtain ⟨ev, lt⟩ := hd (a + 1) hb
        refine ⟨lt.k (by rw [xg_off _ _ _ (by decide)]) (by rw [xg_off _ _ _ (by decide)]), (ns.w fw).k rfl (by rw [xg_in, if_neg (by decide)]) (by rw [xg_in, if_neg (by decide)]), ?_, htr.a (by omega) fa⟩
        obtain ⟨s1, s2, s3, s4, s5⟩ := sd
        refine ⟨by rw [xg_in, if_neg (by decide), fw.2.1 38 (by decide)]; exact s1, fun i q hq => by rw [xg_off _ _ _ (by decide), xg_off _ _ _ (by decide), xg_off _ _ _ (by decide), fw.2.1 39 (by decide), fw.2.1 40 (by decide), fw.2.1 41 (by decide)]; exact s2 i q hq, fun i q hq => by rw [xg_off _ _ _ (by decide), fw.2.1 42 (by decide)]; exact s3 i q hq, fun hn i q hq => by rw [xg_off _ _ _ (by decide), xg_off _ _ _ (by decide), fw.2.1 43 (by decide), fw.2.1 44 (by decide)]; exact s4 (pLt_n hn).1 i q hq, ?_⟩
        rw [xg_in, if_pos rfl]; exact ev
      refine xm_run_go hm 17 ⟨a, ⟨rfl, a4, h7⟩, ⟨fun w => absurd w n1, fun _ => ⟨fun w => absurd w n2, fun _ => ⟨fun w => absurd w n3, fun _ => ⟨fun w => absurd w (n4 0 (by decide)), fun _ => ⟨fun w => absurd w (n4 1 (by decide)), fun _ => ⟨fun w => absurd w (n4 2 (by decide)), fun _ => ⟨fun w => absurd w (n4 3 (by decide)), fun _ => ⟨fun _ => ⟨(true, a), ⟨rfl, a4, h7⟩, (k, N, pGo k a, qL s, 0, 9999), ⟨rfl, by decide, by decide, tk.w f1, at1, lq1⟩, ?_⟩, fun w => absurd hx w⟩⟩⟩⟩⟩⟩⟩⟩⟩
      intro o g2 h2
      obtain ⟨v, rfl, go⟩ := next o g2 h2
      exact go _
    · have n5 := ne 135 (by decide) c5
      rw [pTell_6 (by omega)] at hW
      have go := at35 (uFail 1 a g) (.inl (1, k.2.1 a)) s (xFw.rf.fl 1 a).a.R (uFail_ft (f := 1) h8 (Or.inl rfl) a4 h7 t2) (fun b hb => by cases hb) hW.symm
      exact xm_run_go hm 8 ⟨a, ⟨rfl, a4, h7⟩, ⟨fun w => absurd w n1, fun _ => ⟨fun w => absurd w n2, fun _ => ⟨fun w => absurd w n3, fun _ => ⟨fun w => absurd w (n4 0 (by decide)), fun _ => ⟨fun w => absurd w (n4 1 (by decide)), fun _ => ⟨fun w => absurd w (n4 2 (by decide)), fun _ => ⟨fun w => absurd w (n4 3 (by decide)), fun _ => ⟨fun w => absurd w n5, fun _ => ⟨(1, a), ⟨rfl, a4, h7⟩, go _⟩⟩⟩⟩⟩⟩⟩⟩⟩⟩
