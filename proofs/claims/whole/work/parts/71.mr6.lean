-- THE REFERENCE READS: a slide
def mDa (k : vTk) (N sd b : Nat) (s : pSt) (g : xG) : Prop := mAt N (.inr b) g ∧ mLate (qL s) (k.2.1 b) g ∧ (∃ nm, mNt nm g ∧ pNn nm s) ∧ mSd sd s g
def pSlS (k : vTk) (a : Nat) (s : pSt) : pSt := (pLt (pLt (pLt (pLt (qL s) (pDp s (k.2.2.2 a)) 3 (k.2.1 a)) (pOut (k.2.2.1 (a + 1)) 0 5) 5 (k.2.1 (a + 1))) (pOut (k.2.2.1 (a + 2)) 0 5) 5 (k.2.1 (a + 2))) (pOut (k.2.2.1 (a + 3)) 1 20) 5 (k.2.1 (a + 3)),
  qS s ++ [(k.2.2.2 a, k.2.2.1 (a + 1), k.2.2.1 (a + 2), k.2.2.1 (a + 3))], qP s, qH s, qD s, qX s)
def pSlC (k : vTk) (a : Nat) : pF ⊕ Nat := pBn (pBn (pBn (pBn (pBn (.inr a) (pMu k 2)) (pMu k 3)) (pMu k 3)) (pMu k 3)) (pMu k 59)
theorem pCi {k : vTk} {r : pF ⊕ Nat} {c x : Nat} (h : pBn r (pMu k c) = .inr x) : ∃ y, r = .inr y ∧ k.1 y = c ∧ y < 400 ∧ x = y + 1 := by
  obtain ⟨y, h1, h2⟩ := pBn_i.mp h
  obtain ⟨a, b, c⟩ := pMu_i.mp h2
  exact ⟨y, h1, a, b, c⟩
theorem app_get {α : Type} {l : List α} {x q : α} {i : Nat} (h : (l ++ [x])[i]? = some q) : (i < l.length ∧ l[i]? = some q) ∨ (i = l.length ∧ q = x) := by
  by_cases c : i < l.length
  · rw [List.getElem?_append_left c] at h; exact Or.inl ⟨c, h⟩
  · rw [List.getElem?_append_right (by omega)] at h
    have := (List.getElem?_eq_some_iff.mp h).1
    simp only [List.length_singleton] at this
    have e : i = l.length := by omega
    subst e
    rw [Nat.sub_self] at h
    cases h
    exact Or.inr ⟨rfl, rfl⟩
theorem nI_5 (a b : Nat) : 5 * nI a + nI b = nI (5 * a + b) := by rw [show (5 : Int32) = nI 5 from rfl, pk_mul, nI_add]
theorem nI_6 (a b : Nat) : 6 * nI a + nI b = nI (6 * a + b) := by rw [show (6 : Int32) = nI 6 from rfl, pk_mul, nI_add]
theorem nI_20 (a b : Nat) : 20 * nI a + nI b = nI (20 * a + b) := by rw [show (20 : Int32) = nI 20 from rfl, pk_mul, nI_add]
def xt_X9_tellSlide : xT := xm_rl (Z := vTk × Nat × Nat × Nat × pSt) (fun (k, N, sd, a, s) av g => av = [.ref 0] ∧ mTk k N g ∧ pKk k N ∧ sd < 2 ∧ g.1 0 19 = nI sd ∧ mDa k N sd a s g ∧ (qS s).length < 5 ∧ (qP s).length ≤ 6)
  (fun (k, N, sd, a, s) g o g' => o = none ∧ mFr sd g g' ∧ mFd g g' ∧ (∀ q, pSlC k a = .inl q → mFl q.1 q.2 g') ∧ ∀ b, pSlC k a = .inr b → mDa k N sd b (pSlS k a s) g')
set_option maxRecDepth 100000 in
set_option maxHeartbeats 400000 in
theorem xp_X9_tellSlide {l : Launch} {D : va_G} {cA : Nat → ClassId} {B : List (Nat × Cell)} : xm_Met l D cA B xs_M 4 yX9_tellSlide cX9_tellSlide 3 none xt_X9_tellSlide := by
  have hm : xm_monos [xt_X9_named, xt_X9_bounded, xt_X9_endsName] := ⟨(by first | exact xm_fn_mono _ _ _ | exact xm_rl_mono _ _), (by first | exact xm_fn_mono _ _ _ | exact xm_rl_mono _ _), (by first | exact xm_fn_mono _ _ _ | exact xm_rl_mono _ _), trivial⟩
  refine xm_meth (own := RX9) (ks := xk_X9_tellSlide) (C := xc_X9_tellSlide) (Ts := [xt_X9_named, xt_X9_bounded, xt_X9_endsName]) (by decide +kernel) rfl xm_clsok xs_M_ok xf_X9_ok xi_X9_ok xj_X9_ok (xm_lk xl_X9_261 xp_X9_named (by decide) (xm_lk xl_X9_265 xp_X9_bounded (by decide) (xm_lk xl_X9_269 xp_X9_endsName (by decide) xm_lk0))) xo_X9_tellSlide ?_ ?_
  · rintro av g Q ⟨z, ⟨rfl, -⟩, -⟩
    exact Nat.le_of_ble_eq_true rfl
  · rintro av g Q ⟨⟨k, N, sd, a, s⟩, ⟨rfl, tk, kk, sd2, e19, hda, n5, p6⟩, hQ⟩
    dsimp only at tk kk sd2 e19 hda n5 p6 hQ
    obtain ⟨hat, hlt, ⟨nm, nt, nn⟩, hsd⟩ := hda
    have nl : nm.length ≤ 10 := by have := nn.1; omega
    have e10 := hsd.1
    have ix : 5 * g.1 0 19 + g.1 10 sd = nI (5 * sd + (qS s).length) := by rw [e19, e10, nI_5]
    have lq0 : mLq k (.inr a) (qL s) g := fun x hx => by cases hx; exact hlt
    refine xm_run_go hm 120 ⟨sd, ⟨sd2, e19⟩, (k, N, .inr a, qL s, nm), ⟨rfl, tk, kk, hat, lq0, nt⟩, ?_⟩
    rintro o1 g1 ⟨t, rfl, t4, f1, at1, c1⟩
    obtain ⟨r1, hr1⟩ : ∃ r, pBn (.inr a) (pMu k 2) = r := ⟨_, rfl⟩
    have x1 : ∀ y, r1 = .inr y → y = a + 1 := fun y hy => pCh (hr1.trans hy) (fun y hy => by cases hy; rfl)
    rw [hr1] at at1 c1
    obtain ⟨l1, hl1⟩ : ∃ l, l = pLt (qL s) (pAny (k.2.2.2 a) nm) 3 (k.2.1 a) := ⟨_, rfl⟩
    have lq1 : mLq k r1 l1 g1 := fun y hy => by have e := x1 y hy; subst e; rw [hl1]; exact (c1 a hy).2
    have tk1 := tk.w f1
    refine ⟨(k, N, r1, l1, 0, 5), ⟨rfl, by decide, by decide, tk1, kk, at1, lq1⟩, ?_⟩
    rintro o2 g2 ⟨v1, rfl, f2, at2, c2⟩
    obtain ⟨r2, hr2⟩ : ∃ r, pBn r1 (pMu k 3) = r := ⟨_, rfl⟩
    have x2 : ∀ y, r2 = .inr y → y = a + 2 := fun y hy => pCh (hr2.trans hy) x1
    rw [hr2] at at2 c2
    obtain ⟨l2, hl2⟩ : ∃ l, l = pLt l1 (pOut (k.2.2.1 (a + 1)) 0 5) 5 (k.2.1 (a + 1)) := ⟨_, rfl⟩
    have lq2 : mLq k r2 l2 g2 := fun y hy => by have e := x2 y hy; subst e; rw [hl2]; exact (c2 (a + 1) hy).2
    have tk2 := tk1.w f2
    have w3 : mFg g2 (xm_sI g2 11 (5 * sd + (qS s).length) v1) := mFg.rf.pu _ _ ⟨by decide, by decide⟩
    refine ⟨5 * sd + (qS s).length, ⟨by omega, ix⟩, (k, N, r2, l2, 0, 5), ⟨rfl, by decide, by decide, tk2.g w3, kk, at2.g w3, lq2.g w3⟩, ?_⟩
    rintro o4 g4 ⟨v2, rfl, f4, at4, c4⟩
    obtain ⟨r4, hr4⟩ : ∃ r, pBn r2 (pMu k 3) = r := ⟨_, rfl⟩
    have x4 : ∀ y, r4 = .inr y → y = a + 3 := fun y hy => pCh (hr4.trans hy) x2
    rw [hr4] at at4 c4
    obtain ⟨l4, hl4⟩ : ∃ l, l = pLt l2 (pOut (k.2.2.1 (a + 2)) 0 5) 5 (k.2.1 (a + 2)) := ⟨_, rfl⟩
    have lq4 : mLq k r4 l4 g4 := fun y hy => by have e := x4 y hy; subst e; rw [hl4]; exact (c4 (a + 2) hy).2
    have tk4 := (tk2.g w3).w f4
    have w5 : mFg g4 (xm_sI g4 12 (5 * sd + (qS s).length) v2) := mFg.rf.pu _ _ ⟨by decide, by decide⟩
    refine ⟨5 * sd + (qS s).length, ⟨by omega, ix⟩, (k, N, r4, l4, 1, 20), ⟨rfl, by decide, by decide, tk4.g w5, kk, at4.g w5, lq4.g w5⟩, ?_⟩
    rintro o6 g6 ⟨v3, rfl, f6, at6, c6⟩
    obtain ⟨r6, hr6⟩ : ∃ r, pBn r4 (pMu k 3) = r := ⟨_, rfl⟩
    have x6 : ∀ y, r6 = .inr y → y = a + 4 := fun y hy => pCh (hr6.trans hy) x4
    rw [hr6] at at6 c6
    have tk6 := (tk4.g w5).w f6
    have w7 : mFg g6 (xm_sI g6 13 (5 * sd + (qS s).length) v3) := mFg.rf.pu _ _ ⟨by decide, by decide⟩
    have nt6 := ((((((nt.w f1).w f2).g w3).w f4).g w5).w f6).g w7
    -- a cell all the way
    have o11 : ∀ i, g6.1 11 i = if i = 5 * sd + (qS s).length then v1 else g.1 11 i := fun i => by
      rw [f6.2.1 11 (by decide), xg_off _ _ _ (by decide), f4.2.1 11 (by decide), xg_in, f2.2.1 11 (by decide), f1.2.1 11 (by decide)]
    have o12 : ∀ i, g6.1 12 i = if i = 5 * sd + (qS s).length then v2 else g.1 12 i := fun i => by
      rw [f6.2.1 12 (by decide), xg_in, f4.2.1 12 (by decide), xg_off _ _ _ (by decide), f2.2.1 12 (by decide), f1.2.1 12 (by decide)]
    have oo : ∀ c, c ≠ 0 → c ≠ 11 → c ≠ 12 → g6.1 c = g.1 c := fun c h0 h1 h2 => by
      rw [f6.2.1 c h0, xg_off _ _ _ h2, f4.2.1 c h0, xg_off _ _ _ h1, f2.2.1 c h0, f1.2.1 c h0]
    have b1 : mBz 11 * sd ≤ 5 * sd + (qS s).length ∧ 5 * sd + (qS s).length < mBz 11 * sd + mBz 11 := by rw [show mBz 11 = 5 from rfl]; omega
    have u3 : mFr sd g2 (xm_sI g2 11 (5 * sd + (qS s).length) v1) := mFr.rf.pu v1 ⟨by decide, by decide⟩ b1
    have u5 : mFr sd g4 (xm_sI g4 12 (5 * sd + (qS s).length) v2) := mFr.rf.pu v2 ⟨by decide, by decide⟩ b1
    have u7 : mFr sd g6 (xm_sI g6 13 (5 * sd + (qS s).length) v3) := mFr.rf.pu v3 ⟨by decide, by decide⟩ b1
    have fr7 : mFr sd g (xm_sI g6 13 (5 * sd + (qS s).length) v3) := (((((f1.n.r.tr f2.n.r).tr u3).tr f4.n.r).tr u5).tr f6.n.r).tr u7
    have fd7 : mFd g (xm_sI g6 13 (5 * sd + (qS s).length) v3) := (((((f1.n.d.tr f2.n.d).tr w3.d).tr f4.n.d).tr w5.d).tr f6.n.d).tr w7.d
    have e19' : (xm_sI g6 13 (5 * sd + (qS s).length) v3).1 0 19 = nI sd := fd7.2.2.1.trans e19
    have e10' : (xm_sI g6 13 (5 * sd + (qS s).length) v3).1 10 sd = nI (qS s).length := by rw [xg_off _ _ _ (by decide), oo 10 (by decide) (by decide) (by decide)]; exact e10
    have ea : [Value.ref 0, .int (nI t), .int ((xm_sI g6 13 (5 * sd + (qS s).length) v3).1 10 sd)] = [Value.ref 0, .int (nI t), .int (nI (qS s).length)] := by rw [e10']
    refine ⟨5 * sd + (qS s).length, ⟨by omega, ix⟩, sd, ⟨sd2, e19'⟩, (k, N, r6, nm, t, (qS s).length), ⟨ea, t4, tk6.g w7, at6.g w7, nt6, nl⟩, ?_⟩
    rintro o8 g8 ⟨rfl, f8, ⟨y15, y16⟩, at8, c8⟩
    have hch : pSlC k a = pBn r6 (pMu k 59) := by unfold pSlC; rw [hr1, hr2, hr4, hr6]
    rw [← hch] at at8 c8
    cases hc : pSlC k a with
    | inl q =>
      rw [hc] at at8 hQ
      have fl : mFl q.1 q.2 g8 := at8
      exact ⟨fun _ => hQ _ _ ⟨rfl, fr7.tr f8.r, fd7.tr f8.d, (fun q' h => by cases h; exact fl), (fun b h => by cases h)⟩, fun z => absurd z fl.n0⟩
    | inr b =>
      obtain ⟨y6, hy6, -, -, eb⟩ := pCi (hch.symm.trans hc)
      obtain ⟨y4, hy4, -, -, e6⟩ := pCi (hr6.trans hy6)
      obtain ⟨y2, hy2, -, -, e4⟩ := pCi (hr4.trans hy4)
      obtain ⟨y1, hy1, -, -, e2⟩ := pCi (hr2.trans hy2)
      obtain ⟨y0, hy0, k0, a40, e1⟩ := pCi (hr1.trans hy1)
      cases hy0
      subst e1 e2 e4 e6 eb
      obtain ⟨et, lt1⟩ := c1 a hy1
      obtain ⟨ev1, lt2⟩ := c2 (a + 1) hy2
      obtain ⟨ev2, lt4⟩ := c4 (a + 1 + 1) hy4
      obtain ⟨ev3, lt6⟩ := c6 (a + 1 + 1 + 1) hy6
      subst et
      rw [hc] at at8 hQ
      obtain ⟨h13, h11, bN⟩ := id at8
      have tN : t ≤ N := by omega
      have nt8 := c8 _ hc tN k0 ((kk.1 t tN).1 k0) (by omega)
      have q8 : ∀ c, c ≠ 0 → c ≠ 9 → g8.1 c = (xm_sI g6 13 (5 * sd + (qS s).length) v3).1 c := f8.2.2.1
      have w9 : mFg g8 (xm_sI g8 10 sd (g8.1 10 sd + 1)) := mFg.rf.pu _ _ ⟨by decide, by decide⟩
      have fr9 : mFr sd g (xm_sI g8 10 sd (g8.1 10 sd + 1)) := (fr7.tr f8.r).pu _ (by decide) (by rw [show mBz 10 = 1 from rfl]; omega)
      have fd9 : mFd g (xm_sI g8 10 sd (g8.1 10 sd + 1)) := (fd7.tr f8.d).tr w9.d
      have e19'' : g8.1 0 19 = nI sd := (fd7.tr f8.d).2.2.1.trans e19
      have e10'' : g8.1 10 sd = nI (qS s).length := by rw [q8 10 (by decide) (by decide)]; exact e10'
      have pp := kk.2 (t + 1 + 1 + 1 + 1) (t + 1 + 1 + 1 + 1 + 1) (by omega) bN
      have da : mDa k N sd (t + 1 + 1 + 1 + 1 + 1) (pSlS k t s) (xm_sI g8 10 sd (g8.1 10 sd + 1)) := by
        refine ⟨mAt.g at8 w9, ?_, ⟨_, nt8.g w9, pNn.sl (q := (k.2.2.2 t, k.2.2.1 (t + 1), k.2.2.1 (t + 2), k.2.2.1 (t + 3))) (s' := pSlS k t s) nn rfl rfl (by omega)⟩, ?_⟩
        · refine mLate.g ?_ w9
          have el : pLt l4 (pOut (k.2.2.1 (t + 1 + 1 + 1)) 1 20) 5 (k.2.1 (t + 1 + 1 + 1)) = qL (pSlS k t s) := by
            rw [hl4, hl2, hl1, nt.dp nn]; rfl
          rw [← el]
          exact (lt6.g w7).k (by omega) y15 y16
        · have p10 : ∀ c, c ≠ 0 → c ≠ 9 → c ≠ 10 → c ≠ 11 → c ≠ 12 → c ≠ 13 → (xm_sI g8 10 sd (g8.1 10 sd + 1)).1 c = g.1 c := fun c h0 h9 h10 h11 h12 h13 => by
            rw [xg_off _ _ _ h10, q8 c h0 h9, xg_off _ _ _ h13]; exact oo c h0 h11 h12
          have p11 : ∀ i, (xm_sI g8 10 sd (g8.1 10 sd + 1)).1 11 i = if i = 5 * sd + (qS s).length then v1 else g.1 11 i := fun i => by
            rw [xg_off _ _ _ (by decide), q8 11 (by decide) (by decide), xg_off _ _ _ (by decide)]; exact o11 i
          have p12 : ∀ i, (xm_sI g8 10 sd (g8.1 10 sd + 1)).1 12 i = if i = 5 * sd + (qS s).length then v2 else g.1 12 i := fun i => by
            rw [xg_off _ _ _ (by decide), q8 12 (by decide) (by decide), xg_off _ _ _ (by decide)]; exact o12 i
          have p13 : ∀ i, (xm_sI g8 10 sd (g8.1 10 sd + 1)).1 13 i = if i = 5 * sd + (qS s).length then v3 else g.1 13 i := fun i => by
            rw [xg_off _ _ _ (by decide), q8 13 (by decide) (by decide), xg_in, oo 13 (by decide) (by decide) (by decide)]
          obtain ⟨s1, s2, s3, s4, s5, s6, s7⟩ := hsd
          refine ⟨?_, by rw [p10 14 (by decide) (by decide) (by decide) (by decide) (by decide) (by decide)]; exact s2, by rw [p10 16 (by decide) (by decide) (by decide) (by decide) (by decide) (by decide)]; exact s3, fun i q hq => ?_, fun i q hq => by rw [p10 15 (by decide) (by decide) (by decide) (by decide) (by decide) (by decide)]; exact s5 i q hq, fun hn i q hq => ?_, by rw [p10 19 (by decide) (by decide) (by decide) (by decide) (by decide) (by decide)]; exact s7⟩
          · rw [xg_in, if_pos rfl, e10'', nI_1]
            show _ = nI (qS s ++ [_]).length
            rw [List.length_append]; rfl
          · rw [p11, p12, p13]
            rcases app_get hq with ⟨c, hq⟩ | ⟨rfl, rfl⟩
            · rw [if_neg (by omega), if_neg (by omega), if_neg (by omega)]; exact s4 i q hq
            · rw [if_pos rfl, if_pos rfl, if_pos rfl]; exact ⟨ev1, ev2, ev3⟩
          · rw [p10 17 (by decide) (by decide) (by decide) (by decide) (by decide) (by decide), p10 18 (by decide) (by decide) (by decide) (by decide) (by decide) (by decide)]
            exact s6 (pLt_n (pLt_n (pLt_n (pLt_n hn).1).1).1).1 i q hq
      have fin := hQ none _ ⟨rfl, fr9, fd9, (fun q' h => by cases h), (fun b h => by cases h; exact da)⟩
      exact ⟨fun z => absurd h13 z, fun _ => ⟨sd, ⟨sd2, e19''⟩, sd, ⟨sd2, e19''⟩, fin⟩⟩
