-- THE CLASS READS: all its tokens
def xTo (k : vTk) (t : Nat) (g : xG) : Prop := g.1 8 t = nI (k.1 t) ∧ g.1 9 t = nI (k.2.1 t) ∧ (k.1 t = 2 → g.2.1 10 t = pNm 32 (k.2.2.2 t)) ∧ (k.1 t = 3 → g.2.1 10 t = lN (k.2.2.1 t))
theorem xTo.k {k : vTk} {t : Nat} {g g' : xG} (h : xTo k t g) (e8 : g'.1 8 t = g.1 8 t) (e9 : g'.1 9 t = g.1 9 t) (e10 : g'.2.1 10 t = g.2.1 10 t) : xTo k t g' := by
  unfold xTo
  rw [e8, e9, e10]; exact h
def xFk (g g' : xG) : Prop := (∀ k, k ≠ 7 → k ≠ 8 → k ≠ 9 → g'.1 k = g.1 k) ∧ (∀ j, j ≠ 4 → g'.1 7 j = g.1 7 j) ∧ (∀ k, k ≠ 10 → g'.2.1 k = g.2.1 k) ∧ g'.2.2 = g.2.2
theorem xFk.rf {g : xG} : xFk g g := ⟨fun _ _ _ _ => rfl, fun _ _ => rfl, fun _ _ => rfl, rfl⟩
theorem xFk.p7 {g g1 : xG} (h : xFk g g1) (v : Int32) : xFk g (xm_sI g1 7 4 v) := ⟨fun k a b c => (xg_off g1 4 v a).trans (h.1 k a b c), fun j hj => by rw [xg_in, if_neg hj]; exact h.2.1 j hj, h.2.2.1, h.2.2.2⟩
theorem xFk.p8 {g g1 : xG} (h : xFk g g1) (j : Nat) (v : Int32) : xFk g (xm_sI g1 8 j v) := ⟨fun k a b c => (xg_off g1 j v b).trans (h.1 k a b c), fun i hi => by rw [xg_off _ _ _ (by decide)]; exact h.2.1 i hi, h.2.2.1, h.2.2.2⟩
theorem xFk.p9 {g g1 : xG} (h : xFk g g1) (j : Nat) (v : Int32) : xFk g (xm_sI g1 9 j v) := ⟨fun k a b c => (xg_off g1 j v c).trans (h.1 k a b c), fun i hi => by rw [xg_off _ _ _ (by decide)]; exact h.2.1 i hi, h.2.2.1, h.2.2.2⟩
theorem xFk.o {g g1 g2 : xG} (h : xFk g g1) {j : Nat} (f : xFo j g1 g2) : xFk g g2 := ⟨fun k a b c => (f.1 k b).trans (h.1 k a b c), fun i hi => by rw [f.1 7 (by decide)]; exact h.2.1 i hi, fun k hk => (f.2.2.1 k hk).trans (h.2.2.1 k hk), f.2.2.2.2.trans h.2.2.2⟩
theorem pN_eq {n : Nat} {c : Nat → Nat} {a : Nat} (ha : a ≤ 400) (h1 : ∀ t, t < a → 1 < (pTk n c).1 t) (h2 : (pTk n c).1 a ≤ 1 ∨ a = 400) : pN n c = a := by
  obtain ⟨-, p2, p3, p4⟩ := pLst_i (pTk n c) 400 0
  have e : pLst (pTk n c) 400 0 = pN n c := rfl
  rw [e] at p2 p3 p4
  refine Nat.le_antisymm (Nat.le_of_not_lt fun q => ?_) (Nat.le_of_not_lt fun q => ?_)
  · have := p4 a (Nat.zero_le _) q
    rcases h2 with z | z <;> omega
  · have := h1 _ q
    rcases p3 with z | z <;> omega
def xt_X7_scan : xT := xm_rl (Z := Nat × (Nat → Int32)) (fun (n, tb) av g => av = [.ref 7] ∧ n ≤ 2000 ∧ xTape n tb g ∧ xBt n tb) (fun (n, tb) g o g' => o = none ∧ xTk (pTk n (pC n tb)) (pN n (pC n tb)) g' ∧ xFk g g')
set_option maxRecDepth 100000 in
set_option maxHeartbeats 400000 in
theorem xp_X7_scan {l : Launch} {D : va_G} {cA : Nat → ClassId} {B : List (Nat × Cell)} : xm_Met l D cA B xs_X 8 yX7_scan cX7_scan 5 none xt_X7_scan := by
  have hm : xm_monos [xt_X7_byteAt, xt_X7_isBlank, xt_X7_scanOne] := ⟨(by first | exact xm_fn_mono _ _ _ | exact xm_rl_mono _ _), (by first | exact xm_fn_mono _ _ _ | exact xm_rl_mono _ _), (by first | exact xm_fn_mono _ _ _ | exact xm_rl_mono _ _), trivial⟩
  refine xm_meth (own := RX7) (ks := xk_X7_scan) (C := xc_X7_scan) (Ts := [xt_X7_byteAt, xt_X7_isBlank, xt_X7_scanOne]) (by decide +kernel) rfl xm_clsok xs_X_ok xf_X7_ok xi_X7_ok xj_X7_ok (xm_lk xl_X7_33 xp_X7_byteAt (by decide) (xm_lk xl_X7_37 xp_X7_isBlank (by decide) (xm_lk xl_X7_41 xp_X7_scanOne (by decide) xm_lk0))) xo_X7_scan ?_ ?_
  · rintro av g Q ⟨z, ⟨rfl, -⟩, -⟩
    exact Nat.le_of_ble_eq_true rfl
  · rintro av g Q ⟨⟨n, tb⟩, ⟨rfl, hn, ht, hb⟩, hQ⟩
    dsimp only at hn ht hb hQ
    obtain ⟨K, hK⟩ : ∃ K, K = pTk n (pC n tb) := ⟨_, rfl⟩
    obtain ⟨c, hc⟩ : ∃ c, c = pC n tb := ⟨_, rfl⟩
    rw [← hc] at hK hQ
    rw [← hK] at hQ
    have tape : ∀ g1, xFk g g1 → xTape n tb g1 := fun g1 f => ht.fr (f.1 1 (by decide) (by decide) (by decide)) (f.1 2 (by decide) (by decide) (by decide))
    obtain ⟨k1, k2, -⟩ := pTk_k (n := n) (c := c) hn
    rw [← hK] at k2
    -- the end is laid
    have fin : ∀ (g1 : xG) (j : Nat), xFk g g1 → g1.1 7 4 = nI j → j ≤ 401 → (∀ t, t < j → xTo K t g1) → ((j ≤ 400 ∧ pN n c = j ∧ K.1 j = 0 ∧ K.2.1 j = n) ∨ (pN n c + 1 = j)) → ∀ w2 w3 w4, xm_go xs_X xk_X7_scan [xt_X7_byteAt, xt_X7_isBlank, xt_X7_scanOne] xc_X7_scan Q (xm_drop 58 xc_X7_scan) [.ref 7, .int (nI n), w2, w3, w4] [] g1 := by
      intro g1 j f1 e4 hj hT hN w2 w3 w4
      have e4' : (xm_sI g1 8 j 0).1 7 4 = nI j := by rw [xg_off _ _ _ (by decide)]; exact e4
      refine xm_run_go hm 40 ⟨j, ⟨by omega, e4⟩, j, ⟨by omega, e4'⟩, hQ _ _ ⟨rfl, ⟨k1, k2, fun i hi => ?_⟩, (f1.p8 _ _).p9 _ _⟩⟩
      have ok := pTo_ok (n := n) (c := c) (pSt' n c i)
      have tok : xTo K i (xm_sI (xm_sI g1 8 j 0) 9 j (nI n)) := by
        by_cases e : i = j
        · subst e
          rcases hN with ⟨-, -, h3, h4⟩ | h
          · refine ⟨by rw [xg_off _ _ _ (by decide), xg_in, if_pos rfl, h3]; rfl, by rw [xg_in, if_pos rfl, h4], fun h => ?_, fun h => ?_⟩
            · rw [h3] at h; cases h
            · rw [h3] at h; cases h
          · omega
        · exact (hT i (by omega)).k (by rw [xg_off _ _ _ (by decide), xg_in, if_neg e]) (by rw [xg_in, if_neg e, xg_off _ _ _ (by decide)]) rfl
      obtain ⟨t1, t2, t3, t4⟩ := tok
      refine ⟨t1, t2, by rw [hK]; exact ok.1, t3, fun h => ⟨t4 h, ?_⟩⟩
      rw [hK] at h ⊢
      exact ok.2.2.2 h
    have loop : ∀ d i, i + d = n → ∀ (j : Nat) (g1 : xG), xFk g g1 → g1.1 7 4 = nI j → j ≤ 401 → (∀ t, t < j → xTo K t g1) → (∀ t, t < j → 1 < K.1 t) → pSk n c i = pSt' n c j → ∀ w4, xm_go xs_X xk_X7_scan [xt_X7_byteAt, xt_X7_isBlank, xt_X7_scanOne] xc_X7_scan Q (xm_drop 11 xc_X7_scan) [.ref 7, .int (nI n), .int (nI i), .int 1, w4] [] g1 := by
      intro d
      induction d using Nat.strongRecOn with
      | _ d ih =>
      intro i hi j g1 f1 e4 hj hT hB hs w4
      by_cases en : i < n
      · by_cases j4 : j ≤ 400
        · have ge : ¬ nI n ≤ nI i := nI_ge en (by omega)
          have nj : ¬ 400 < g1.1 7 4 := by rw [e4]; exact nI_nlt (a := 400) (b := j) j4 (by decide)
          have t1 := tape g1 f1
          cases hbl : pBl (c i) with
          | true =>
            have is1 : ¬ bI (pBl (c i)) = 0 := fun z => by rw [bI_0.mp z] at hbl; cases hbl
            have nx := ih (d - 1) (by omega) (i + 1) (by omega) j g1 f1 e4 hj hT hB (by rw [pSk_b en hbl]; exact hs)
            rw [nI_succ] at nx
            rw [hc] at is1
            exact xm_run_go hm 60 ⟨fun z => absurd z ge, fun _ => ⟨fun z => absurd z nj, fun _ => ⟨fun z => absurd z (by decide), fun _ => ⟨(n, tb, i), ⟨rfl, hn, by show i ≤ 2000; omega, t1⟩, pC n tb i, ⟨rfl, pC_lt _ _ _⟩, ⟨fun z => absurd z is1, fun _ => xm_cut hm (nx _)⟩⟩⟩⟩⟩
          | false =>
            have is0 : bI (pBl (c i)) = 0 := bI_0.mpr hbl
            rw [pSk_n hbl] at hs
            have e4' : (xm_sI g1 9 j (nI i)).1 7 4 = nI j := by rw [xg_off _ _ _ (by decide)]; exact e4
            have t2 := tape _ (f1.p9 j (nI i))
            have en' := pTo_end (c := c) en
            have next : ∀ (o : Option Value) (g2 : xG), (o = some (.int (nI (pTo n (pC n tb) i).2.2.2)) ∧ xFo j (xm_sI g1 9 j (nI i)) g2 ∧ g2.1 8 j = nI (pTo n (pC n tb) i).1 ∧ ((pTo n (pC n tb) i).1 = 2 → g2.1 10 j = g2.1 10 j ∧ g2.2.1 10 j = pNm 32 (pTo n (pC n tb) i).2.2.1) ∧ ((pTo n (pC n tb) i).1 = 3 → g2.2.1 10 j = lN (pTo n (pC n tb) i).2.1)) → o = some (.int (nI (pTo n c i).2.2.2)) ∧ g2.1 7 4 = nI j ∧ ((g2.1 8 j = 1 ∧ ∀ w4, xm_go xs_X xk_X7_scan [xt_X7_byteAt, xt_X7_isBlank, xt_X7_scanOne] xc_X7_scan Q (xm_drop 11 xc_X7_scan) [.ref 7, .int (nI n), .int (nI (pTo n c i).2.2.2), .int 0, w4] [] (xm_sI g2 7 4 (g2.1 7 4 + 1))) ∨ (¬ g2.1 8 j = 1 ∧ ∀ w4, xm_go xs_X xk_X7_scan [xt_X7_byteAt, xt_X7_isBlank, xt_X7_scanOne] xc_X7_scan Q (xm_drop 11 xc_X7_scan) [.ref 7, .int (nI n), .int (nI (pTo n c i).2.2.2), .int 1, w4] [] (xm_sI g2 7 4 (g2.1 7 4 + 1)))) := by
              rintro o g2 ⟨rfl, f2, q8, q2, q3⟩
              rw [← hc] at q8 q2 q3
              have k8 : K.1 j = (pTo n c i).1 := by rw [hK, hs]; rfl
              have kp : K.2.1 j = i := by rw [hK, hs]; rfl
              have r4 : g2.1 7 4 = nI j := by rw [f2.1 7 (by decide)]; exact e4'
              have f3 : xFk g (xm_sI g2 7 4 (g2.1 7 4 + 1)) := ((f1.p9 j (nI i)).o f2).p7 _
              have r4' : (xm_sI g2 7 4 (g2.1 7 4 + 1)).1 7 4 = nI (j + 1) := by rw [xg_in, if_pos rfl, r4, nI_1]
              have tok : ∀ t, t < j + 1 → xTo K t (xm_sI g2 7 4 (g2.1 7 4 + 1)) := fun t ht' => by
                by_cases e : t = j
                · subst e
                  refine ⟨by rw [xg_off _ _ _ (by decide), k8]; exact q8, by rw [xg_off _ _ _ (by decide), f2.1 9 (by decide), xg_in, if_pos rfl, kp], fun h => ?_, fun h => ?_⟩
                  · rw [k8] at h
                    have := (q2 h).2
                    rw [hs] at this
                    rw [hK]; exact this
                  · rw [k8] at h
                    have := q3 h
                    rw [hs] at this
                    rw [hK]; exact this
                · exact (hT t (by omega)).k (by rw [xg_off _ _ _ (by decide), f2.2.1 t e, xg_off _ _ _ (by decide)]) (by rw [xg_off _ _ _ (by decide), f2.1 9 (by decide), xg_in, if_neg e]) (by show g2.2.1 10 t = _; rw [f2.2.2.2.1 t e]; rfl)
              have ok := pTo_ok (n := n) (c := c) i
              refine ⟨by rw [hc], r4, ?_⟩
              by_cases bad : (pTo n c i).1 = 1
              · refine Or.inl ⟨by rw [q8, bad]; rfl, fun w4 => ?_⟩
                have N1 : pN n c = j := pN_eq j4 (fun t ht' => by rw [← hK]; exact hB t ht') (Or.inl (by rw [← hK, k8, bad]; decide))
                have go := fin _ (j + 1) f3 r4' (by omega) tok (Or.inr (by omega))
                refine xm_run_go hm 9 ⟨fun _ => xm_go_run hm _ (go _ _ _), fun _ => ⟨fun _ => xm_go_run hm _ (go _ _ _), fun _ => ⟨fun _ => xm_go_run hm _ (go _ _ _), fun z => absurd rfl z⟩⟩⟩
              · refine Or.inr ⟨fun z => ?_, fun w4 => ?_⟩
                · rw [q8] at z
                  exact bad (nI_inj (b := 1) (by omega) (by omega) z)
                · refine ih (n - (pTo n c i).2.2.2) (by omega) (pTo n c i).2.2.2 (by omega) (j + 1) _ f3 r4' (by omega) tok (fun t ht' => ?_) (by show _ = pSk n c (pTo n c (pSt' n c j)).2.2.2; rw [← hs]) w4
                  by_cases e : t = j
                  · rw [e, k8]
                    have := en'.2.2
                    omega
                  · exact hB t (by omega)
            rw [hc] at is0
            refine xm_run_go hm 80 ⟨fun z => absurd z ge, fun _ => ⟨fun z => absurd z nj, fun _ => ⟨fun z => absurd z (by decide), fun _ => ⟨(n, tb, i), ⟨rfl, hn, by show i ≤ 2000; omega, t1⟩, pC n tb i, ⟨rfl, pC_lt _ _ _⟩, ⟨fun _ => ⟨j, ⟨by omega, e4⟩, (n, tb, i, j), ⟨rfl, hn, t2, hb, en, j4, e4'⟩, ?_⟩, fun z => absurd is0 z⟩⟩⟩⟩⟩
            intro o g2 h2
            obtain ⟨rfl, r4, h⟩ := next o g2 ⟨h2.1, h2.2.1, h2.2.2.1, fun q => ⟨rfl, h2.2.2.2.1 q⟩, h2.2.2.2.2⟩
            rcases h with ⟨z, go⟩ | ⟨z, go⟩
            · exact ⟨j, ⟨by omega, r4⟩, ⟨fun _ => xm_cut hm (go _), fun q => absurd z q⟩⟩
            · exact ⟨j, ⟨by omega, r4⟩, ⟨fun q => absurd q z, fun _ => xm_cut hm (go _)⟩⟩
        · have j1 : j = 401 := by omega
          have N1 : pN n c = 400 := pN_eq (by decide) (fun t ht' => by rw [← hK]; exact hB t (by omega)) (Or.inr rfl)
          have go := fin g1 j f1 e4 hj hT (Or.inr (by omega))
          have gt : 400 < g1.1 7 4 := by rw [e4, j1]; decide
          exact xm_run_go hm 7 ⟨fun _ => xm_go_run hm _ (go _ _ _), fun _ => ⟨fun _ => xm_go_run hm _ (go _ _ _), fun z => absurd gt (Int32.not_lt.mpr z)⟩⟩
      · have ei : i = n := by omega
        have le : nI n ≤ nI i := by rw [ei]; exact Int32.le_refl _
        have sn : pSt' n c j = n := by
          rw [← hs, ei]
          have := pSk_le (n := n) (c := c) (i := n) (Nat.le_refl _)
          omega
        have k0 : K.1 j = 0 := by rw [hK]; show (pTo n c (pSt' n c j)).1 = 0; rw [sn, pTo_n (Nat.le_refl _)]
        by_cases j4 : j ≤ 400
        · have N1 : pN n c = j := pN_eq j4 (fun t ht' => by rw [← hK]; exact hB t ht') (Or.inl (by rw [← hK, k0]; decide))
          have go := fin g1 j f1 e4 hj hT (Or.inl ⟨j4, N1, k0, by rw [hK]; exact sn⟩)
          exact xm_run_go hm 3 ⟨fun _ => xm_go_run hm _ (go _ _ _), fun z => absurd le (Int32.not_le.mpr z)⟩
        · have N1 : pN n c = 400 := pN_eq (by decide) (fun t ht' => by rw [← hK]; exact hB t (by omega)) (Or.inr rfl)
          have go := fin g1 j f1 e4 hj hT (Or.inr (by omega))
          exact xm_run_go hm 3 ⟨fun _ => xm_go_run hm _ (go _ _ _), fun z => absurd le (Int32.not_le.mpr z)⟩
    have go := loop n 0 (by omega) 0 (xm_sI g 7 4 0) (xFk.rf.p7 0) (by rw [xg_in, if_pos rfl]; rfl) (by omega) (fun t ht' => absurd ht' (by omega)) (fun t ht' => absurd ht' (by omega)) rfl
    rw [← ht.1] at go
    exact xm_run_go hm 20 (xm_cut hm (go _))
