-- THE CLASS READS
theorem xPi_eq {a k : Nat} (h : xPi k = k) : xPi a = k ↔ a = k := ⟨fun e => by rw [← xPi_i a, e, h], fun e => by rw [e, h]⟩
theorem xGp_sI {a b k j : Nat} {v : Int32} {g : xG} (h : xPi k = k) : xm_sI (xGz a b (xGp g)) k j v = xGz a b (xGp (xm_sI g k j v)) := by
  unfold xm_sI xGz xGp
  refine Prod.ext ?_ rfl
  funext c d
  dsimp only
  unfold xm_u2
  by_cases e : c = k
  · subst e; rw [if_pos rfl, if_pos h]
  · rw [if_neg e, if_neg (fun z => e ((xPi_eq h).mp z))]
def xShd (t : vSt) (sh : List (Nat × Nat)) (g : xG) : Prop := g.1 38 10 = nI sh.length ∧ sh.length ≤ 20 ∧ ∀ i q, sh[i]? = some q → q.1 < tM t ∧ q.2 < tN t ∧ g.1 43 i = nI q.1 ∧ g.1 44 i = nI q.2
theorem xSto.p {t : vSt} {g : xG} (h : xSto 38 t g) : xSto 29 t (xGp g) := h
theorem xShd.p {t : vSt} {sh : List (Nat × Nat)} {g : xG} (h : xShd t sh g) : xShown t sh (xGp g) := h
def xt_X8_adopt : xT := xm_rl (Z := vSt × List (Nat × Nat)) (fun (t, sh) av g => av = [.ref 0] ∧ g.2.2 0 7 = 29 ∧ g.2.2 3 0 = 38 ∧ vTok t ∧ xSto 38 t g ∧ xShd t sh g)
  (fun (t, sh) g o g' => o = none ∧ ∃ g0, g' = xGz 38 29 (xGp g0) ∧ xIn 11 t (vBegin t sh v0) g0 ∧ vCok t (vBegin t sh v0) ∧ (∀ k, (k ≤ 2 ∨ k = 48 ∨ 55 ≤ k) → g0.1 k = g.1 k) ∧ g0.1 47 = (xm_sI (xm_sI g 47 0 0) 47 1 0).1 47 ∧ g0.1 54 0 = 0)
set_option maxRecDepth 100000 in
set_option maxHeartbeats 400000 in
theorem xp_X8_adopt {l : Launch} {D : va_G} {cA : Nat → ClassId} {B : List (Nat × Cell)} : xm_Met l D cA B xs_R 6 yX8_adopt cX8_adopt 2 none xt_X8_adopt := by
  have hm : xm_monos [xt_X3_beginRA, xt_X4_clearRA] := ⟨xn_X3_beginRA, xn_X4_clearRA, trivial⟩
  refine xm_meth (own := RX8) (ks := xk_X8_adopt) (C := xc_X8_adopt) (Ts := [xt_X3_beginRA, xt_X4_clearRA]) (by decide +kernel) rfl xm_clsok xs_R_ok xf_X8_ok xi_X8_ok xj_X8_ok (xm_lk xl_X8_47 xp_X3_beginRA (by decide) (xm_lk xl_X8_106 xp_X4_clearRA (by decide) xm_lk0)) xo_X8_adopt ?_ ?_
  · rintro av g Q ⟨z, ⟨rfl, -⟩, -⟩
    exact Nat.le_of_ble_eq_true rfl
  · rintro av g Q ⟨⟨t, sh⟩, ⟨rfl, h0, h3, ht, hs, hh⟩, hQ⟩
    dsimp only at h0 h3 ht hs hh hQ
    obtain ⟨g2, hg2⟩ : ∃ g2, g2 = xm_sR (xm_sR g 0 7 38) 3 0 29 := ⟨_, rfl⟩
    have e1 : g2.1 = g.1 := by rw [hg2]; rfl
    have r0 : g2.2.2 0 7 = 38 := by rw [hg2]; rfl
    have r3 : g2.2.2 3 0 = 29 := by rw [hg2]; rfl
    have e2 : g2 = xGz 38 29 (xGp (xGp g2)) := by rw [xGp_i, xGz_id r0 r3]
    have e2' : xm_sR (xm_sR g 0 7 38) 3 0 29 = xGz 38 29 (xGp (xGp g2)) := by rw [← hg2]; exact e2
    have hs2 : xSto 38 t g2 := hs.fr (fun k _ _ => by rw [e1])
    have hh2 : xShd t sh g2 := by unfold xShd; rw [e1]; exact hh
    refine xm_run_go hm 40 ⟨29, h0, 38, h3, 38, rfl, xGp g2, e2', (t, sh), ⟨rfl, ht, hs2.p, hh2.p⟩, ?_⟩
    rintro o g3 ⟨rfl, hin, hc, fr⟩
    refine ⟨g3, rfl, (), ⟨rfl, trivial⟩, ?_⟩
    obtain ⟨g4, hg4⟩ : ∃ g4, g4 = xm_sI (xm_sI (xm_sI g3 47 0 0) 47 1 0) 54 0 0 := ⟨_, rfl⟩
    have o4 : ∀ k, k ≠ 47 → k ≠ 54 → g4.1 k = g3.1 k := fun k a b => by rw [hg4, xg_off _ _ _ b, xg_off _ _ _ a, xg_off _ _ _ a]
    have r4 : g4.2 = g3.2 := by rw [hg4]; rfl
    have k3 : ∀ k, (k < 11 ∨ (19 < k ∧ k < 29) ∨ 46 < k) → g3.1 k = g.1 k := fun k hk => by
      rw [fr.1 k (by omega)]
      show g2.1 (xPi k) = _
      rw [xPi_3 (by omega), e1]
    have fin := hQ none (xGz 38 29 (xGp g4)) ⟨rfl, g4, rfl, ⟨hin.1, hin.2.1, hin.2.2.1.fr (fun k a b => o4 k (by omega) (by omega)), hin.2.2.2.fr2 (by rw [r4]) (fun k a b => o4 k (by omega) (by omega))⟩, hc, (fun k hk => by rw [o4 k (by omega) (by omega)]; exact k3 k (by omega)), (by
      rw [hg4, xg_off _ _ _ (by decide)]
      have e7 := k3 47 (by omega)
      funext j
      rw [xg_in, xg_in, xg_in, xg_in, e7]), by rw [hg4]; rfl⟩
    rw [hg4, ← xGp_sI (by rfl)] at fin
    exact fin
theorem xTop_flt {σ : vS} {g g1 : xG} (h : xTop σ g) (f : xFS g g1) (pl : Int32) : xTop (0, sB σ, pl, σ.2.2.2) (xm_sI (xm_sI g1 1 1 0) 0 8 pl) := by
  obtain ⟨h1, h2, h3, h4, h5, h6⟩ := h
  obtain ⟨o1, o2, o3, o4, o5, o6, o7⟩ := h1
  have k : ∀ k, k ≠ 0 → k ≠ 1 → ¬ (3 ≤ k ∧ k ≤ 10) → ¬ (38 ≤ k ∧ k ≤ 46) → (xm_sI (xm_sI g1 1 1 0) 0 8 pl).1 k = g.1 k := fun k a b c d => by rw [xg_off _ _ _ a, xg_off _ _ _ b]; exact f.2 k c d
  refine ⟨⟨o1, o2, Nat.zero_le _, o4, o5, o6, o7⟩, ⟨h2.1, h2.2.1, h2.2.2.1.fr (fun q a b => k q (by omega) (by omega) (by omega) (by omega)), h2.2.2.2.fr2 (by show g1.2.2 11 = g.2.2 11; rw [f.1]) (fun q a b => k q (by omega) (by omega) (by omega) (by omega))⟩, ⟨rfl, fun i hi => absurd hi (Nat.not_lt_zero _)⟩, rfl, h5.fr (k 47 (by decide) (by decide) (by decide) (by decide)) (k 48 (by decide) (by decide) (by decide) (by decide)), h6.fr (fun q hq => k q (by omega) (by omega) (by omega) (by omega))⟩
def xt_X8_read : xT := xm_rl (Z := vS) (fun σ av g => av = [.ref 0] ∧ g.2.2 0 7 = 29 ∧ g.2.2 3 0 = 38 ∧ xTop σ g ∧ xBt (sN σ) (sB σ))
  (fun σ _ o g' => o = some (.int (aRead σ)) ∧ ∃ g0, (g' = xGz 29 38 g0 ∨ g' = xGz 38 29 (xGp g0)) ∧ xTop (sRead σ) g0)
set_option maxRecDepth 100000 in
set_option maxHeartbeats 400000 in
theorem xp_X8_read {l : Launch} {D : va_G} {cA : Nat → ClassId} {B : List (Nat × Cell)} : xm_Met l D cA B xs_R 10 yX8_read cX8_read 2 (some .int) xt_X8_read := by
  have hm : xm_monos [xt_X1_startRA, xt_X1_goesOnRA, xt_X1_readTellRA, xt_X1_faultPlaceRA, xt_X1_faultNumberRA, xt_X8_adopt] := ⟨xn_X1_startRA, xn_X1_goesOnRA, xn_X1_readTellRA, xn_X1_faultPlaceRA, xn_X1_faultNumberRA, (by first | exact xm_fn_mono _ _ _ | exact xm_rl_mono _ _), trivial⟩
  refine xm_meth (own := RX8) (ks := xk_X8_read) (C := xc_X8_read) (Ts := [xt_X1_startRA, xt_X1_goesOnRA, xt_X1_readTellRA, xt_X1_faultPlaceRA, xt_X1_faultNumberRA, xt_X8_adopt]) (by decide +kernel) rfl xm_clsok xs_R_ok xf_X8_ok xi_X8_ok xj_X8_ok (xm_lk xl_X8_82 xp_X1_startRA (by decide) (xm_lk xl_X8_87 xp_X1_goesOnRA (by decide) (xm_lk xl_X8_91 xp_X1_readTellRA (by decide) (xm_lk xl_X8_94 xp_X1_faultPlaceRA (by decide) (xm_lk xl_X8_97 xp_X1_faultNumberRA (by decide) (xm_lk xl_X8_100 xp_X8_adopt (by decide) xm_lk0)))))) xo_X8_read ?_ ?_
  · rintro av g Q ⟨z, ⟨rfl, -⟩, -⟩
    exact Nat.le_of_ble_eq_true rfl
  · rintro av g Q ⟨σ, ⟨rfl, h0, h3, ht, hb⟩, hQ⟩
    dsimp only at h0 h3 ht hb hQ
    have hn : sN σ ≤ 2000 := ht.1.2.2.1
    obtain ⟨K, hK⟩ : ∃ K, K = pTk (sN σ) (pC (sN σ) (sB σ)) := ⟨_, rfl⟩
    obtain ⟨N, hN⟩ : ∃ N, N = pN (sN σ) (pC (sN σ) (sB σ)) := ⟨_, rfl⟩
    obtain ⟨W, hW⟩ : ∃ W, pRd (sN σ) (sB σ) = W := ⟨_, rfl⟩
    obtain ⟨N4, -, kk⟩ := pTk_k (n := sN σ) (c := pC (sN σ) (sB σ)) hn
    have nu := pTk_nu (sN σ) (pC (sN σ) (sB σ))
    rw [← hK] at nu
    rw [← hK, ← hN] at kk
    rw [← hN] at N4
    unfold aRead sRead at hQ
    rw [hW] at hQ
    have hWp : pAll K 402 0 pS0 = W := by rw [hK]; exact hW
    have ref0 : ∀ g1, xFS g g1 → g1.2.2 0 7 = 29 := fun g1 f => by rw [f.1]; exact h0
    have ref3 : ∀ g1, xFS g g1 → g1.2.2 3 0 = 38 := fun g1 f => by rw [f.1]; exact h3
    have idz : ∀ g1, xFS g g1 → xGz 29 38 g1 = g1 := fun g1 f => xGz_id (ref0 g1 f) (ref3 g1 f)
    -- with a fault
    have at17f : ∀ (g1 : xG) (n p : Int32), xFS g g1 → n ≠ 0 → pRes W = (n, p, none) → (if g1.1 3 8 = 0 then g1.1 3 11 else g1.1 3 9) = p → (if g1.1 3 8 = 0 then g1.1 3 10 else g1.1 3 8) = n → ∀ x, xm_go xs_R xk_X8_read [xt_X1_startRA, xt_X1_goesOnRA, xt_X1_readTellRA, xt_X1_faultPlaceRA, xt_X1_faultNumberRA, xt_X8_adopt] xc_X8_read Q (xm_drop 17 xc_X8_read) [.ref 0, .int x] [] g1 := by
      intro g1 n p f1 n0 hr hp hn x
      have e1 := (idz g1 f1).symm
      rw [hr] at hQ
      dsimp only at hQ
      have z1 : xm_sI g1 1 1 0 = xGz 29 38 (xm_sI g1 1 1 0) := (xGz_id (g := xm_sI g1 1 1 0) (ref0 g1 f1) (ref3 g1 f1)).symm
      have fin : Q (some (.int (if g1.1 3 8 = 0 then g1.1 3 10 else g1.1 3 8))) (xGz 29 38 (xm_sI (xm_sI g1 1 1 0) 0 8 (if g1.1 3 8 = 0 then g1.1 3 11 else g1.1 3 9))) := by
        rw [hn, hp]
        exact hQ _ _ ⟨rfl, _, Or.inl rfl, xTop_flt ht f1 p⟩
      refine xm_run_go hm 40 ⟨xm_sI g1 1 1 0, z1, (), ⟨rfl, trivial⟩, xm_sI (xm_sI g1 1 1 0) 0 8 (if g1.1 3 8 = 0 then g1.1 3 11 else g1.1 3 9), rfl, (), ⟨rfl, trivial⟩, ⟨fun _ => fin, fun z => ?_⟩⟩
      exact absurd (hn.symm.trans z) n0
    have at17s : ∀ (g1 : xG) (s : pSt) (a : Nat), xFS g g1 → W = .inr s → xTl N a s g1 → pInv s → pNb s → pNx s → ∀ x, xm_go xs_R xk_X8_read [xt_X1_startRA, xt_X1_goesOnRA, xt_X1_readTellRA, xt_X1_faultPlaceRA, xt_X1_faultNumberRA, xt_X8_adopt] xc_X8_read Q (xm_drop 17 xc_X8_read) [.ref 0, .int x] [] g1 := by
      intro g1 s a f1 hw tl iv nb nx x
      obtain ⟨⟨⟨h8, -, -⟩, lt, -, sd⟩, -⟩ := id tl
      cases hl : qL s with
      | some q =>
        rw [hl] at lt
        rcases lt with ⟨z, -⟩ | ⟨n, p, e, n3, n5, e10, e11⟩
        · cases z
        · cases e
          have hr : pRes W = (nI n, nI p, none) := by rw [hw]; unfold pRes; dsimp only; rw [hl]
          exact at17f g1 (nI n) (nI p) f1 (fun z => by have := nI_inj (b := 0) (by omega) (by omega) z; omega) hr (by rw [if_pos h8]; exact e11) (by rw [if_pos h8]; exact e10) x
      | none =>
        rw [hl] at lt
        rcases lt with ⟨-, e10, e11⟩ | ⟨n, p, e, -⟩
        · have hr : pRes W = (0, -1, some s) := by rw [hw]; unfold pRes; dsimp only; rw [hl]
          rw [hr] at hQ
          dsimp only at hQ
          have hn : (if g1.1 3 8 = 0 then g1.1 3 10 else g1.1 3 8) = 0 := by rw [if_pos h8]; exact e10
          have hp : (if g1.1 3 8 = 0 then g1.1 3 11 else g1.1 3 9) = -1 := by rw [if_pos h8]; exact e11
          have z1 : xm_sI g1 1 1 0 = xGz 29 38 (xm_sI g1 1 1 0) := (xGz_id (g := xm_sI g1 1 1 0) (ref0 g1 f1) (ref3 g1 f1)).symm
          obtain ⟨g2, hg2⟩ : ∃ g2, g2 = xm_sI (xm_sI g1 1 1 0) 0 8 (if g1.1 3 8 = 0 then g1.1 3 11 else g1.1 3 9) := ⟨_, rfl⟩
          have k2 : ∀ k, k ≠ 0 → k ≠ 1 → g2.1 k = g1.1 k := fun k a b => by rw [hg2, xg_off _ _ _ a, xg_off _ _ _ b]
          have sto : xSto 38 (pTs s) (xGz 29 38 g2) := (xSto_rd tl iv nx).fr (fun k a b => k2 k (by omega) (by omega))
          have sho : xShd (pTs s) (qH s) (xGz 29 38 g2) := ⟨(by show g2.1 38 10 = _; rw [k2 38 (by decide) (by decide)]; exact sd.1), iv.2.2.1, fun i q hq => by
            obtain ⟨a1, a2⟩ := sd.2.2.2.1 hl i q hq
            obtain ⟨b1, b2⟩ := iv.2.2.2.2 hl q (List.mem_of_getElem? hq)
            refine ⟨b1, b2, ?_, ?_⟩
            · show g2.1 43 i = _
              rw [k2 43 (by decide) (by decide)]; exact a1
            · show g2.1 44 i = _
              rw [k2 44 (by decide) (by decide)]; exact a2⟩
          have tok : vTok (pTs s) := pTs_ok iv nb hl
          have end34 : ∀ (o : Option Value) (g3 : xG), (o = none ∧ ∃ g0, g3 = xGz 38 29 (xGp g0) ∧ xIn 11 (pTs s) (vBegin (pTs s) (qH s) v0) g0 ∧ vCok (pTs s) (vBegin (pTs s) (qH s) v0) ∧ (∀ k, (k ≤ 2 ∨ k = 48 ∨ 55 ≤ k) → g0.1 k = (xGz 29 38 g2).1 k) ∧ g0.1 47 = (xm_sI (xm_sI (xGz 29 38 g2) 47 0 0) 47 1 0).1 47 ∧ g0.1 54 0 = 0) → o = none ∧ Q (some (.int (if g1.1 3 8 = 0 then g1.1 3 10 else g1.1 3 8))) g3 := by
            rintro o g3 ⟨rfl, g0, rfl, i1, i2, i3, i4, i5⟩
            refine ⟨rfl, ?_⟩
            rw [hn]
            obtain ⟨⟨o1, o2, o3, o4, o5, o6, o7⟩, t2, t3, t4, t5, t6⟩ := ht
            have kk : ∀ k, (k = 2 ∨ k = 48 ∨ 55 ≤ k) → g0.1 k = g.1 k := fun k hk => by
              rw [i3 k (by omega)]
              show g2.1 k = _
              rw [k2 k (by omega) (by omega)]
              exact f1.2 k (by omega) (by omega)
            refine hQ _ _ ⟨rfl, g0, Or.inr rfl, ⟨tok, i2, Nat.zero_le _, Nat.zero_le _, fun i hi => absurd hi (Nat.not_lt_zero _), (fun i hi c hc => by cases hc), Nat.zero_le _⟩, i1, ⟨?_, fun i hi => absurd hi (Nat.not_lt_zero _)⟩, ?_, (xShelf_clear g t5).fr ?_ ?_, i5, Nat.zero_le _, fun i hi => absurd hi (Nat.not_lt_zero _)⟩
            · rw [i3 1 (by omega)]
              show g2.1 1 1 = _
              rw [hg2]; rfl
            · rw [i3 0 (by omega)]
              show g2.1 0 8 = _
              rw [hg2, xg_in, if_pos rfl]; exact hp
            · rw [i4]
              have e7 : g2.1 47 = g.1 47 := (k2 47 (by decide) (by decide)).trans (f1.2 47 (by decide) (by decide))
              have e7' : (xGz 29 38 g2).1 47 = g.1 47 := e7
              funext j
              rw [xg_in, xg_in, xg_in, xg_in, e7']
            · rw [kk 48 (by omega), xg_off _ _ _ (by decide), xg_off _ _ _ (by decide)]
          rw [hg2] at sto sho end34
          refine xm_run_go hm 40 ⟨xm_sI g1 1 1 0, z1, (), ⟨rfl, trivial⟩, xm_sI (xm_sI g1 1 1 0) 0 8 (if g1.1 3 8 = 0 then g1.1 3 11 else g1.1 3 9), rfl, (), ⟨rfl, trivial⟩, ⟨fun z => absurd hn z, fun _ => ⟨(pTs s, qH s), ⟨rfl, rfl, rfl, tok, sto, sho⟩, ?_⟩⟩⟩
          intro o g3 h3'
          obtain ⟨rfl, fin⟩ := end34 o g3 h3'
          exact fin
        · cases e
    have at17q : ∀ (g1 : xG) (q : pF), xFS g g1 → W = .inl q → xFt q.1 q.2 g1 → ∀ x, xm_go xs_R xk_X8_read [xt_X1_startRA, xt_X1_goesOnRA, xt_X1_readTellRA, xt_X1_faultPlaceRA, xt_X1_faultNumberRA, xt_X8_adopt] xc_X8_read Q (xm_drop 17 xc_X8_read) [.ref 0, .int x] [] g1 := by
      intro g1 q f1 hw ft x
      have e8 := ft.1
      have n0 : nI q.1 ≠ 0 := by rcases ft.2.1 with z | z <;> rw [z] <;> decide
      have n8 : ¬ g1.1 3 8 = 0 := by rw [e8]; exact n0
      exact at17f g1 (nI q.1) (nI q.2) f1 n0 (by rw [hw]; rfl) (by rw [if_neg n8]; exact ft.2.2.1) (by rw [if_neg n8]; exact e8) x
    have at5f : ∀ (i : Nat) (g1 : xG) (q : pF), xFS g g1 → xTk K N g1 → W = .inl q → xFt q.1 q.2 g1 → xm_go xs_R xk_X8_read [xt_X1_startRA, xt_X1_goesOnRA, xt_X1_readTellRA, xt_X1_faultPlaceRA, xt_X1_faultNumberRA, xt_X8_adopt] xc_X8_read Q (xm_drop 5 xc_X8_read) [.ref 0, .int (nI i)] [] g1 := by
      intro i g1 q f1 tk hw ft
      have go := at17q g1 q f1 hw ft
      have go2 : ∀ x, xm_go xs_R xk_X8_read [xt_X1_startRA, xt_X1_goesOnRA, xt_X1_readTellRA, xt_X1_faultPlaceRA, xt_X1_faultNumberRA, xt_X8_adopt] xc_X8_read Q (xm_drop 17 xc_X8_read) [.ref 0, .int x] [] (xGz 29 38 g1) := by rw [idz g1 f1]; exact go
      exact xm_run_go hm 7 ⟨fun _ => xm_go_run hm 4 (go _), fun _ => ⟨g1, (idz g1 f1).symm, (K, N, .inl q), ⟨rfl, tk, ft⟩, ⟨fun _ => go2 _, fun z => absurd rfl z⟩⟩⟩
    have loop : ∀ d i, i + d = 402 → ∀ (a : Nat) (s : pSt) (g1 : xG), xFS g g1 → xTk K N g1 → xTl N a s g1 → i ≤ a → pInv s → pNb s → pNx s → pAll K d a s = W → xm_go xs_R xk_X8_read [xt_X1_startRA, xt_X1_goesOnRA, xt_X1_readTellRA, xt_X1_faultPlaceRA, xt_X1_faultNumberRA, xt_X8_adopt] xc_X8_read Q (xm_drop 5 xc_X8_read) [.ref 0, .int (nI i)] [] g1 := by
      intro d
      induction d with
      | zero =>
        intro i hi a s g1 f1 tk tl ia
        have aN : a ≤ N := tl.1.1.2.2
        omega
      | succ d ih =>
        intro i hi a s g1 f1 tk tl ia iv nb nx hw
        have aN : a ≤ N := tl.1.1.2.2
        have at1 : xAt N (.inr a) g1 := tl.1.1
        have i4 : ¬ (400 : Int32) < nI i := nI_nlt (a := 400) (by omega) (by omega)
        unfold pAll at hw
        by_cases c : K.1 a = 0
        · rw [if_pos c] at hw
          have go := at17s (xGz 29 38 g1) s a (by rw [idz g1 f1]; exact f1) hw.symm tl iv nb nx
          have e : oGo K (.inr a) = 0 := if_pos c
          exact xm_run_go hm 7 ⟨fun z => absurd z i4, fun _ => ⟨g1, (idz g1 f1).symm, (K, N, .inr a), ⟨rfl, tk, at1⟩, ⟨fun _ => go _, fun z => absurd e z⟩⟩⟩
        · rw [if_neg c] at hw
          have e : ¬ oGo K (.inr a) = 0 := by
            have : oGo K (.inr a) = 1 := if_neg c
            rw [this]; decide
          have next : ∀ (o : Option Value) (g2 : xG), (o = none ∧ xFR g1 g2 ∧ (∀ q, pTell K a s = .inl q → xFt q.1 q.2 g2) ∧ ∀ a' s', pTell K a s = .inr (a', s') → xTl N a' s' g2) → o = none ∧ xm_go xs_R xk_X8_read [xt_X1_startRA, xt_X1_goesOnRA, xt_X1_readTellRA, xt_X1_faultPlaceRA, xt_X1_faultNumberRA, xt_X8_adopt] xc_X8_read Q (xm_drop 5 xc_X8_read) [.ref 0, .int (nI i + 1)] [] (xGz 29 38 g2) := by
            rintro o g2 ⟨rfl, fR, hfl, hok⟩
            refine ⟨rfl, ?_⟩
            have f2 : xFS g g2 := f1.tr fR.S
            rw [idz g2 f2, ← nI_succ]
            cases hc : pTell K a s with
            | inl q => rw [hc] at hw; exact at5f (i + 1) g2 q f2 (tk.R fR) hw.symm (hfl q hc)
            | inr q =>
              obtain ⟨a', s'⟩ := q
              rw [hc] at hw
              obtain ⟨iv', la, -⟩ := pTell_i hc iv
              exact ih (i + 1) (by omega) a' s' g2 f2 (tk.R fR) (hok a' s' hc) (by omega) iv' (pTell_b hc nb) (pTell_nu nu hc nx) hw
          refine xm_run_go hm 40 ⟨fun z => absurd z i4, fun _ => ⟨g1, (idz g1 f1).symm, (K, N, .inr a), ⟨rfl, tk, at1⟩, ⟨fun z => absurd z e, fun _ => ⟨g1, rfl, (K, N, a, s), ⟨rfl, tk, kk, tl, iv.2.2.1, c⟩, ?_⟩⟩⟩⟩
          intro o g2 h2
          obtain ⟨rfl, go⟩ := next o g2 h2
          exact xm_cut hm go
    refine xm_run_go hm 40 ⟨g, (xGz_id h0 h3).symm, (sN σ, sB σ), ⟨rfl, hn, ht.2.2.1, hb⟩, ?_⟩
    rintro o g1 ⟨rfl, f1, tk, tl⟩
    rw [← hK, ← hN] at tk
    rw [← hN] at tl
    have go := loop 402 0 rfl 0 pS0 g1 f1 tk tl (Nat.le_refl _) pInv0 (fun _ q hq => by cases hq) pNx0 hWp
    rw [← idz g1 f1] at go
    exact xm_cut hm go
