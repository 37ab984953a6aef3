-- THE REFERENCE READS: the call
def mRF (sd : Nat) (g g' : xG) : Prop := (∀ k, 30 ≤ k → g'.1 k = g.1 k) ∧ (∀ k j, 10 ≤ k → k ≤ 28 → (j < mBz k * sd ∨ mBz k * sd + mBz k ≤ j) → g'.1 k j = g.1 k j) ∧ (∀ j, j = 18 ∨ j = 54 ∨ j = 59 → g'.1 0 j = g.1 0 j) ∧ g'.2.1 7 = g.2.1 7 ∧ g'.1 0 2 = 0
theorem mRF.r {sd : Nat} {g g1 g2 : xG} (h : mRF sd g g1) (f : mFr sd g1 g2) : mRF sd g g2 := ⟨fun k hk => (f.2.2.1 k (Or.inr hk)).trans (h.1 k hk), fun k j a b c => (f.2.2.2.1 k j a b c).trans (h.2.1 k j a b c), fun j hj => (f.2.2.2.2 j (by omega)).trans (h.2.2.1 j hj), (f.2.1 7 (by decide)).trans h.2.2.2.1, (f.2.2.2.2 2 (by decide)).trans h.2.2.2.2⟩
theorem mRF.p0 {sd : Nat} {g g1 : xG} (h : mRF sd g g1) {j : Nat} (v : Int32) (hj : ¬ (j = 18 ∨ j = 54 ∨ j = 59 ∨ j = 2)) : mRF sd g (xm_sI g1 0 j v) := ⟨fun k hk => (xg_off g1 j v (by omega)).trans (h.1 k hk), fun k i a b c => by rw [xg_off _ _ _ (by omega)]; exact h.2.1 k i a b c, fun i hi => by rw [xg_in, if_neg (by omega)]; exact h.2.2.1 i hi, h.2.2.2.1, by rw [xg_in, if_neg (by omega)]; exact h.2.2.2.2⟩
theorem mSto.R {sd lv : Nat} {t : vSt} {g g' : xG} (h : mSto lv t g) (h5 : tN t ≤ 5) (h6 : tM t ≤ 6) (f : mRF sd g g') (hs : sd < 2) (ne : lv ≠ sd) : mSto lv t g' := by
  have f' : mFr sd g (fun k => if 10 ≤ k ∧ k ≤ 28 then g'.1 k else g.1 k, g.2) := ⟨rfl, fun _ _ => rfl, fun k hk => by dsimp only; rw [if_neg (by omega)], fun k j a b c => by dsimp only; rw [if_pos ⟨a, b⟩]; exact f.2.1 k j a b c, fun j _ => by dsimp only; rw [if_neg (by omega)]⟩
  refine (h.r h5 h6 f' hs ne).fr ?_ (fun k a b => ?_)
  · show g'.1 0 18 = (if 10 ≤ 0 ∧ 0 ≤ 28 then g'.1 0 else g.1 0) 18
    rw [if_neg (by decide)]; exact f.2.2.1 18 (Or.inl rfl)
  · show g'.1 k = if 10 ≤ k ∧ k ≤ 28 then g'.1 k else g.1 k
    rw [if_pos (by omega)]
theorem mTp.R {sd lv : Nat} {σ : vS} {P : Int32} {g g' : xG} (h : mTp lv σ g) (f : mRF sd g g') (hs : sd < 2) (ne : lv ≠ sd) (hP : g'.1 0 17 = P) : mTp lv (0, sB σ, P, σ.2.2.2) g' := by
  obtain ⟨h1, h2, h3, h4, h5, h6, h7, h8⟩ := h
  exact ⟨⟨h1.1, h1.2.1, Nat.zero_le _, h1.2.2.2⟩, h2.R h1.1.1 h1.1.2.1 f hs ne, h3.fr (f.1 32 (by decide)), ⟨f.2.2.2.2, fun i hi => absurd hi (Nat.not_lt_zero _)⟩, hP, h6.fr (f.2.2.1 54 (by omega)) (f.1 35 (by decide)), h7.fr (f.2.2.1 59 (by omega)) (fun k a _ => f.1 k (by omega)), h8.fr (f.1 42 (by decide)) (f.1 43 (by decide)) f.2.2.2.1⟩
theorem mTl.sto {k : vTk} {N sd a : Nat} {s : pSt} {g g' : xG} (h : mTl k N sd a s g) (hi : pInv s) (hs : sd < 2) (ha : a ≤ 400) (h18 : g'.1 0 18 = nI sd) (hk : ∀ k, 10 ≤ k → k ≤ 28 → g'.1 k = g.1 k) : mSto sd (pTs s) g' := by
  obtain ⟨⟨-, -, -, hd⟩, ⟨-, -, b, c, rb, rc, -, -, rl⟩⟩ := h
  obtain ⟨d1, d2, d3, d4, d5, d6, d7⟩ := hd
  refine ⟨hs, h18, by rw [hk 10 (by decide) (by decide)]; exact d1, by rw [hk 14 (by decide) (by decide)]; exact d2, fun i hi' => ?_, fun i hi' => ?_, by rw [hk 19 (by decide) (by decide)]; exact d7, fun i hi' => ⟨(qX s i).1, (qX s i).2, fun _ => rfl, hi.2.2.2.1 i, ?_⟩⟩
  · have hi' : i < (qS s).length := hi'
    have e : (qS s)[i]? = some (qS s)[i] := List.getElem?_eq_getElem hi'
    rw [hk 11 (by decide) (by decide), hk 12 (by decide) (by decide), hk 13 (by decide) (by decide)]
    have := d4 i _ e
    show _ = nI (((qS s)[i]?).getD ([], 0, 0, 0)).2.1 ∧ _ = nI (((qS s)[i]?).getD ([], 0, 0, 0)).2.2.1 ∧ _ = nI (((qS s)[i]?).getD ([], 0, 0, 0)).2.2.2
    rw [e]; exact this
  · have hi' : i < (qP s).length := hi'
    have e : (qP s)[i]? = some (qP s)[i] := List.getElem?_eq_getElem hi'
    rw [hk 15 (by decide) (by decide)]
    have := d5 i _ e
    show _ = nI (((qP s)[i]?).getD ([], 0)).2
    rw [e]; exact this
  · exact (rl i hi').k (by rw [hk 20 (by decide) (by decide)]) (by rw [hk 21 (by decide) (by decide)]) (fun c j a b _ => by rw [hk c (by omega) (by omega)]) (fun j _ => by rw [hk 27 (by decide) (by decide), hk 28 (by decide) (by decide)]; exact ⟨rfl, rfl⟩) (by omega) (by omega)
def xt_X9_read : xT := xm_rl (Z := vS) (fun σ av g => av = [.ref 0] ∧ mTop σ g ∧ xBt (sN σ) (sB σ)) (fun σ g o g' => o = some (.int (aRead σ)) ∧ mTop (sRead σ) g')
set_option maxRecDepth 100000 in
set_option maxHeartbeats 400000 in
theorem xp_X9_read {l : Launch} {D : va_G} {cA : Nat → ClassId} {B : List (Nat × Cell)} : xm_Met l D cA B xs_M 9 yX9_read cX9_read 2 (some .int) xt_X9_read := by
  have hm : xm_monos [xt_X9_cut, xt_X9_plain, xt_X9_is, xt_X9_tellOne, xt_X9_begins, xt_X9_keepsRow] := ⟨(by first | exact xm_fn_mono _ _ _ | exact xm_rl_mono _ _), (by first | exact xm_fn_mono _ _ _ | exact xm_rl_mono _ _), (by first | exact xm_fn_mono _ _ _ | exact xm_rl_mono _ _), (by first | exact xm_fn_mono _ _ _ | exact xm_rl_mono _ _), (by first | exact xm_fn_mono _ _ _ | exact xm_rl_mono _ _), (by first | exact xm_fn_mono _ _ _ | exact xm_rl_mono _ _), trivial⟩
  refine xm_meth (own := RX9) (ks := xk_X9_read) (C := xc_X9_read) (Ts := [xt_X9_cut, xt_X9_plain, xt_X9_is, xt_X9_tellOne, xt_X9_begins, xt_X9_keepsRow]) (by decide +kernel) rfl xm_clsok xs_M_ok xf_X9_ok xi_X9_ok xj_X9_ok (xm_lk xl_X9_224 xp_X9_cut (by decide) (xm_lk xl_X9_149 xp_X9_plain (by decide) (xm_lk xl_X9_218 xp_X9_is (by decide) (xm_lk xl_X9_245 xp_X9_tellOne (by decide) (xm_lk xl_X9_157 xp_X9_begins (by decide) (xm_lk xl_X9_160 xp_X9_keepsRow (by decide) xm_lk0)))))) xo_X9_read ?_ ?_
  · rintro av g Q ⟨z, ⟨rfl, -⟩, -⟩
    exact Nat.le_of_ble_eq_true rfl
  · rintro av g Q ⟨σ, ⟨rfl, ⟨lv, h⟩, hb⟩, hQ⟩
    dsimp only at h hb hQ
    obtain ⟨h1, h2, h3, h4, h5, h6, h7, h8⟩ := id h
    have l2 := h2.1
    have hn := h1.2.2.1
    obtain ⟨sd, hsd⟩ : ∃ sd, sd + lv = 1 := ⟨1 - lv, by omega⟩
    have sd2 : sd < 2 := by omega
    have ne : lv ≠ sd := by omega
    obtain ⟨K, hK⟩ : ∃ K, K = pTk (sN σ) (pC (sN σ) (sB σ)) := ⟨_, rfl⟩
    obtain ⟨N, hN⟩ : ∃ N, N = pN (sN σ) (pC (sN σ) (sB σ)) := ⟨_, rfl⟩
    obtain ⟨W, hW⟩ : ∃ W, pRd (sN σ) (sB σ) = W := ⟨_, rfl⟩
    obtain ⟨N4, -, kk⟩ := pTk_k (n := sN σ) (c := pC (sN σ) (sB σ)) hn
    rw [← hK, ← hN] at kk
    rw [← hN] at N4
    unfold aRead sRead at hQ
    rw [hW] at hQ
    have hWp : pAll K 402 0 pS0 = W := by rw [hK]; exact hW
    -- with a fault
    have at72b : ∀ (g1 : xG) (q : pF), W = .inl q → mRF sd g g1 → mFl q.1 q.2 g1 → ∀ w, xm_go xs_M xk_X9_read [xt_X9_cut, xt_X9_plain, xt_X9_is, xt_X9_tellOne, xt_X9_begins, xt_X9_keepsRow] xc_X9_read Q (xm_drop 72 xc_X9_read) [.ref 0, w] [] g1 := by
      intro g1 q hq f1 fl w
      have gt : ¬ g1.1 0 13 ≤ 0 := by rw [fl.1]; rcases fl.2.1 with z | z <;> rw [z] <;> decide
      have gt' : ¬ (xm_sI g1 0 17 (g1.1 0 14)).1 0 13 ≤ 0 := by rw [xg_in, if_neg (by decide)]; exact gt
      rw [hq] at hQ
      have fin := hQ (some (.int (nI q.1))) (xm_sI g1 0 17 (g1.1 0 14)) ⟨rfl, lv, h.R (f1.p0 _ (by decide)) sd2 ne (by rw [xg_in, if_pos rfl]; exact fl.2.2.1)⟩
      have e13 : (xm_sI g1 0 17 (g1.1 0 14)).1 0 13 = nI q.1 := by rw [xg_in, if_neg (by decide)]; exact fl.1
      exact xm_run_go hm 40 ⟨fun z => absurd z gt, fun _ => ⟨fun z => absurd z gt', fun _ => xq_i fin e13⟩⟩
    -- the slots are emptied
    have loop2 : ∀ (s : pSt), W = .inr s → qL s = none → ∀ d k, k + d = 3 → ∀ g1, mTp sd (0, sB σ, -1, pTs s, vBegin (pTs s) (qH s) v0, 0, sH σ, (fun _ => none), (0, (sD σ).2)) g1 ∨ (vOk (0, sB σ, -1, pTs s, vBegin (pTs s) (qH s) v0, 0, sH σ, (fun _ => none), (0, (sD σ).2)) ∧ mSto sd (pTs s) g1 ∧ mRaw 32 (vBegin (pTs s) (qH s) v0) g1 ∧ g1.1 0 2 = 0 ∧ g1.1 0 17 = -1 ∧ g1.1 0 54 = 0 ∧ g1.1 0 59 = 0 ∧ mKey g1 ∧ ∀ i, i < k → g1.1 42 i = 0) → xm_go xs_M xk_X9_read [xt_X9_cut, xt_X9_plain, xt_X9_is, xt_X9_tellOne, xt_X9_begins, xt_X9_keepsRow] xc_X9_read Q (xm_drop 115 xc_X9_read) [.ref 0, .int (nI k)] [] g1 := by
      intro s hs hl
      have fin : ∀ g', mTp sd (0, sB σ, -1, pTs s, vBegin (pTs s) (qH s) v0, 0, sH σ, (fun _ => none), (0, (sD σ).2)) g' → Q (some (.int 0)) g' := fun g' ht => by
        rw [hs] at hQ
        have e : pRes (.inr s) = (0, -1, some s) := by unfold pRes; dsimp only; rw [hl]
        rw [e] at hQ
        exact hQ _ _ ⟨rfl, sd, ht⟩
      intro d
      induction d with
      | zero =>
        intro k hk g1 hh
        have hk : k = 3 := by omega
        subst hk
        have ht : mTp sd (0, sB σ, -1, pTs s, vBegin (pTs s) (qH s) v0, 0, sH σ, (fun _ => none), (0, (sD σ).2)) g1 := by
          rcases hh with hh | ⟨a1, a2, a3, a4, a5, a6, a7, a8, a9⟩
          · exact hh
          · exact ⟨a1, a2, a3, ⟨a4, fun i hi => absurd hi (Nat.not_lt_zero _)⟩, a5, ⟨a6, fun i hi => absurd hi (Nat.not_lt_zero _)⟩, ⟨a7, fun i hi => absurd hi (Nat.not_lt_zero _)⟩, ⟨fun i hi => ⟨a9 i hi, fun c hc => by cases hc⟩, a8⟩⟩
        exact xm_run_go hm 20 ⟨fun _ => fin g1 ht, fun z => absurd z (by decide)⟩
      | succ d ih =>
        intro k hk g1 hh
        have nx := ih (k + 1) (by omega) (xm_sI g1 42 k 0) (by
          rcases hh with hh | ⟨a1, a2, a3, a4, a5, a6, a7, a8, a9⟩
          · obtain ⟨b1, b2, b3, b4, b5, b6, b7, b8⟩ := hh
            refine Or.inl ⟨b1, b2.fr (by rw [xg_off _ _ _ (by decide)]) (fun q _ hq => xg_off _ _ _ (by omega)), b3.fr (xg_off _ _ _ (by decide)), b4.fr (by rw [xg_off _ _ _ (by decide)]) (xg_off _ _ _ (by decide)), by rw [xg_off _ _ _ (by decide)]; exact b5, b6.fr (by rw [xg_off _ _ _ (by decide)]) (xg_off _ _ _ (by decide)), b7.fr (by rw [xg_off _ _ _ (by decide)]) (fun q _ hq => xg_off _ _ _ (by omega)), ⟨fun i hi => ⟨?_, fun c hc => by cases hc⟩, b8.2⟩⟩
            rw [xg_in]
            split
            · rfl
            · exact (b8.1 i hi).1
          · refine Or.inr ⟨a1, a2.fr (by rw [xg_off _ _ _ (by decide)]) (fun q _ hq => xg_off _ _ _ (by omega)), a3.fr (xg_off _ _ _ (by decide)), by rw [xg_off _ _ _ (by decide)]; exact a4, by rw [xg_off _ _ _ (by decide)]; exact a5, by rw [xg_off _ _ _ (by decide)]; exact a6, by rw [xg_off _ _ _ (by decide)]; exact a7, a8, fun i hi => ?_⟩
            rw [xg_in]
            by_cases e : i = k
            · rw [if_pos e]
            · rw [if_neg e]; exact a9 i (by omega))
        rw [nI_succ] at nx
        exact xm_run_go hm 30 ⟨fun z => absurd z (nI_ge (b := 3) (by omega) (by omega)), fun _ => ⟨k, ⟨by omega, rfl, Or.inl rfl⟩, xm_cut hm nx⟩⟩
    -- without one
    have at72g : ∀ (g1 : xG) (a : Nat) (s : pSt), W = .inr s → mRF sd g g1 → mTl K N sd a s g1 → pInv s → pNb s → ∀ w, xm_go xs_M xk_X9_read [xt_X9_cut, xt_X9_plain, xt_X9_is, xt_X9_tellOne, xt_X9_begins, xt_X9_keepsRow] xc_X9_read Q (xm_drop 72 xc_X9_read) [.ref 0, w] [] g1 := by
      intro g1 a s hq f1 htl hi hnb w
      obtain ⟨⟨hat, hlt, -, hd⟩, htr⟩ := id htl
      have le : g1.1 0 13 ≤ 0 := by rw [hat.1]; decide
      have a4 : a ≤ 400 := by have := hat.2.2; omega
      rcases hlt with ⟨hl, e15⟩ | ⟨m, p, hl, m3, m5, -, -, e15, e16⟩
      · have le5 : g1.1 0 15 ≤ 0 := by rw [e15]; decide
        have ht := pTs_ok hi hnb hl
        have hsh := hi.2.2.2.2 hl
        have g2_0 : ∀ j, j ≠ 17 → j ≠ 18 → (xm_sI (xm_sI g1 0 17 (-1)) 0 18 ((xm_sI g1 0 17 (-1)).1 0 19)).1 0 j = g1.1 0 j := fun j h1 h2 => by rw [xg_in, if_neg h2, xg_in, if_neg h1]
        have g2_k : ∀ k, k ≠ 0 → (xm_sI (xm_sI g1 0 17 (-1)) 0 18 ((xm_sI g1 0 17 (-1)).1 0 19)).1 k = g1.1 k := fun k h => by rw [xg_off _ _ _ h, xg_off _ _ _ h]
        have g2_17 : (xm_sI (xm_sI g1 0 17 (-1)) 0 18 ((xm_sI g1 0 17 (-1)).1 0 19)).1 0 17 = -1 := by rw [xg_in, if_neg (by decide), xg_in, if_pos rfl]
        have g2_18 : (xm_sI (xm_sI g1 0 17 (-1)) 0 18 ((xm_sI g1 0 17 (-1)).1 0 19)).1 0 18 = nI sd := by rw [xg_in, if_pos rfl, xg_in, if_neg (by decide)]; exact htr.2.1
        have g2_2 : (xm_sI (xm_sI g1 0 17 (-1)) 0 18 ((xm_sI g1 0 17 (-1)).1 0 19)).2 = g1.2 := rfl
        generalize hg2 : xm_sI (xm_sI g1 0 17 (-1)) 0 18 ((xm_sI g1 0 17 (-1)).1 0 19) = g2 at g2_0 g2_k g2_17 g2_18 g2_2
        have sto2 : mSto sd (pTs s) g2 := htl.sto hi sd2 a4 g2_18 (fun k h1 _ => g2_k k (by omega))
        have sh2 : mShown sd (pTs s) (qH s) g2 := ⟨by rw [g2_k 16 (by decide)]; exact hd.2.2.1, hi.2.2.1, fun i q hq => by
          have := hsh q (List.mem_of_getElem? hq)
          have z := hd.2.2.2.2.2.1 hl i q hq
          exact ⟨this.1, this.2, by rw [g2_k 17 (by decide)]; exact z.1, by rw [g2_k 18 (by decide)]; exact z.2⟩⟩
        have vok : vOk (0, sB σ, -1, pTs s, vBegin (pTs s) (qH s) v0, 0, sH σ, (fun _ => none), (0, (sD σ).2)) := ⟨ht, vBegin_ok ht _ _ (fun q hq => hsh q hq) (v0_ok _), Nat.zero_le _, Nat.zero_le _, fun i hi => absurd hi (Nat.not_lt_zero _), (fun i _ c hc => by cases hc), Nat.zero_le _⟩
        have next : ∀ (o : Option Value) (g3 : xG), (o = none ∧ mIn sd (pTs s) (vBegin (pTs s) (qH s) v0) g3 ∧ mFq g2 g3) → o = none ∧ ∀ (o : Option Value) (g4 : xG), (o = none ∧ mF32 g3 g4 ∧ ∀ j, j < 38 → g4.1 32 j = g3.1 33 j) → o = none ∧ xm_go xs_M xk_X9_read [xt_X9_cut, xt_X9_plain, xt_X9_is, xt_X9_tellOne, xt_X9_begins, xt_X9_keepsRow] xc_X9_read Q (xm_drop 115 xc_X9_read) [.ref 0, .int (nI 0)] [] (xm_sI (xm_sI g4 0 54 0) 0 59 0) := by
          rintro o g3 ⟨rfl, hin, f3⟩
          refine ⟨rfl, ?_⟩
          rintro o g4 ⟨rfl, f4, e4⟩
          refine ⟨rfl, loop2 s hq hl 3 0 rfl _ (Or.inr ⟨vok, ?_, ?_, ?_, ?_, ?_, ?_, ?_, fun i hi => absurd hi (by omega)⟩)⟩
          · exact hin.2.2.1.fr (by rw [xg_in, if_neg (by decide), xg_in, if_neg (by decide), f4.1 0 (by decide)]) (fun k _ hk => by rw [xg_off _ _ _ (by omega), xg_off _ _ _ (by omega), f4.1 k (by omega)])
          · refine (hin.2.2.2.row.cp (fun j hj => ?_)).raw
            rw [xg_off _ _ _ (by decide), xg_off _ _ _ (by decide), Nat.zero_add]; exact e4 j hj
          · rw [xg_in, if_neg (by decide), xg_in, if_neg (by decide), f4.1 0 (by decide), f3.2.1 2 (by decide) (by decide) (by decide), g2_0 2 (by decide) (by decide)]; exact f1.2.2.2.2
          · rw [xg_in, if_neg (by decide), xg_in, if_neg (by decide), f4.1 0 (by decide), f3.2.1 17 (by decide) (by decide) (by decide)]; exact g2_17
          · rw [xg_in, if_neg (by decide), xg_in, if_pos rfl]
          · rw [xg_in, if_pos rfl]
          · intro i hi
            have e2 : g4.2 = g1.2 := f4.2.trans (f3.2.2.trans g2_2)
            show g4.2.1 7 i = _
            rw [e2, f1.2.2.2.1]; exact h8.2 i hi
        have le17 : (xm_sI g1 0 17 (-1)).1 0 13 ≤ 0 := by rw [xg_in, if_neg (by decide)]; exact le
        have le15 : (xm_sI g1 0 17 (-1)).1 0 15 ≤ 0 := by rw [xg_in, if_neg (by decide)]; exact le5
        rw [← hg2] at next sto2 sh2
        refine xm_run_go hm 60 ⟨fun _ => ⟨fun _ => ⟨fun _ => ⟨fun _ => ⟨(sd, pTs s, qH s), ⟨rfl, ht, sto2, sh2⟩, ?_⟩, fun z => absurd le15 (Int32.not_le.mpr z)⟩, fun z => absurd le17 (Int32.not_le.mpr z)⟩, fun z => absurd le5 (Int32.not_le.mpr z)⟩, fun z => absurd le (Int32.not_le.mpr z)⟩
        intro o g3 h3'
        obtain ⟨rfl, k3⟩ := next o g3 h3'
        refine ⟨(), ⟨rfl, trivial⟩, ?_⟩
        intro o g4 h4'
        obtain ⟨rfl, go⟩ := k3 o g4 h4'
        exact xm_cut hm go
      · have gt5 : ¬ g1.1 0 15 ≤ 0 := by rw [e15]; exact nI_nle (by omega) (by omega)
        have le17 : (xm_sI g1 0 17 (g1.1 0 16)).1 0 13 ≤ 0 := by rw [xg_in, if_neg (by decide)]; exact le
        have e15' : (xm_sI g1 0 17 (g1.1 0 16)).1 0 15 = nI m := by rw [xg_in, if_neg (by decide)]; exact e15
        have gt5' : ¬ (xm_sI g1 0 17 (g1.1 0 16)).1 0 15 ≤ 0 := by rw [e15']; exact nI_nle (by omega) (by omega)
        rw [hq] at hQ
        have e : pRes (.inr s) = (nI m, nI p, none) := by unfold pRes; dsimp only; rw [hl]
        rw [e] at hQ
        have fin := hQ (some (.int (nI m))) (xm_sI g1 0 17 (g1.1 0 16)) ⟨rfl, lv, h.R (f1.p0 _ (by decide)) sd2 ne (by rw [xg_in, if_pos rfl]; exact e16)⟩
        exact xm_run_go hm 60 ⟨fun _ => ⟨fun z => absurd z gt5, fun _ => ⟨fun _ => ⟨fun z => absurd z gt5', fun _ => xq_i fin e15'⟩, fun z => absurd le17 (Int32.not_le.mpr z)⟩⟩, fun z => absurd le (Int32.not_le.mpr z)⟩
    -- telling by telling
    have loop : ∀ (f a : Nat) (s : pSt) (g1 : xG), 402 ≤ a + f → pAll K f a s = W → mRF sd g g1 → mTk K N g1 → mTl K N sd a s g1 → pInv s → pNb s → ∀ w, xm_go xs_M xk_X9_read [xt_X9_cut, xt_X9_plain, xt_X9_is, xt_X9_tellOne, xt_X9_begins, xt_X9_keepsRow] xc_X9_read Q (xm_drop 62 xc_X9_read) [.ref 0, w] [] g1 := by
      intro f
      induction f with
      | zero =>
        intro a s g1 hf hp f1 tk htl
        have := htl.1.1.2.2
        omega
      | succ f ih =>
        intro a s g1 hf hp f1 tk htl hi hnb w
        obtain ⟨h13, h11, aN⟩ := id htl.1.1
        have is : (if g1.1 0 13 = 0 ∧ g1.1 3 a = 0 then (1 : Int32) else 0) = if K.1 a = 0 then 1 else 0 := by
          have z := nI_lit tk aN (c := 0) (by decide) (by decide)
          by_cases c : K.1 a = 0
          · rw [if_pos c, if_pos ⟨h13, z.mpr c⟩]
          · rw [if_neg c, if_neg (fun q => c (z.mp q.2))]
        by_cases c : K.1 a = 0
        · have hs : W = .inr s := by rw [← hp]; unfold pAll; rw [if_pos c]
          have go := at72g g1 a s hs f1 htl hi hnb
          have is1 : ¬ (if g1.1 0 13 = 0 ∧ g1.1 3 a = 0 then (1 : Int32) else 0) = 0 := by rw [is, if_pos c]; decide
          exact xm_run_go hm 7 ⟨fun z => absurd h13 z, fun _ => ⟨(0, a), ⟨rfl, by show a ≤ 400; omega, h11⟩, ⟨fun _ => xm_go_run hm _ (go _), fun z => absurd z is1⟩⟩⟩
        · have is0 : (if g1.1 0 13 = 0 ∧ g1.1 3 a = 0 then (1 : Int32) else 0) = 0 := by rw [is, if_neg c]
          have eA : pAll K (f + 1) a s = pBn (pTell K a s) fun q => pAll K f q.1 q.2 := by
            show (if K.1 a = 0 then _ else _) = _
            rw [if_neg c]
          rw [eA] at hp
          have next : ∀ (o : Option Value) (g2 : xG), (o = none ∧ mFr sd g1 g2 ∧ (∀ q, pTell K a s = .inl q → mFl q.1 q.2 g2) ∧ ∀ a' s', pTell K a s = .inr (a', s') → mTl K N sd a' s' g2) → o = none ∧ xm_go xs_M xk_X9_read [xt_X9_cut, xt_X9_plain, xt_X9_is, xt_X9_tellOne, xt_X9_begins, xt_X9_keepsRow] xc_X9_read Q (xm_drop 62 xc_X9_read) [.ref 0, w] [] g2 := by
            rintro o g2 ⟨rfl, f2, bd, gd⟩
            refine ⟨rfl, ?_⟩
            cases ht : pTell K a s with
            | inl q =>
              have fl := bd q ht
              rw [ht, pBn_l] at hp
              have go := at72b g2 q hp.symm (f1.r f2) fl
              exact xm_run_go hm 3 ⟨fun _ => xm_go_run hm _ (go _), fun z => absurd z fl.n0⟩
            | inr q =>
              obtain ⟨a', s'⟩ := q
              obtain ⟨i1, i2, -⟩ := pTell_i ht hi
              have nb := pTell_b ht hnb
              have tl := gd a' s' ht
              rw [ht, pBn_r] at hp
              exact ih a' s' g2 (by omega) hp (f1.r f2) (tk.r f2) tl i1 nb w
          refine xm_run_go hm 30 ⟨fun z => absurd h13 z, fun _ => ⟨(0, a), ⟨rfl, by show a ≤ 400; omega, h11⟩, ⟨fun z => absurd is0 z, fun _ => ⟨(K, N, sd, a, s), ⟨rfl, tk, kk, sd2, htl, hi.1, hi.2.1, hi.2.2.1, c⟩, ?_⟩⟩⟩⟩
          intro o g2 h2'
          obtain ⟨rfl, go⟩ := next o g2 h2'
          exact xm_cut hm go
    -- what stands before the first telling
    have ent : ∀ (g2 g4 : xG), mRF sd g g2 → mTk K N g2 → (∀ k, k ≠ 0 → (k < 10 ∨ 29 < k) → g4.1 k = g2.1 k) → (∀ k j, 10 ≤ k → k ≤ 28 → (j < mBz k * sd ∨ mBz k * sd + mBz k ≤ j) → g4.1 k j = g2.1 k j) → g4.2 = g2.2 → (∀ j, j = 18 ∨ j = 54 ∨ j = 59 ∨ j = 2 → g4.1 0 j = g2.1 0 j) → g4.1 0 11 = 0 → g4.1 0 12 = 0 → g4.1 0 13 = 0 → g4.1 0 15 = 0 → g4.1 0 19 = nI sd → g4.1 0 20 = 0 → g4.1 0 35 = nI (130 * sd) → g4.1 0 41 = nI (420 * sd) → g4.1 10 sd = 0 → g4.1 14 sd = 0 → g4.1 16 sd = 0 → g4.1 19 sd = 0 → (∀ k, k < 4 → g4.1 20 (4 * sd + k) = g4.1 21 (4 * sd + k)) → ∀ w, xm_go xs_M xk_X9_read [xt_X9_cut, xt_X9_plain, xt_X9_is, xt_X9_tellOne, xt_X9_begins, xt_X9_keepsRow] xc_X9_read Q (xm_drop 62 xc_X9_read) [.ref 0, w] [] g4 := by
      intro g2 g4 f2 tk e1 e2 e3 e4 j11 j12 j13 j15 j19 j20 j35 j41 c10 c14 c16 c19 c20
      refine loop 402 0 pS0 g4 (by decide) hWp ⟨fun k hk => (e1 k (by omega) (by omega)).trans (f2.1 k hk), fun k j a b c => (e2 k j a b c).trans (f2.2.1 k j a b c), fun j hj => (e4 j (by omega)).trans (f2.2.2.1 j hj), by rw [e3]; exact f2.2.2.2.1, (e4 2 (by omega)).trans f2.2.2.2.2⟩ ⟨tk.1, tk.2.1, fun i hi => by rw [e1 3 (by decide) (by decide), e1 4 (by decide) (by decide), e1 5 (by decide) (by decide), e3]; exact tk.2.2 i hi⟩ ⟨⟨⟨j13, j11, Nat.zero_le _⟩, Or.inl ⟨rfl, j15⟩, ⟨[], ⟨j20, by decide, (fun i q hq => by cases hq)⟩, rfl, fun n => ⟨rfl, rfl⟩⟩, c10, c14, c16, (fun i q hq => by cases hq), (fun i q hq => by cases hq), (fun _ i q hq => by cases hq), c19⟩, j12, j19, 0, 0, Nat.zero_le _, Nat.zero_le _, j35, j41, fun i hi => Or.inl ⟨c20 i hi, rfl, rfl⟩⟩ pInv0 (fun _ q hq => by cases hq)
    -- cut, and on
    have at20 : ∀ (g1 : xG), (∀ k, k ≠ 0 → k ≠ 2 → g1.1 k = g.1 k) → (∀ j, j ≠ 4 → g1.1 0 j = g.1 0 j) → g1.2 = g.2 → g1.1 0 4 = nI (sN σ) → (∀ i, i < sN σ → g1.1 2 i = sB σ i) → ∀ w, xm_go xs_M xk_X9_read [xt_X9_cut, xt_X9_plain, xt_X9_is, xt_X9_tellOne, xt_X9_begins, xt_X9_keepsRow] xc_X9_read Q (xm_drop 20 xc_X9_read) [.ref 0, w] [] g1 := by
      intro g1 e1 e2 e3 e4 e5 w
      have tx : mTx (sN σ) (sB σ) (xm_sI g1 0 2 0) := ⟨by rw [xg_in, if_neg (by decide)]; exact e4, fun i hi => by rw [xg_off _ _ _ (by decide)]; exact e5 i hi⟩
      have key : mKey (xm_sI g1 0 2 0) := fun i hi => by show g1.2.1 7 i = _; rw [e3]; exact h8.2 i hi
      have f1 : mRF sd g (xm_sI g1 0 2 0) := ⟨fun k hk => by rw [xg_off _ _ _ (by omega)]; exact e1 k (by omega) (by omega), fun k j a b _ => by rw [xg_off _ _ _ (by omega), e1 k (by omega) (by omega)], fun j hj => by rw [xg_in, if_neg (by omega)]; exact e2 j (by omega), by show g1.2.1 7 = _; rw [e3], by rw [xg_in, if_pos rfl]⟩
      refine xm_run_go hm 80 ⟨(sN σ, sB σ), ⟨rfl, hn, tx, key⟩, ?_⟩
      rintro o g2 ⟨rfl, tk, fk⟩
      rw [← hK, ← hN] at tk
      have f2 : mRF sd g g2 := ⟨fun k hk => (fk.1 k (by omega) (by omega) (by omega) (by omega)).trans (f1.1 k hk), fun k j a b c => by rw [fk.1 k (by omega) (by omega) (by omega) (by omega)]; exact f1.2.1 k j a b c, fun j hj => (fk.2.1 j (by omega)).trans (f1.2.2.1 j hj), (fk.2.2.1 7 (by decide)).trans f1.2.2.2.1, (fk.2.1 2 (by decide)).trans f1.2.2.2.2⟩
      have e18 : g2.1 0 18 = nI lv := (f2.2.2.1 18 (Or.inl rfl)).trans h2.2.1
      have sub : (1 : Int32) - nI lv = nI sd := by
        have : lv = 0 ∨ lv = 1 := by omega
        rcases this with z | z
        · rw [z, show sd = 1 by omega]; rfl
        · rw [z, show sd = 0 by omega]; rfl
      obtain ⟨g3, hg3⟩ : ∃ g3, g3 = xm_sI (xm_sI (xm_sI (xm_sI (xm_sI (xm_sI g2 0 11 0) 0 12 0) 0 13 0) 0 15 0) 0 19 (1 - (xm_sI (xm_sI (xm_sI (xm_sI g2 0 11 0) 0 12 0) 0 13 0) 0 15 0).1 0 18)) 0 20 0 := ⟨_, rfl⟩
      have j3 : ∀ j, g3.1 0 j = if j = 20 then 0 else if j = 19 then nI sd else if j = 15 then 0 else if j = 13 then 0 else if j = 12 then 0 else if j = 11 then 0 else g2.1 0 j := fun j => by
        have q18 : (xm_sI (xm_sI (xm_sI (xm_sI g2 0 11 0) 0 12 0) 0 13 0) 0 15 0).1 0 18 = nI lv := by rw [xg_in, if_neg (by decide), xg_in, if_neg (by decide), xg_in, if_neg (by decide), xg_in, if_neg (by decide)]; exact e18
        rw [hg3, q18, sub, xg_in, xg_in, xg_in, xg_in, xg_in, xg_in]
      have k3 : ∀ k, k ≠ 0 → g3.1 k = g2.1 k := fun k hk => by rw [hg3, xg_off _ _ _ hk, xg_off _ _ _ hk, xg_off _ _ _ hk, xg_off _ _ _ hk, xg_off _ _ _ hk, xg_off _ _ _ hk]
      have d3 : g3.2 = g2.2 := by rw [hg3]; rfl
      have e19 : g3.1 0 19 = nI sd := by rw [j3, if_neg (by decide), if_pos rfl]
      have ea : [Value.ref 0, .int (g3.1 0 19)] = [Value.ref 0, .int (nI sd)] := by rw [e19]
      have next : ∀ (o : Option Value) (g4 : xG), (o = none ∧ mFr sd g3 g4 ∧ (∀ k, ¬ (10 ≤ k ∧ k ≤ 21) → g4.1 k = g3.1 k) ∧ g4.2 = g3.2 ∧ g4.1 10 sd = 0 ∧ g4.1 14 sd = 0 ∧ g4.1 16 sd = 0 ∧ g4.1 19 sd = 0 ∧ ∀ k, k < 4 → g4.1 20 (4 * sd + k) = g4.1 21 (4 * sd + k)) → o = none ∧ ∀ w, xm_go xs_M xk_X9_read [xt_X9_cut, xt_X9_plain, xt_X9_is, xt_X9_tellOne, xt_X9_begins, xt_X9_keepsRow] xc_X9_read Q (xm_drop 62 xc_X9_read) [.ref 0, w] [] (xm_sI (xm_sI g4 0 35 (130 * g4.1 0 19)) 0 41 (420 * (xm_sI g4 0 35 (130 * g4.1 0 19)).1 0 19)) := by
        rintro o g4 ⟨rfl, fr, k4, d4, c10, c14, c16, c19, c20⟩
        refine ⟨rfl, ?_⟩
        have j4 : ∀ j, g4.1 0 j = g3.1 0 j := fun j => by rw [k4 0 (by decide)]
        have j5 : ∀ j, (xm_sI (xm_sI g4 0 35 (130 * g4.1 0 19)) 0 41 (420 * (xm_sI g4 0 35 (130 * g4.1 0 19)).1 0 19)).1 0 j = if j = 41 then nI (420 * sd) else if j = 35 then nI (130 * sd) else g3.1 0 j := fun j => by
          rw [xg_in, xg_in, xg_in, if_neg (show (19 : Nat) ≠ 35 by decide), j4 19, e19, j4 j, show (420 : Int32) = nI 420 from rfl, pk_mul, show (130 : Int32) = nI 130 from rfl, pk_mul]
        have k5 : ∀ k, k ≠ 0 → (xm_sI (xm_sI g4 0 35 (130 * g4.1 0 19)) 0 41 (420 * (xm_sI g4 0 35 (130 * g4.1 0 19)).1 0 19)).1 k = g4.1 k := fun k hk => by rw [xg_off _ _ _ hk, xg_off _ _ _ hk]
        have d5 : (xm_sI (xm_sI g4 0 35 (130 * g4.1 0 19)) 0 41 (420 * (xm_sI g4 0 35 (130 * g4.1 0 19)).1 0 19)).2 = g2.2 := d4.trans d3
        generalize xm_sI (xm_sI g4 0 35 (130 * g4.1 0 19)) 0 41 (420 * (xm_sI g4 0 35 (130 * g4.1 0 19)).1 0 19) = g5 at j5 k5 d5
        have r : ∀ j, j ≠ 41 → j ≠ 35 → g5.1 0 j = g3.1 0 j := fun j a b => by rw [j5, if_neg a, if_neg b]
        refine ent g2 g5 f2 tk (fun k a b => by rw [k5 k a, k4 k (by omega), k3 k a]) (fun k j a b c => by rw [k5 k (by omega), fr.2.2.2.1 k j a b c, k3 k (by omega)]) d5 (fun j hj => by rw [r j (by omega) (by omega), j3, if_neg (by omega), if_neg (by omega), if_neg (by omega), if_neg (by omega), if_neg (by omega), if_neg (by omega)]) ?_ ?_ ?_ ?_ ?_ ?_ ?_ ?_ (by rw [k5 10 (by decide)]; exact c10) (by rw [k5 14 (by decide)]; exact c14) (by rw [k5 16 (by decide)]; exact c16) (by rw [k5 19 (by decide)]; exact c19) (fun k hk => by rw [k5 20 (by decide), k5 21 (by decide)]; exact c20 k hk)
        · rw [r 11 (by decide) (by decide), j3]; rfl
        · rw [r 12 (by decide) (by decide), j3]; rfl
        · rw [r 13 (by decide) (by decide), j3]; rfl
        · rw [r 15 (by decide) (by decide), j3]; rfl
        · rw [r 19 (by decide) (by decide)]; exact e19
        · rw [r 20 (by decide) (by decide), j3]; rfl
        · rw [j5, if_neg (by decide), if_pos rfl]
        · rw [j5, if_pos rfl]
      rw [hg3] at ea next
      refine ⟨sd, ⟨ea, sd2⟩, ?_⟩
      intro o g4 h4'
      obtain ⟨rfl, go⟩ := next o g4 h4'
      exact xm_cut hm (go _)
    have loop0 : ∀ d i, i + d = sN σ → ∀ g1, (∀ k, k ≠ 0 → k ≠ 2 → g1.1 k = g.1 k) → (∀ j, j ≠ 4 → g1.1 0 j = g.1 0 j) → g1.2 = g.2 → g1.1 0 4 = nI (sN σ) → (∀ t, t < i → g1.1 2 t = sB σ t) → xm_go xs_M xk_X9_read [xt_X9_cut, xt_X9_plain, xt_X9_is, xt_X9_tellOne, xt_X9_begins, xt_X9_keepsRow] xc_X9_read Q (xm_drop 6 xc_X9_read) [.ref 0, .int (nI i)] [] g1 := by
      intro d
      induction d with
      | zero =>
        intro i hi g1 e1 e2 e3 e4 e5
        have hi : i = sN σ := by omega
        subst hi
        have go := at20 g1 e1 e2 e3 e4 e5
        have le : g1.1 0 4 ≤ nI (sN σ) := by rw [e4]; exact Int32.le_refl _
        exact xm_run_go hm 4 ⟨fun _ => go _, fun z => absurd le (Int32.not_le.mpr z)⟩
      | succ d ih =>
        intro i hi g1 e1 e2 e3 e4 e5
        have ge : ¬ g1.1 0 4 ≤ nI i := by rw [e4]; exact nI_ge (by omega) (by omega)
        have nx := ih (i + 1) (by omega) (xm_sI g1 2 i (g1.1 1 i).toInt8.toInt32) (fun k a b => by rw [xg_off _ _ _ b]; exact e1 k a b) (fun j hj => by rw [xg_off _ _ _ (by decide)]; exact e2 j hj) e3 (by rw [xg_off _ _ _ (by decide)]; exact e4) (fun t ht => by
          rw [xg_in]
          by_cases e : t = i
          · rw [if_pos e, e, e1 1 (by decide) (by decide), h4.2 i (by omega)]; exact hb i (by omega)
          · rw [if_neg e]; exact e5 t (by omega))
        rw [nI_succ] at nx
        exact xm_run_go hm 40 ⟨fun z => absurd z ge, fun _ => ⟨i, ⟨by omega, rfl⟩, i, ⟨by omega, rfl⟩, xm_cut hm nx⟩⟩
    have go := loop0 (sN σ) 0 (by omega) (xm_sI g 0 4 (g.1 0 2)) (fun k a _ => xg_off _ _ _ a) (fun j hj => by rw [xg_in, if_neg hj]) rfl (by rw [xg_in, if_pos rfl]; exact h4.1) (fun t ht => absurd ht (by omega))
    exact xm_run_go hm 20 (xm_cut hm go)
