-- THE REFERENCE READS: all its tokens
def mTo (k : vTk) (t : Nat) (g : xG) : Prop := g.1 3 t = nI (pMk (k.1 t)) ∧ g.1 4 t = nI (k.2.1 t) ∧ (k.1 t = 2 → g.2.1 6 t = pNm 27 (k.2.2.2 t)) ∧ (k.1 t = 3 → g.1 5 t = nI (k.2.2.1 t))
def mFk (g g' : xG) : Prop := (∀ k, k ≠ 0 → k ≠ 3 → k ≠ 4 → k ≠ 5 → g'.1 k = g.1 k) ∧ (∀ j, j ≠ 10 → g'.1 0 j = g.1 0 j) ∧ (∀ k, k ≠ 6 → g'.2.1 k = g.2.1 k) ∧ g'.2.2 = g.2.2
theorem mFk.rf {g : xG} : mFk g g := ⟨fun _ _ _ _ _ => rfl, fun _ _ => rfl, fun _ _ => rfl, rfl⟩
theorem nTo_f {g g1 : xG} (h : mFk g g1) (kd wh v : Int32) (nm : Int64) (j : Nat) : mFk g (nTo kd wh v nm j g1) := by
  unfold nTo
  refine ⟨fun k a b c d => ?_, fun i hi => ?_, fun k hk => ?_, h.2.2.2⟩
  · rw [xg_off _ _ _ a]
    show (xm_sI (xm_sI (xm_sI g1 3 j kd) 4 j wh) 5 j v).1 k = _
    rw [xg_off _ _ _ d, xg_off _ _ _ c, xg_off _ _ _ b]; exact h.1 k a b c d
  · rw [xg_in, if_neg hi]
    show (xm_sI (xm_sI (xm_sI g1 3 j kd) 4 j wh) 5 j v).1 0 i = _
    rw [xg_off _ _ _ (by decide), xg_off _ _ _ (by decide), xg_off _ _ _ (by decide)]; exact h.2.1 i hi
  · show (xm_sL _ 6 j nm).2.1 k = _
    rw [xgL_off _ _ _ hk]; exact h.2.2.1 k hk
theorem nTo_3 (kd wh v : Int32) (nm : Int64) (j : Nat) (g : xG) (i : Nat) : (nTo kd wh v nm j g).1 3 i = if i = j then kd else g.1 3 i := by
  unfold nTo
  rw [xg_off _ _ _ (by decide)]
  show (xm_sI (xm_sI (xm_sI g 3 j kd) 4 j wh) 5 j v).1 3 i = _
  rw [xg_off _ _ _ (by decide), xg_off _ _ _ (by decide), xg_in]
theorem nTo_4 (kd wh v : Int32) (nm : Int64) (j : Nat) (g : xG) (i : Nat) : (nTo kd wh v nm j g).1 4 i = if i = j then wh else g.1 4 i := by
  unfold nTo
  rw [xg_off _ _ _ (by decide)]
  show (xm_sI (xm_sI (xm_sI g 3 j kd) 4 j wh) 5 j v).1 4 i = _
  rw [xg_off _ _ _ (by decide), xg_in, xg_off _ _ _ (by decide)]
theorem nTo_5 (kd wh v : Int32) (nm : Int64) (j : Nat) (g : xG) (i : Nat) : (nTo kd wh v nm j g).1 5 i = if i = j then v else g.1 5 i := by
  unfold nTo
  rw [xg_off _ _ _ (by decide)]
  show (xm_sI (xm_sI (xm_sI g 3 j kd) 4 j wh) 5 j v).1 5 i = _
  rw [xg_in, xg_off _ _ _ (by decide), xg_off _ _ _ (by decide)]
theorem nTo_6 (kd wh v : Int32) (nm : Int64) (j : Nat) (g : xG) (i : Nat) : (nTo kd wh v nm j g).2.1 6 i = if i = j then nm else g.2.1 6 i := by
  unfold nTo
  show (xm_sL _ 6 j nm).2.1 6 i = _
  rw [xgL_in]; rfl
theorem nTo_10 (kd wh v : Int32) (nm : Int64) (j : Nat) (g : xG) : (nTo kd wh v nm j g).1 0 10 = nI (j + 1) := by
  unfold nTo
  rw [xg_in, if_pos rfl]
/-- the kind behind the first k words -/
def pKm (l : List Nat) : Nat → Nat
  | 0 => 1
  | k + 1 => if (pWl[k]?).getD [] = l then 20 + k else pKm l k
theorem pKm_w : ∀ w, w < 20 → pKm ((pWl[w]?).getD []) 20 = 20 + w := by decide +kernel
theorem pKm_n {l : List Nat} : ∀ k, (∀ j, j < k → ¬ (pWl[j]?).getD [] = l) → pKm l k = 1
  | 0, _ => rfl
  | k + 1, h => by
    unfold pKm
    rw [if_neg (h k (by omega))]
    exact pKm_n k (fun j hj => h j (by omega))
theorem pFd_get {n : List Nat} : ∀ {L : List (List Nat)} {w : Nat}, pFd n L = some w → (L[w]?).getD [] = n
  | [], _, h => by cases h
  | m :: r, w, h => by
    unfold pFd at h
    by_cases c : m = n
    · rw [if_pos c] at h; cases h; exact c
    · rw [if_neg c] at h
      cases hf : pFd n r with
      | none => rw [hf] at h; cases h
      | some j =>
        rw [hf] at h
        simp only [Option.map_some, Option.some.injEq] at h
        subst h
        rw [List.getElem?_cons_succ]
        exact pFd_get hf
theorem pFd_none {n : List Nat} : ∀ {L : List (List Nat)}, pFd n L = none → ∀ j, j < L.length → ¬ (L[j]?).getD [] = n
  | [], _, j, hj => by simp at hj
  | m :: r, h, j, hj => by
    unfold pFd at h
    by_cases c : m = n
    · rw [if_pos c] at h; cases h
    · rw [if_neg c] at h
      cases hf : pFd n r with
      | some x => rw [hf] at h; cases h
      | none =>
        cases j with
        | zero => exact c
        | succ j => exact pFd_none hf j (by simp only [List.length_cons] at hj; omega)
theorem pKm_k (l : List Nat) : pKm l 20 = pMk (pKd l) := by
  unfold pKd
  cases h : pFd l pWl with
  | some w =>
    have e := pFd_get h
    have w20 := pFd_w h
    have : ∀ w, w < 20 → pMk (128 + w) = 20 + w := by decide +kernel
    rw [← e, pKm_w w w20]
    exact (this w w20).symm
  | none => rw [pKm_n 20 (pFd_none h)]; rfl
theorem pWl_ok : ∀ w, w < 20 → pNok ((pWl[w]?).getD []) := by
  have h : ∀ w, w < 20 → ((pWl[w]?).getD []).length ≤ 8 ∧ ((pWl[w]?).getD []).all (fun x => decide (1 ≤ x) && decide (x ≤ 26)) = true := by decide +kernel
  intro w hw
  obtain ⟨h1, h2⟩ := h w hw
  refine ⟨h1, fun x hx => ?_⟩
  have := List.all_eq_true.mp h2 x hx
  simpa using this
theorem nI_dg {x b : Nat} (hb : 48 ≤ b) : 10 * nI x + nI b - 48 = nI (x * 10 + (b - 48)) := by
  rw [show (10 : Int32) = nI 10 from rfl, pk_mul, nI_add, show 10 * x + b = (x * 10 + (b - 48)) + 48 by omega, ← nI_add]
  exact Int32.add_sub_cancel _ _
def xt_X9_cut : xT := xm_rl (Z := Nat × (Nat → Int32)) (fun (n, tb) av g => av = [.ref 0] ∧ n ≤ 2000 ∧ mTx n tb g ∧ mKey g) (fun (n, tb) g o g' => o = none ∧ mTk (pTk n (pC n tb)) (pN n (pC n tb)) g' ∧ mFk g g')
set_option maxRecDepth 100000 in
set_option maxHeartbeats 400000 in
theorem xp_X9_cut {l : Launch} {D : va_G} {cA : Nat → ClassId} {B : List (Nat × Cell)} : xm_Met l D cA B xs_M 2 yX9_cut cX9_cut 8 none xt_X9_cut := by
  have hm : xm_monos [xt_X9_byteAt, xt_X9_token, xt_X9_isLetter, xt_X9_appends, xt_X9_isDigit, xt_X9_sign] := ⟨(by first | exact xm_fn_mono _ _ _ | exact xm_rl_mono _ _), (by first | exact xm_fn_mono _ _ _ | exact xm_rl_mono _ _), (by first | exact xm_fn_mono _ _ _ | exact xm_rl_mono _ _), (by first | exact xm_fn_mono _ _ _ | exact xm_rl_mono _ _), (by first | exact xm_fn_mono _ _ _ | exact xm_rl_mono _ _), (by first | exact xm_fn_mono _ _ _ | exact xm_rl_mono _ _), trivial⟩
  refine xm_meth (own := RX9) (ks := xk_X9_cut) (C := xc_X9_cut) (Ts := [xt_X9_byteAt, xt_X9_token, xt_X9_isLetter, xt_X9_appends, xt_X9_isDigit, xt_X9_sign]) (by decide +kernel) rfl xm_clsok xs_M_ok xf_X9_ok xi_X9_ok xj_X9_ok (xm_lk xl_X9_181 xp_X9_byteAt (by decide) (xm_lk xl_X9_185 xp_X9_token (by decide) (xm_lk xl_X9_189 xp_X9_isLetter (by decide) (xm_lk xl_X9_174 xp_X9_appends (by decide) (xm_lk xl_X9_193 xp_X9_isDigit (by decide) (xm_lk xl_X9_196 xp_X9_sign (by decide) xm_lk0)))))) xo_X9_cut ?_ ?_
  · rintro av g Q ⟨z, ⟨rfl, -⟩, -⟩
    exact Nat.le_of_ble_eq_true rfl
  · rintro av g Q ⟨⟨n, tb⟩, ⟨rfl, hn, ht, hk⟩, hQ⟩
    dsimp only at hn ht hk hQ
    obtain ⟨K, hK⟩ : ∃ K, K = pTk n (pC n tb) := ⟨_, rfl⟩
    obtain ⟨c, hc⟩ : ∃ c, c = pC n tb := ⟨_, rfl⟩
    rw [← hc] at hK hQ
    rw [← hK] at hQ
    have c256 : ∀ i, c i < 256 := fun i => by rw [hc]; exact pC_lt _ _ _
    have tape : ∀ g1, mFk g g1 → mTx n tb g1 := fun g1 f => ⟨by rw [f.2.1 4 (by decide)]; exact ht.1, fun i hi => by rw [f.1 2 (by decide) (by decide) (by decide) (by decide)]; exact ht.2 i hi⟩
    obtain ⟨k1, k2, -⟩ := pTk_k (n := n) (c := c) hn
    rw [← hK] at k2
    have fin : ∀ (g1 : xG) (j : Nat), mFk g g1 → (∀ t, t < j → mTo K t g1) → pN n c < j → Q none g1 := fun g1 j f1 hT hN => by
      refine hQ _ _ ⟨rfl, ⟨k1, k2, fun i hi => ?_⟩, f1⟩
      obtain ⟨t1, t2, t3, t4⟩ := hT i (by omega)
      have ok := pTo_ok (n := n) (c := c) (pSt' n c i)
      refine ⟨t1, t2, by rw [hK]; exact ⟨ok.1, ok.2.1⟩, t3, fun h => ⟨t4 h, ?_⟩⟩
      rw [hK] at h ⊢
      exact ok.2.2.2 h
    -- one token more
    have lay : ∀ (g1 : xG) (i j : Nat) (kd : Int32) (v : Int32) (nm : Int64), (∀ t, t < j → mTo K t g1) → pSt' n c j = i → kd = nI (pMk (pTo n c i).1) → ((pTo n c i).1 = 2 → nm = pNm 27 (pTo n c i).2.2.1) → ((pTo n c i).1 = 3 → v = nI (pTo n c i).2.1) → ∀ t, t < j + 1 → mTo K t (nTo kd (nI i) v nm j g1) := fun g1 i j kd v nm hT hs h1 h2 h3 t ht' => by
      by_cases e : t = j
      · subst e
        have k8 : K.1 t = (pTo n c i).1 := by rw [hK, ← hs]; rfl
        have kp : K.2.1 t = i := by rw [hK, ← hs]; rfl
        refine ⟨by rw [nTo_3, if_pos rfl, k8, h1], by rw [nTo_4, if_pos rfl, kp], fun h => ?_, fun h => ?_⟩
        · rw [k8] at h
          rw [nTo_6, if_pos rfl, h2 h, hK, ← hs]; rfl
        · rw [k8] at h
          rw [nTo_5, if_pos rfl, h3 h, hK, ← hs]; rfl
      · obtain ⟨a1, a2, a3, a4⟩ := hT t (by omega)
        exact ⟨by rw [nTo_3, if_neg e]; exact a1, by rw [nTo_4, if_neg e]; exact a2, fun h => by rw [nTo_6, if_neg e]; exact a3 h, fun h => by rw [nTo_5, if_neg e]; exact a4 h⟩
    have loop : ∀ d i, i + d = n → ∀ (j : Nat) (g1 : xG), mFk g g1 → g1.1 0 10 = nI j → j ≤ 401 → (∀ t, t < j → mTo K t g1) → pSk n c i = pSt' n c j → ∀ w2 w3 w4 w5 w6 w7, xm_go xs_M xk_X9_cut [xt_X9_byteAt, xt_X9_token, xt_X9_isLetter, xt_X9_appends, xt_X9_isDigit, xt_X9_sign] xc_X9_cut Q (xm_drop 5 xc_X9_cut) [.ref 0, .int (nI i), w2, w3, w4, w5, w6, w7] [] g1 := by
      intro d
      induction d using Nat.strongRecOn with
      | _ d ih =>
      intro i hi j g1 f1 e10 hj hT hs w2 w3 w4 w5 w6 w7
      have t1 := tape g1 f1
      by_cases j4 : j ≤ 400
      · have nj : ¬ 400 < g1.1 0 10 := by rw [e10]; exact nI_nlt (a := 400) (b := j) j4 (by decide)
        by_cases en : i < n
        · have lt : nI i < g1.1 0 4 := by rw [t1.1]; exact nI_lt en (by omega)
          have pre1 : ∀ i, i ≤ 4001 → [Value.ref 0, .int (nI i)] = [Value.ref 0, .int (nI i)] ∧ n ≤ 2000 ∧ i ≤ 4001 ∧ mTx n tb g1 := fun i h => ⟨rfl, hn, h, t1⟩
          -- on, behind a token
          have nxt : ∀ (g2 : xG) (e : Nat), e = (pTo n c i).2.2.2 → mFk g g2 → g2.1 0 10 = nI (j + 1) → (∀ t, t < j + 1 → mTo K t g2) → pSt' n c j = i → ∀ w2 w3 w4 w5 w6 w7, xm_go xs_M xk_X9_cut [xt_X9_byteAt, xt_X9_token, xt_X9_isLetter, xt_X9_appends, xt_X9_isDigit, xt_X9_sign] xc_X9_cut Q (xm_drop 5 xc_X9_cut) [.ref 0, .int (nI e), w2, w3, w4, w5, w6, w7] [] g2 := fun g2 e he f2 r10 tok si => by
            have en' := pTo_end (c := c) en
            subst he
            exact ih (n - (pTo n c i).2.2.2) (by omega) _ (by omega) (j + 1) g2 f2 r10 (by omega) tok (by show _ = pSk n c (pTo n c (pSt' n c j)).2.2.2; rw [si])
          cases hbl : pBl (c i) with
          | true =>
            have nx := ih (d - 1) (by omega) (i + 1) (by omega) j g1 f1 e10 hj hT (by rw [pSk_b en hbl]; exact hs)
            rw [nI_succ] at nx
            have h := (pBl_n (c i) (c256 i)).1 hbl
            rw [hc] at h
            exact xm_run_go hm 60 ⟨fun z => absurd z nj, fun _ => ⟨(n, tb, i), pre1 i (by omega), ⟨fun _ => ⟨fun _ => xm_cut hm (nx _ _ _ _ _ _), fun z1 => ⟨fun _ => xm_cut hm (nx _ _ _ _ _ _), fun z2 => ⟨fun _ => xm_cut hm (nx _ _ _ _ _ _), fun z3 => ⟨fun z4 => absurd (((h.resolve_left z1).resolve_left z2).resolve_left z3) z4, fun _ => xm_cut hm (nx _ _ _ _ _ _)⟩⟩⟩⟩, fun z => absurd lt (Int32.not_lt.mpr z)⟩⟩⟩
          | false =>
            rw [pSk_n hbl] at hs
            obtain ⟨b1, b2, b3, b4⟩ := (pBl_n (c i) (c256 i)).2 hbl
            cases ha : pAl (c i) with
            | true =>
              have hto := pTo_al en ha
              have le := pRl_le (P := pAl) (n := n) (c := c) (i := i) (by omega)
              -- the token, once its kind is known
              have at94 : ∀ (nm : Int64) (kd : Nat) (w2 w5 w7 : Value), kd = pMk (pTo n c i).1 → ((pTo n c i).1 = 2 → nm = pNm 27 (pLs 96 c i (pRl pAl n c i))) → xm_go xs_M xk_X9_cut [xt_X9_byteAt, xt_X9_token, xt_X9_isLetter, xt_X9_appends, xt_X9_isDigit, xt_X9_sign] xc_X9_cut Q (xm_drop 94 xc_X9_cut) [.ref 0, .int (nI i), w2, .int (nI (pRl pAl n c i)), .long nm, w5, .int (nI kd), w7] [] g1 := by
                intro nm kd w2 w5 w7 hkd hnm
                have tok := lay g1 i j (nI kd) 0 nm hT hs.symm (by rw [hkd]) (fun h => by rw [hnm h, hto]) (fun h => by
                  rw [hto] at h
                  dsimp only at h
                  exfalso
                  split at h
                  · cases h
                  · unfold pKd at h
                    split at h
                    · omega
                    · cases h)
                have go := nxt _ (i + pRl pAl n c i) (by rw [hto]) (nTo_f f1 (nI kd) (nI i) 0 nm j) (nTo_10 _ _ _ _ _ _) tok hs.symm
                rw [← nI_add] at go
                exact xm_run_go hm 30 ⟨(nI kd, nI i, 0, nm, j), ⟨rfl, by omega, e10⟩, xm_cut hm (go _ _ _ _ _ _)⟩
              have loop2 : ∀ r a, a + r = pRl pAl n c i → pRl pAl n c (i + a) = r → ∀ nm, (a ≤ 8 → nm = pNm 27 (pLs 96 c i a)) → ∀ (x2 : Int32) (w6 w7 : Value), xm_go xs_M xk_X9_cut [xt_X9_byteAt, xt_X9_token, xt_X9_isLetter, xt_X9_appends, xt_X9_isDigit, xt_X9_sign] xc_X9_cut Q (xm_drop 46 xc_X9_cut) [.ref 0, .int (nI i), .int x2, .int (nI a), .long nm, .retAddr 0, w6, w7] [] g1 := by
                intro r
                induction r with
                | zero =>
                  intro a hra hr nm hnm x2 w6 w7
                  have ea : a = pRl pAl n c i := by omega
                  have no := pRl_0 (by decide) (fun i h => by rw [hc]; exact pC_0 h) hr
                  have is0 : bI (pAl (pC n tb (i + a))) = 0 := by rw [← hc]; exact bI_0.mpr no
                  have ii : [Value.ref 0, .int (nI i + nI a)] = [Value.ref 0, .int (nI (i + a))] := by rw [nI_add]
                  by_cases c8 : 8 < a
                  · have k1 : (pTo n c i).1 = 1 := by rw [hto, ← ea, if_pos c8]
                    have go := at94 nm 3 (.int x2) (.retAddr 0) w7 (by rw [k1]; rfl) (fun h => by rw [k1] at h; cases h)
                    rw [← ea] at go
                    have gt : (8 : Int32) < nI a := nI_lt (a := 8) c8 (by omega)
                    exact xm_run_go hm 16 ⟨(n, tb, i + a), ⟨ii, hn, by show i + a ≤ 4001; omega, t1⟩, pC n tb (i + a), ⟨rfl, pC_lt _ _ _⟩, ⟨fun _ => ⟨fun z => absurd z (Int32.not_le.mpr gt), fun _ => ⟨fun _ => xm_go_run hm _ go, fun z => absurd gt (Int32.not_lt.mpr z)⟩⟩, fun z => absurd is0 z⟩⟩
                  · have le8 : nI a ≤ (8 : Int32) := nI_le (b := 8) (by omega) (by decide)
                    have k1 : (pTo n c i).1 = pKd (pLs 96 c i a) := by rw [hto, ← ea, if_neg c8]
                    have nm' := hnm (by omega)
                    have lok : pNok (pLs 96 c i a) := by
                      refine ⟨by rw [pLs_len]; omega, fun x hx => ?_⟩
                      unfold pLs at hx
                      obtain ⟨t, ht', rfl⟩ := List.mem_map.mp hx
                      have := pAl_i.mp (pRl_all _ _ ea.symm t (List.mem_range.mp ht'))
                      omega
                    -- the words
                    have loop3 : ∀ e w, w + e = 20 → ∀ x2 : Int32, xm_go xs_M xk_X9_cut [xt_X9_byteAt, xt_X9_token, xt_X9_isLetter, xt_X9_appends, xt_X9_isDigit, xt_X9_sign] xc_X9_cut Q (xm_drop 78 xc_X9_cut) [.ref 0, .int (nI i), .int x2, .int (nI a), .long nm, .retAddr 0, .int (nI (pKm (pLs 96 c i a) w)), .int (nI w)] [] g1 := by
                      intro e
                      induction e with
                      | zero =>
                        intro w hw x2
                        have hw : w = 20 := by omega
                        subst hw
                        have go := at94 nm (pKm (pLs 96 c i a) 20) (.int x2) (.retAddr 0) (.int (nI 20)) (by rw [pKm_k, k1]) (fun _ => by rw [nm', ea])
                        rw [← ea] at go
                        exact xm_run_go hm 3 ⟨fun _ => go, fun z => absurd z (by decide)⟩
                      | succ e ih3 =>
                        intro w hw x2
                        have nx := ih3 (w + 1) (by omega)
                        rw [nI_succ] at nx
                        have key : g1.2.1 7 w = pNm (lN 27) ((pWl[w]?).getD []) := by rw [f1.2.2.1 7 (by decide)]; exact hk w (by omega)
                        have same : g1.2.1 7 w = nm ↔ (pWl[w]?).getD [] = pLs 96 c i a := by rw [key, nm']; exact pNm_inj (b := 27) ⟨by decide, by decide⟩ (pWl_ok w (by omega)) lok
                        have ek : pKm (pLs 96 c i a) (w + 1) = if (pWl[w]?).getD [] = pLs 96 c i a then 20 + w else pKm (pLs 96 c i a) w := rfl
                        by_cases cw : (pWl[w]?).getD [] = pLs 96 c i a
                        · rw [ek, if_pos cw] at nx
                          rw [← nI_add] at nx
                          exact xm_run_go hm 40 ⟨fun z => absurd z (nI_ge (b := 20) (by omega) (by omega)), fun _ => ⟨w, ⟨by omega, rfl⟩, ⟨fun z => absurd ((lg_cmp_eq _ _).mpr (same.mpr cw)) z, fun _ => xm_cut hm (nx _)⟩⟩⟩
                        · rw [ek, if_neg cw] at nx
                          exact xm_run_go hm 40 ⟨fun z => absurd z (nI_ge (b := 20) (by omega) (by omega)), fun _ => ⟨w, ⟨by omega, rfl⟩, ⟨fun _ => xm_cut hm (nx _), fun z => absurd (same.mp ((lg_cmp_eq _ _).mp z)) cw⟩⟩⟩
                    have go := loop3 20 0 rfl
                    exact xm_run_go hm 40 ⟨(n, tb, i + a), ⟨ii, hn, by show i + a ≤ 4001; omega, t1⟩, pC n tb (i + a), ⟨rfl, pC_lt _ _ _⟩, ⟨fun _ => ⟨fun _ => ⟨fun z => absurd z (Int32.not_lt.mpr le8), fun _ => xm_cut hm (go _)⟩, fun z => absurd le8 (Int32.not_le.mpr z)⟩, fun z => absurd is0 z⟩⟩
                | succ r ih2 =>
                  intro a hra hr nm hnm x2 w6 w7
                  obtain ⟨h1, h2, h3⟩ := pRl_s hr
                  have av := pAl_i.mp h1
                  have is1 : ¬ bI (pAl (pC n tb (i + a))) = 0 := fun z => by rw [← hc] at z; rw [bI_0.mp z] at h1; cases h1
                  have nx := ih2 (a + 1) (by omega) h3
                  rw [nI_succ] at nx
                  have ii : [Value.ref 0, .int (nI i + nI a)] = [Value.ref 0, .int (nI (i + a))] := by rw [nI_add]
                  have pb : [Value.ref 0, .int (nI i + nI a)] = [Value.ref 0, .int (nI (i + a))] ∧ n ≤ 2000 ∧ i + a ≤ 4001 ∧ mTx n tb g1 := ⟨ii, hn, by omega, t1⟩
                  rw [hc] at av
                  by_cases c8 : a < 8
                  · have n2 := nx (nAp nm (pC n tb (i + a))) (fun _ => by
                      unfold nAp
                      rw [if_neg (by omega), pLs_s, pNm_s, hnm (by omega), hc])
                    exact xm_run_go hm 60 ⟨(n, tb, i + a), pb, pC n tb (i + a), ⟨rfl, pC_lt _ _ _⟩, ⟨fun z => absurd z is1, fun _ => ⟨fun z => absurd z (nI_ge (b := 8) c8 (by decide)), fun _ => ⟨(n, tb, i + a), pb, (nm, pC n tb (i + a)), ⟨rfl, Or.inr av⟩, xm_cut hm (n2 _ _ _)⟩⟩⟩⟩
                  · have n2 := nx nm (fun h => absurd h (by omega))
                    exact xm_run_go hm 60 ⟨(n, tb, i + a), pb, pC n tb (i + a), ⟨rfl, pC_lt _ _ _⟩, ⟨fun z => absurd z is1, fun _ => ⟨fun _ => xm_cut hm (n2 _ _ _), fun z => absurd ((nI_ltI (b := 8) (by omega) (by decide)).mp z) c8⟩⟩⟩
              have go := loop2 _ 0 (Nat.zero_add _) rfl 0 (fun _ => rfl)
              have is1 : ¬ bI (pAl (pC n tb i)) = 0 := fun z => by rw [← hc] at z; rw [bI_0.mp z] at ha; cases ha
              rw [hc] at b1 b2 b3 b4
              exact xm_run_go hm 60 ⟨fun z => absurd z nj, fun _ => ⟨(n, tb, i), pre1 i (by omega), ⟨fun _ => ⟨fun z => absurd z b1, fun _ => ⟨fun z => absurd z b2, fun _ => ⟨fun z => absurd z b3, fun _ => ⟨fun _ => ⟨pC n tb i, ⟨rfl, pC_lt _ _ _⟩, ⟨fun z => absurd z is1, fun _ => xm_cut hm (go _ _ _)⟩⟩, fun z => absurd z b4⟩⟩⟩⟩, fun z => absurd lt (Int32.not_lt.mpr z)⟩⟩⟩
            | false =>
              have is0 : bI (pAl (pC n tb i)) = 0 := by rw [← hc]; exact bI_0.mpr ha
              cases hd : pDi (c i) with
              | true =>
                have hto := pTo_di en ha hd
                have le := pRl_le (P := pDi) (n := n) (c := c) (i := i) (by omega)
                have loop2 : ∀ r a, a + r = pRl pDi n c i → pRl pDi n c (i + a) = r → ∀ v, (a ≤ 4 → v = nI (pVl (pLs 48 c i a))) → ∀ (x2 : Int32) (w5 w6 w7 : Value), xm_go xs_M xk_X9_cut [xt_X9_byteAt, xt_X9_token, xt_X9_isLetter, xt_X9_appends, xt_X9_isDigit, xt_X9_sign] xc_X9_cut Q (xm_drop 112 xc_X9_cut) [.ref 0, .int (nI i), .int x2, .int (nI a), .int v, w5, w6, w7] [] g1 := by
                  intro r
                  induction r with
                  | zero =>
                    intro a hra hr v hv x2 w5 w6 w7
                    have ea : a = pRl pDi n c i := by omega
                    have no := pRl_0 (by decide) (fun i h => by rw [hc]; exact pC_0 h) hr
                    have is0' : bI (pDi (pC n tb (i + a))) = 0 := by rw [← hc]; exact bI_0.mpr no
                    have ii : [Value.ref 0, .int (nI i + nI a)] = [Value.ref 0, .int (nI (i + a))] := by rw [nI_add]
                    have pb : [Value.ref 0, .int (nI i + nI a)] = [Value.ref 0, .int (nI (i + a))] ∧ n ≤ 2000 ∧ i + a ≤ 4001 ∧ mTx n tb g1 := ⟨ii, hn, by omega, t1⟩
                    have n2 : (pTo n c i).1 ≠ 2 := by rw [hto]; dsimp only; split <;> decide
                    have ed : (pTo n c i).2.2.2 = i + a := by rw [hto, ea]
                    by_cases c8 : 4 < a
                    · have k1 : (pTo n c i).1 = 1 := by rw [hto, ← ea, if_pos c8]
                      have tok := lay g1 i j 3 v 0 hT hs.symm (by rw [k1]; rfl) (fun h => absurd h n2) (fun h => by rw [k1] at h; cases h)
                      have go := nxt _ (i + a) ed.symm (nTo_f f1 3 (nI i) v 0 j) (nTo_10 _ _ _ _ _ _) tok hs.symm
                      rw [← nI_add] at go
                      have gt : (4 : Int32) < nI a := nI_lt (a := 4) c8 (by omega)
                      exact xm_run_go hm 60 ⟨(n, tb, i + a), pb, pC n tb (i + a), ⟨rfl, pC_lt _ _ _⟩, ⟨fun _ => ⟨fun z => absurd z (Int32.not_le.mpr gt), fun _ => ⟨(3, nI i, v, 0, j), ⟨rfl, by omega, e10⟩, xm_cut hm (go _ _ _ _ _ _)⟩⟩, fun z => absurd is0' z⟩⟩
                    · have le8 : nI a ≤ (4 : Int32) := nI_le (b := 4) (by omega) (by decide)
                      have k1 : (pTo n c i).1 = 3 := by rw [hto, ← ea, if_neg c8]
                      have tok := lay g1 i j 2 v 0 hT hs.symm (by rw [k1]; rfl) (fun h => absurd h n2) (fun _ => by rw [hto, hv (by omega), ea])
                      have go := nxt _ (i + a) ed.symm (nTo_f f1 2 (nI i) v 0 j) (nTo_10 _ _ _ _ _ _) tok hs.symm
                      rw [← nI_add] at go
                      exact xm_run_go hm 60 ⟨(n, tb, i + a), pb, pC n tb (i + a), ⟨rfl, pC_lt _ _ _⟩, ⟨fun _ => ⟨fun _ => ⟨(2, nI i, v, 0, j), ⟨rfl, by omega, e10⟩, xm_cut hm (go _ _ _ _ _ _)⟩, fun z => absurd le8 (Int32.not_le.mpr z)⟩, fun z => absurd is0' z⟩⟩
                  | succ r ih2 =>
                    intro a hra hr v hv x2 w5 w6 w7
                    obtain ⟨h1, h2, h3⟩ := pRl_s hr
                    have av := pDi_i.mp h1
                    have is1 : ¬ bI (pDi (pC n tb (i + a))) = 0 := fun z => by rw [← hc] at z; rw [bI_0.mp z] at h1; cases h1
                    have nx := ih2 (a + 1) (by omega) h3
                    rw [nI_succ] at nx
                    have ii : [Value.ref 0, .int (nI i + nI a)] = [Value.ref 0, .int (nI (i + a))] := by rw [nI_add]
                    have pb : [Value.ref 0, .int (nI i + nI a)] = [Value.ref 0, .int (nI (i + a))] ∧ n ≤ 2000 ∧ i + a ≤ 4001 ∧ mTx n tb g1 := ⟨ii, hn, by omega, t1⟩
                    by_cases c8 : a < 4
                    · have n2 := nx (10 * v + nI (pC n tb (i + a)) - 48) (fun _ => by
                        rw [hv (by omega), pLs_s, pVl_s, ← hc]
                        exact nI_dg av.1)
                      exact xm_run_go hm 60 ⟨(n, tb, i + a), pb, pC n tb (i + a), ⟨rfl, pC_lt _ _ _⟩, ⟨fun z => absurd z is1, fun _ => ⟨fun z => absurd z (nI_ge (b := 4) c8 (by decide)), fun _ => ⟨(n, tb, i + a), pb, xm_cut hm (n2 _ _ _ _)⟩⟩⟩⟩
                    · have n2 := nx v (fun h => absurd h (by omega))
                      exact xm_run_go hm 60 ⟨(n, tb, i + a), pb, pC n tb (i + a), ⟨rfl, pC_lt _ _ _⟩, ⟨fun z => absurd z is1, fun _ => ⟨fun _ => xm_cut hm (n2 _ _ _ _), fun z => absurd ((nI_ltI (b := 4) (by omega) (by decide)).mp z) c8⟩⟩⟩
                have go := loop2 _ 0 (Nat.zero_add _) rfl 0 (fun _ => rfl)
                have is1 : ¬ bI (pDi (pC n tb i)) = 0 := fun z => by rw [← hc] at z; rw [bI_0.mp z] at hd; cases hd
                rw [hc] at b1 b2 b3 b4
                exact xm_run_go hm 60 ⟨fun z => absurd z nj, fun _ => ⟨(n, tb, i), pre1 i (by omega), ⟨fun _ => ⟨fun z => absurd z b1, fun _ => ⟨fun z => absurd z b2, fun _ => ⟨fun z => absurd z b3, fun _ => ⟨fun _ => ⟨pC n tb i, ⟨rfl, pC_lt _ _ _⟩, ⟨fun _ => ⟨pC n tb i, ⟨rfl, pC_lt _ _ _⟩, ⟨fun z => absurd z is1, fun _ => xm_cut hm (go _ _ _ _)⟩⟩, fun z => absurd is0 z⟩⟩, fun z => absurd z b4⟩⟩⟩⟩, fun z => absurd lt (Int32.not_lt.mpr z)⟩⟩⟩
              | false =>
                have is0' : bI (pDi (pC n tb i)) = 0 := by rw [← hc]; exact bI_0.mpr hd
                have hto := pTo_sg en ha hd
                have ek : (pTo n c i).1 = if pSg (pC n tb i) = true then pC n tb i else 1 := by rw [hto, hc]
                have n23 : (pTo n c i).1 ≠ 2 ∧ (pTo n c i).1 ≠ 3 := by
                  rw [ek]
                  have : ∀ v, v < 256 → (if pSg v = true then v else 1) ≠ 2 ∧ (if pSg v = true then v else 1) ≠ 3 := by decide +kernel
                  exact this _ (pC_lt _ _ _)
                have tok := lay g1 i j (nI (pMk (if pSg (pC n tb i) = true then pC n tb i else 1))) 0 0 hT hs.symm (by rw [ek]) (fun h => absurd h n23.1) (fun h => absurd h n23.2)
                have go := nxt _ (i + 1) (by rw [hto]) (nTo_f f1 (nI (pMk (if pSg (pC n tb i) = true then pC n tb i else 1))) (nI i) 0 0 j) (nTo_10 _ _ _ _ _ _) tok hs.symm
                rw [← nI_1] at go
                have ii : [Value.ref 0, .int (nI i + 1)] = [Value.ref 0, .int (nI (i + 1))] := by rw [nI_1]
                rw [hc] at b1 b2 b3 b4
                exact xm_run_go hm 60 ⟨fun z => absurd z nj, fun _ => ⟨(n, tb, i), pre1 i (by omega), ⟨fun _ => ⟨fun z => absurd z b1, fun _ => ⟨fun z => absurd z b2, fun _ => ⟨fun z => absurd z b3, fun _ => ⟨fun _ => ⟨pC n tb i, ⟨rfl, pC_lt _ _ _⟩, ⟨fun _ => ⟨pC n tb i, ⟨rfl, pC_lt _ _ _⟩, ⟨fun _ => ⟨(n, tb, i + 1), ⟨ii, hn, by show i + 1 ≤ 4001; omega, t1⟩, (i, pC n tb i, nI (pC n tb (i + 1)), j), ⟨rfl, pC_lt _ _ _, by show j < 403; omega, e10⟩, xm_cut hm (go _ _ _ _ _ _)⟩, fun z => absurd is0' z⟩⟩, fun z => absurd is0 z⟩⟩, fun z => absurd z b4⟩⟩⟩⟩, fun z => absurd lt (Int32.not_lt.mpr z)⟩⟩⟩
        · have ei : i = n := by omega
          have ge : ¬ nI i < g1.1 0 4 := by rw [t1.1, ei]; exact Int32.lt_irrefl
          have sn : pSt' n c j = n := by
            rw [← hs, ei]
            have := pSk_le (n := n) (c := c) (i := n) (Nat.le_refl _)
            omega
          have hto : pTo n c n = (0, 0, [], n) := pTo_n (Nat.le_refl _)
          have tok := lay g1 n j 0 0 0 hT sn (by rw [hto]; rfl) (fun h => by rw [hto] at h; cases h) (fun h => by rw [hto] at h; cases h)
          have N1 : pN n c ≤ j := by
            obtain ⟨-, -, -, p4⟩ := pLst_i (pTk n c) 400 0
            refine Nat.le_of_not_lt fun q => ?_
            have := p4 j (Nat.zero_le _) q
            have e : (pTk n c).1 j = 0 := by show (pTo n c (pSt' n c j)).1 = 0; rw [sn, hto]
            omega
          have f := fin _ (j + 1) (nTo_f f1 0 (nI n) 0 0 j) tok (by omega)
          have ea : [Value.ref 0, .int 0, .int (g1.1 0 4), .int 0, .long 0] = [Value.ref 0, .int 0, .int (nI n), .int 0, .long 0] := by rw [t1.1]
          exact xm_run_go hm 60 ⟨fun z => absurd z nj, fun _ => ⟨(n, tb, i), ⟨rfl, hn, by show i ≤ 4001; omega, t1⟩, ⟨fun z => absurd z ge, fun _ => ⟨(0, nI n, 0, 0, j), ⟨ea, by show j < 403; omega, e10⟩, f⟩⟩⟩⟩
      · have gt : 400 < g1.1 0 10 := by rw [e10, show j = 401 by omega]; decide
        have f := fin g1 j f1 hT (by omega)
        exact xm_run_go hm 60 ⟨fun _ => f, fun z => absurd gt (Int32.not_lt.mpr z)⟩
    have f0 : mFk g (xm_sI g 0 10 0) := ⟨fun k a _ _ _ => xg_off _ _ _ a, fun j hj => by rw [xg_in, if_neg hj], fun _ _ => rfl, rfl⟩
    have go := loop n 0 (by omega) 0 (xm_sI g 0 10 0) f0 (by rw [xg_in, if_pos rfl]; rfl) (by omega) (fun t ht' => absurd ht' (by omega)) rfl
    exact xm_run_go hm 20 (xm_cut hm (go _ _ _ _ _ _))
