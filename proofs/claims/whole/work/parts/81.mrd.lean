-- READING: the whole of it
def pRd (n : Nat) (tb : Nat → Int32) : pF ⊕ pSt := pAll (pTk n (pC n tb)) 402 0 pS0
def pRes (W : pF ⊕ pSt) : Int32 × Int32 × Option pSt := match W with
  | .inl q => (nI q.1, nI q.2, none)
  | .inr s => match qL s with
    | some q => (nI q.1, nI q.2, none)
    | none => (0, -1, some s)
noncomputable def sRead (σ : vS) : vS := match (pRes (pRd (sN σ) (sB σ))).2.2 with
  | none => (0, sB σ, (pRes (pRd (sN σ) (sB σ))).2.1, σ.2.2.2)
  | some s => (0, sB σ, -1, pTs s, vBegin (pTs s) (qH s) v0, 0, sH σ, (fun _ => none), (0, (sD σ).2))
def aRead (σ : vS) : Int32 := (pRes (pRd (sN σ) (sB σ))).1
def pNb (s : pSt) : Prop := qL s = none → ∀ q, q ∈ qS s → q.2.1 ≤ 5 ∧ q.2.2.1 ≤ 5
theorem pOut_f {v lo hi : Nat} (h : pOut v lo hi = false) : lo ≤ v ∧ v ≤ hi := by
  unfold pOut at h
  rw [Bool.or_eq_false_iff, decide_eq_false_iff_not, decide_eq_false_iff_not] at h
  omega
theorem pTell_b {k : vTk} {a a' : Nat} {s s' : pSt} (h : pTell k a s = .inr (a', s')) (hb : pNb s) : pNb s' := by
  by_cases c1 : k.1 a = 128
  · rw [pTell_1 c1] at h
    obtain ⟨a1, -, h⟩ := pBn_i.mp h
    obtain ⟨b, -, h⟩ := pBn_i.mp h
    cases h
    intro hl q hq
    obtain ⟨l3, -⟩ := pLt_n hl
    obtain ⟨l2, o2⟩ := pLt_n l3
    obtain ⟨l1, o1⟩ := pLt_n l2
    obtain ⟨l0, -⟩ := pLt_n l1
    rcases List.mem_append.mp hq with hq | hq
    · exact hb l0 q hq
    · rw [List.mem_singleton] at hq
      subst hq
      exact ⟨(pOut_f o1).2, (pOut_f o2).2⟩
  by_cases c2 : k.1 a = 129
  · rw [pTell_2 c2] at h
    obtain ⟨a1, -, h⟩ := pBn_i.mp h
    obtain ⟨b, -, h⟩ := pBn_i.mp h
    cases h
    exact fun hl => hb (pLt_n (pLt_n hl).1).1
  by_cases c3 : k.1 a = 130
  · rw [pTell_3 c3] at h
    obtain ⟨a1, -, h⟩ := pBn_i.mp h
    obtain ⟨b, -, h⟩ := pBn_i.mp h
    cases h
    exact fun hl => hb (pLt_n (pLt_n hl).1).1
  by_cases c4 : 131 ≤ k.1 a ∧ k.1 a ≤ 134
  · rw [pTell_4 c4] at h
    obtain ⟨q, -, h⟩ := pBn_i.mp h
    cases h
    exact hb
  by_cases c5 : k.1 a = 135
  · rw [pTell_5 c5] at h
    obtain ⟨a1, -, h⟩ := pBn_i.mp h
    obtain ⟨b, -, h⟩ := pBn_i.mp h
    cases h
    exact fun hl => hb (pLt_n hl).1
  rw [pTell_6 (by omega)] at h
  cases h
theorem vBegin_ok {t : vSt} (ht : vTok t) : ∀ (sh : List (Nat × Nat)) (c : vSc), (∀ q, q ∈ sh → q.1 < tM t ∧ q.2 < tN t) → vCok t c → vCok t (vBegin t sh c)
  | [], _, _, h => h
  | q :: r, c, hq, h => vBegin_ok ht r _ (fun q hq' => hq q (List.mem_cons_of_mem _ hq')) (vThrow_ok ht h (hq q (List.mem_cons_self ..)).1 (hq q (List.mem_cons_self ..)).2)
theorem pTs_ok {s : pSt} (hi : pInv s) (hb : pNb s) (hl : qL s = none) : vTok (pTs s) := by
  refine ⟨hi.1, hi.2.1, fun i hi' => ?_⟩
  have hi' : i < (qS s).length := hi'
  have e : (qS s)[i]? = some (qS s)[i] := List.getElem?_eq_getElem hi'
  have := hb hl _ (List.getElem_mem hi')
  show 0 ≤ nI (((qS s)[i]?).getD ([], 0, 0, 0)).2.1 ∧ 0 ≤ nI (((qS s)[i]?).getD ([], 0, 0, 0)).2.2.1
  rw [e]
  exact ⟨nI_pos' (by show (qS s)[i].2.1 < _; omega), nI_pos' (by show (qS s)[i].2.2.1 < _; omega)⟩
-- THE REFERENCE READS
def xt_X9_plain : xT := xm_rl (Z := Nat) (fun sd av g => av = [.ref 0, .int (nI sd)] ∧ sd < 2) (fun sd g o g' => o = none ∧ mFr sd g g' ∧ (∀ k, ¬ (10 ≤ k ∧ k ≤ 21) → g'.1 k = g.1 k) ∧ g'.2 = g.2 ∧ g'.1 10 sd = 0 ∧ g'.1 14 sd = 0 ∧ g'.1 16 sd = 0 ∧ g'.1 19 sd = 0 ∧ ∀ k, k < 4 → g'.1 20 (4 * sd + k) = g'.1 21 (4 * sd + k))
set_option maxRecDepth 100000 in
set_option maxHeartbeats 400000 in
theorem xp_X9_plain {l : Launch} {D : va_G} {cA : Nat → ClassId} {B : List (Nat × Cell)} : xm_Met l D cA B xs_M 0 yX9_plain cX9_plain 3 none xt_X9_plain := by
  have hm : xm_monos [] := xm_m0
  refine xm_meth (own := RX9) (ks := xk_X9_plain) (C := xc_X9_plain) (Ts := []) (by decide +kernel) rfl xm_clsok xs_M_ok xf_X9_ok xi_X9_ok xj_X9_ok xm_lk0 xo_X9_plain ?_ ?_
  · rintro av g Q ⟨z, ⟨rfl, -⟩, -⟩
    exact Nat.le_of_ble_eq_true rfl
  · rintro av g Q ⟨sd, ⟨rfl, hs⟩, hQ⟩
    dsimp only at hs hQ
    have loop : ∀ d k, k + d = 4 → ∀ g1, mFr sd g g1 → (∀ k, ¬ (10 ≤ k ∧ k ≤ 21) → g1.1 k = g.1 k) → g1.2 = g.2 → g1.1 10 sd = 0 → g1.1 14 sd = 0 → g1.1 16 sd = 0 → g1.1 19 sd = 0 → (∀ j, j < k → g1.1 20 (4 * sd + j) = g1.1 21 (4 * sd + j)) → xm_go xs_M xk_X9_plain [] xc_X9_plain Q (xm_drop 22 xc_X9_plain) [.ref 0, .int (nI sd), .int (nI k)] [] g1 := by
      intro d
      induction d with
      | zero =>
        intro k hk g1 f1 f2 f3 a1 a2 a3 a4 a5
        have hk : k = 4 := by omega
        subst hk
        exact xm_run_go hm 20 ⟨fun _ => hQ _ _ ⟨rfl, f1, f2, f3, a1, a2, a3, a4, a5⟩, fun z => absurd z (by decide)⟩
      | succ d ih =>
        intro k hk g1 f1 f2 f3 a1 a2 a3 a4 a5
        have nx := ih (k + 1) (by omega) (xm_sI (xm_sI g1 20 (4 * sd + k) 0) 21 (4 * sd + k) 0) ((f1.pu _ ⟨by decide, by decide⟩ (by rw [show mBz 20 = 4 from rfl]; omega)).pu _ ⟨by decide, by decide⟩ (by rw [show mBz 21 = 4 from rfl]; omega)) (fun q hq => by rw [xg_off _ _ _ (by omega), xg_off _ _ _ (by omega)]; exact f2 q hq) f3 (by rw [xg_off _ _ _ (by decide), xg_off _ _ _ (by decide)]; exact a1) (by rw [xg_off _ _ _ (by decide), xg_off _ _ _ (by decide)]; exact a2) (by rw [xg_off _ _ _ (by decide), xg_off _ _ _ (by decide)]; exact a3) (by rw [xg_off _ _ _ (by decide), xg_off _ _ _ (by decide)]; exact a4) (fun j hj => by
          rw [xg_off _ _ _ (by decide), xg_in, xg_in, xg_off _ _ _ (by decide)]
          by_cases e : j = k
          · rw [if_pos (by omega), if_pos (by omega)]
          · rw [if_neg (by omega), if_neg (by omega)]; exact a5 j (by omega))
        rw [nI_succ] at nx
        exact xm_run_go hm 40 ⟨fun z => absurd z (nI_ge (b := 4) (by omega) (by omega)), fun _ => ⟨4 * sd + k, ⟨by omega, xn_4 _ _⟩, 4 * sd + k, ⟨by omega, xn_4 _ _⟩, xm_cut hm nx⟩⟩
    have b1 : ∀ q, mBz q = 1 → mBz q * sd ≤ sd ∧ sd < mBz q * sd + mBz q := fun q h => by rw [h]; omega
    have go := loop 4 0 rfl (xm_sI (xm_sI (xm_sI (xm_sI g 10 sd 0) 14 sd 0) 16 sd 0) 19 sd 0) ((((mFr.rf.pu 0 ⟨by decide, by decide⟩ (b1 10 rfl)).pu 0 ⟨by decide, by decide⟩ (b1 14 rfl)).pu 0 ⟨by decide, by decide⟩ (b1 16 rfl)).pu 0 ⟨by decide, by decide⟩ (b1 19 rfl)) (fun q hq => by rw [xg_off _ _ _ (by omega), xg_off _ _ _ (by omega), xg_off _ _ _ (by omega), xg_off _ _ _ (by omega)]) rfl (by rw [xg_off _ _ _ (by decide), xg_off _ _ _ (by decide), xg_off _ _ _ (by decide), xg_in, if_pos rfl]) (by rw [xg_off _ _ _ (by decide), xg_off _ _ _ (by decide), xg_in, if_pos rfl]) (by rw [xg_off _ _ _ (by decide), xg_in, if_pos rfl]) (by rw [xg_in, if_pos rfl]) (fun j hj => absurd hj (by omega))
    exact xm_run_go hm 40 ⟨sd, ⟨hs, rfl⟩, sd, ⟨hs, rfl⟩, sd, ⟨hs, rfl⟩, sd, ⟨hs, rfl⟩, xm_cut hm go⟩
def mShown (lv : Nat) (t : vSt) (sh : List (Nat × Nat)) (g : xG) : Prop := g.1 16 lv = nI sh.length ∧ sh.length ≤ 20 ∧ ∀ i q, sh[i]? = some q → q.1 < tM t ∧ q.2 < tN t ∧ g.1 17 (20 * lv + i) = nI q.1 ∧ g.1 18 (20 * lv + i) = nI q.2
def xt_X9_begins : xT := xm_rl (Z := Nat × vSt × List (Nat × Nat)) (fun (lv, t, sh) av g => av = [.ref 0] ∧ vTok t ∧ mSto lv t g ∧ mShown lv t sh g) (fun (lv, t, sh) g o g' => o = none ∧ mIn lv t (vBegin t sh v0) g' ∧ mFq g g')
set_option maxRecDepth 100000 in
set_option maxHeartbeats 400000 in
theorem xp_X9_begins {l : Launch} {D : va_G} {cA : Nat → ClassId} {B : List (Nat × Cell)} : xm_Met l D cA B xs_M 8 yX9_begins cX9_begins 2 none xt_X9_begins := by
  have hm : xm_monos [xt_X9_throwsUpon] := ⟨(by first | exact xm_fn_mono _ _ _ | exact xm_rl_mono _ _), trivial⟩
  refine xm_meth (own := RX9) (ks := xk_X9_begins) (C := xc_X9_begins) (Ts := [xt_X9_throwsUpon]) (by decide +kernel) rfl xm_clsok xs_M_ok xf_X9_ok xi_X9_ok xj_X9_ok (xm_lk xl_X9_317 xp_X9_throwsUpon (by decide) xm_lk0) xo_X9_begins ?_ ?_
  · rintro av g Q ⟨z, ⟨rfl, -⟩, -⟩
    exact Nat.le_of_ble_eq_true rfl
  · rintro av g Q ⟨⟨lv, t, sh⟩, ⟨rfl, ht, hs, ⟨s1, s2, s3⟩⟩, hQ⟩
    dsimp only at ht hs s1 s2 s3 hQ
    have l2 := hs.1
    have m6 := ht.2.1
    have loop3 : ∀ rest i c, i + rest.length = sh.length → (∀ j q, rest[j]? = some q → sh[i + j]? = some q) → vBegin t rest c = vBegin t sh v0 → ∀ g1, mFq g g1 → mIn lv t c g1 → xm_go xs_M xk_X9_begins [xt_X9_throwsUpon] xc_X9_begins Q (xm_drop 41 xc_X9_begins) [.ref 0, .int (nI (20 * lv + i))] [] g1 := by
      intro rest
      induction rest with
      | nil =>
        intro i c hi hq hv g1 hf h1
        simp only [List.length_nil] at hi
        have e18 := h1.l
        have e16 : g1.1 16 lv = nI sh.length := by rw [hf.1 16 (by decide) (by decide) (by decide) (by decide) (by decide) (by decide) (by decide) (by decide)]; exact s1
        have ix : 20 * g1.1 0 18 + g1.1 16 lv = nI (20 * lv + sh.length) := by rw [e18, e16, nI_20]
        refine xm_run_go hm 30 ⟨lv, ⟨l2, e18⟩, ⟨fun _ => hQ _ _ ⟨rfl, by rw [← hv]; exact h1, hf⟩, fun q => ?_⟩⟩
        rw [ix] at q
        exact absurd q (nI_nlt (by omega) (by omega))
      | cons q0 rest ih =>
        intro i c hi hq hv g1 hf h1
        simp only [List.length_cons] at hi
        have e18 := h1.l
        have fk : ∀ k, k = 16 ∨ k = 17 ∨ k = 18 → g1.1 k = g.1 k := fun k hk => hf.1 k (by omega) (by omega) (by omega) (by omega) (by omega) (by omega) (by omega) (by omega)
        have e16 : g1.1 16 lv = nI sh.length := by rw [fk 16 (by omega)]; exact s1
        have ix : 20 * g1.1 0 18 + g1.1 16 lv = nI (20 * lv + sh.length) := by rw [e18, e16, nI_20]
        obtain ⟨a1, a2, a3, a4⟩ := s3 i q0 (by have := hq 0 q0 rfl; simpa using this)
        have e3 : g1.1 17 (20 * lv + i) = nI q0.1 := by rw [fk 17 (by omega)]; exact a3
        have e4 : g1.1 18 (20 * lv + i) = nI q0.2 := by rw [fk 18 (by omega)]; exact a4
        have ea : [Value.ref 0, .int (g1.1 17 (20 * lv + i)), .int (g1.1 18 (20 * lv + i))] = [Value.ref 0, .int (nI q0.1), .int (nI q0.2)] := by rw [e3, e4]
        refine xm_run_go hm 40 ⟨lv, ⟨l2, e18⟩, ⟨fun q => ?_, fun _ => ⟨20 * lv + i, ⟨by omega, rfl⟩, 20 * lv + i, ⟨by omega, rfl⟩, (q0.1, q0.2, lv, t, c), ⟨ea, a1, a2, h1⟩, ?_⟩⟩⟩
        · rw [ix] at q
          exact absurd q (nI_ge (by omega) (by omega))
        · rintro o g2 ⟨rfl, h3, h4⟩
          have nx := ih (i + 1) (vThrow t c q0.1 q0.2) (by omega) (fun j q hj => by rw [show i + 1 + j = i + (j + 1) by omega]; exact hq (j + 1) q hj) hv g2 (hf.tr h4.q) h3
          rw [show 20 * lv + (i + 1) = 20 * lv + i + 1 by omega, nI_succ] at nx
          exact xm_cut hm nx
    have loop2 : ∀ d k, k + d = 6 → ∀ g1, mFq g g1 → (∀ i, i < 30 → g1.1 33 i = 0) → g1.1 33 36 = 0 → g1.1 33 37 = 0 → (∀ j, j < k → g1.1 33 (30 + j) = nI j) → xm_go xs_M xk_X9_begins [xt_X9_throwsUpon] xc_X9_begins Q (xm_drop 14 xc_X9_begins) [.ref 0, .int (nI k)] [] g1 := by
      intro d
      induction d with
      | zero =>
        intro k hk g1 hf b1 b2 b3 b4
        have hk : k = 6 := by omega
        subst hk
        have sto := hs.q hf
        have e18 : g1.1 0 18 = nI lv := sto.2.1
        have f2 : mFq g (xm_sI (xm_sI g1 0 51 (g1.1 19 lv)) 0 52 0) := (hf.f _ (Or.inl rfl)).f _ (Or.inr rfl)
        have raw : mRaw 33 v0 (xm_sI (xm_sI g1 0 51 (g1.1 19 lv)) 0 52 0) := ⟨fun i hi => by rw [xg_off _ _ _ (by decide), xg_off _ _ _ (by decide)]; exact b1 i hi, fun j hj => by rw [xg_off _ _ _ (by decide), xg_off _ _ _ (by decide)]; exact b4 j hj, by rw [xg_off _ _ _ (by decide), xg_off _ _ _ (by decide)]; exact b2, by rw [xg_off _ _ _ (by decide), xg_off _ _ _ (by decide)]; exact b3⟩
        have e18' : (xm_sI (xm_sI g1 0 51 (g1.1 19 lv)) 0 52 0).1 0 18 = nI lv := by rw [xg_in, if_neg (by decide), xg_in, if_neg (by decide)]; exact e18
        have go := loop3 sh 0 v0 (by omega) (fun j q hj => by rw [Nat.zero_add]; exact hj) rfl _ f2 ⟨ht, v0_ok t, hs.q f2, raw⟩
        have e20 : nI (20 * lv + 0) = 20 * (xm_sI (xm_sI g1 0 51 (g1.1 19 lv)) 0 52 0).1 0 18 := by rw [e18', Nat.add_zero, show (20 : Int32) = nI 20 from rfl, pk_mul]
        rw [e20] at go
        exact xm_run_go hm 40 ⟨fun _ => ⟨lv, ⟨l2, e18⟩, Or.inl rfl, xm_cut hm go⟩, fun q => absurd q (by decide)⟩
      | succ d ih =>
        intro k hk g1 hf b1 b2 b3 b4
        have nx := ih (k + 1) (by omega) (xm_sI g1 33 (30 + k) (nI k)) (hf.p _ _ (Or.inl rfl)) (fun i hi => by rw [xg_in, if_neg (by omega)]; exact b1 i hi) (by rw [xg_in, if_neg (by omega)]; exact b2) (by rw [xg_in, if_neg (by omega)]; exact b3) (fun j hj => by
          rw [xg_in]
          by_cases z : j = k
          · rw [if_pos (by omega), z]
          · rw [if_neg (by omega)]; exact b4 j (by omega))
        rw [nI_succ] at nx
        exact xm_run_go hm 40 ⟨fun z => absurd z (nI_ge (b := 6) (by omega) (by omega)), fun _ => ⟨30 + k, ⟨by omega, xn_30 k⟩, xm_cut hm nx⟩⟩
    have loop1 : ∀ d k, k + d = 38 → ∀ g1, mFq g g1 → (∀ i, i < k → g1.1 33 i = 0) → xm_go xs_M xk_X9_begins [xt_X9_throwsUpon] xc_X9_begins Q (xm_drop 2 xc_X9_begins) [.ref 0, .int (nI k)] [] g1 := by
      intro d
      induction d with
      | zero =>
        intro k hk g1 hf b1
        have hk : k = 38 := by omega
        subst hk
        have go := loop2 6 0 rfl g1 hf (fun i hi => b1 i (by omega)) (b1 36 (by decide)) (b1 37 (by decide)) (fun j hj => absurd hj (by omega))
        exact xm_run_go hm 40 ⟨fun _ => xm_cut hm go, fun q => absurd q (by decide)⟩
      | succ d ih =>
        intro k hk g1 hf b1
        have nx := ih (k + 1) (by omega) (xm_sI g1 33 k 0) (hf.p _ _ (Or.inl rfl)) (fun i hi => by
          rw [xg_in]
          by_cases z : i = k
          · rw [if_pos z]
          · rw [if_neg z]; exact b1 i (by omega))
        rw [nI_succ] at nx
        exact xm_run_go hm 40 ⟨fun z => absurd z (nI_ge (b := 38) (by omega) (by omega)), fun _ => ⟨k, ⟨by omega, rfl⟩, xm_cut hm nx⟩⟩
    exact xm_run_go hm 40 (xm_cut hm (loop1 38 0 rfl g mFq.rf (fun i hi => absurd hi (by omega))))
