-- THE CLASS READS: slides, people, who is shown what
def uSl (v1 v2 v3 : Int32) (n : Nat) (g : xG) : xG := xm_sI (xm_sI (xm_sI (xm_sI g 39 n v1) 40 n v2) 41 n v3) 38 8 (nI (n + 1))
def xt_X5_addSlide : xT := xm_fn (Z := Int32 × Int32 × Int32 × Nat) (fun (v1, v2, v3, n) av g => av = [.ref 38, .int v1, .int v2, .int v3] ∧ n < 5 ∧ g.1 38 8 = nI n) (fun _ _ => none) (fun (v1, v2, v3, n) g => uSl v1 v2 v3 n g)
set_option maxRecDepth 100000 in
set_option maxHeartbeats 400000 in
theorem xp_X5_addSlide {l : Launch} {D : va_G} {cA : Nat → ClassId} {B : List (Nat × Cell)} : xm_Met l D cA B xs_X 0 yX5_addSlide cX5_addSlide 4 none xt_X5_addSlide := by
  have hm : xm_monos [] := xm_m0
  refine xm_meth (own := RX5) (ks := xk_X5_addSlide) (C := xc_X5_addSlide) (Ts := []) (by decide +kernel) rfl xm_clsok xs_X_ok xf_X5_ok xi_X5_ok xj_X5_ok xm_lk0 xo_X5_addSlide ?_ ?_
  · rintro av g Q ⟨z, ⟨rfl, -⟩, -⟩
    exact Nat.le_of_ble_eq_true rfl
  · rintro av g Q ⟨⟨v1, v2, v3, n⟩, ⟨rfl, hn, h⟩, hQ⟩
    dsimp only at hn h hQ
    unfold uSl at hQ
    have h1 : (xm_sI g 39 n v1).1 38 8 = nI n := by rw [xg_off _ _ _ (by decide)]; exact h
    have h2 : (xm_sI (xm_sI g 39 n v1) 40 n v2).1 38 8 = nI n := by rw [xg_off _ _ _ (by decide)]; exact h1
    have h3 : (xm_sI (xm_sI (xm_sI g 39 n v1) 40 n v2) 41 n v3).1 38 8 = nI n := by rw [xg_off _ _ _ (by decide)]; exact h2
    have ge : ¬ 5 ≤ g.1 38 8 := by rw [h]; exact nI_ge (b := 5) hn (by decide)
    rw [← nI_1, ← h3] at hQ
    exact xm_run_go hm 40 ⟨fun z => absurd z ge, fun _ => ⟨n, ⟨hn, h⟩, n, ⟨hn, h1⟩, n, ⟨hn, h2⟩, hQ⟩⟩
def uPe (v1 : Int32) (n : Nat) (g : xG) : xG := xm_sI (xm_sI g 42 n v1) 38 9 (nI (n + 1))
def xt_X5_addPerson : xT := xm_fn (Z := Int32 × Nat) (fun (v1, n) av g => av = [.ref 38, .int v1] ∧ n < 6 ∧ g.1 38 9 = nI n) (fun _ _ => none) (fun (v1, n) g => uPe v1 n g)
set_option maxRecDepth 100000 in
set_option maxHeartbeats 400000 in
theorem xp_X5_addPerson {l : Launch} {D : va_G} {cA : Nat → ClassId} {B : List (Nat × Cell)} : xm_Met l D cA B xs_X 0 yX5_addPerson cX5_addPerson 2 none xt_X5_addPerson := by
  have hm : xm_monos [] := xm_m0
  refine xm_meth (own := RX5) (ks := xk_X5_addPerson) (C := xc_X5_addPerson) (Ts := []) (by decide +kernel) rfl xm_clsok xs_X_ok xf_X5_ok xi_X5_ok xj_X5_ok xm_lk0 xo_X5_addPerson ?_ ?_
  · rintro av g Q ⟨z, ⟨rfl, -⟩, -⟩
    exact Nat.le_of_ble_eq_true rfl
  · rintro av g Q ⟨⟨v1, n⟩, ⟨rfl, hn, h⟩, hQ⟩
    dsimp only at hn h hQ
    unfold uPe at hQ
    have h1 : (xm_sI g 42 n v1).1 38 9 = nI n := by rw [xg_off _ _ _ (by decide)]; exact h
    have ge : ¬ 6 ≤ g.1 38 9 := by rw [h]; exact nI_ge (b := 6) hn (by decide)
    rw [← nI_1, ← h1] at hQ
    exact xm_run_go hm 40 ⟨fun z => absurd z ge, fun _ => ⟨n, ⟨hn, h⟩, hQ⟩⟩
def uSh (v1 v2 : Int32) (n : Nat) (g : xG) : xG := xm_sI (xm_sI (xm_sI g 43 n v1) 44 n v2) 38 10 (nI (n + 1))
def xt_X5_addShown : xT := xm_fn (Z := Int32 × Int32 × Nat) (fun (v1, v2, n) av g => av = [.ref 38, .int v1, .int v2] ∧ n < 20 ∧ g.1 38 10 = nI n) (fun _ _ => none) (fun (v1, v2, n) g => uSh v1 v2 n g)
set_option maxRecDepth 100000 in
set_option maxHeartbeats 400000 in
theorem xp_X5_addShown {l : Launch} {D : va_G} {cA : Nat → ClassId} {B : List (Nat × Cell)} : xm_Met l D cA B xs_X 0 yX5_addShown cX5_addShown 3 none xt_X5_addShown := by
  have hm : xm_monos [] := xm_m0
  refine xm_meth (own := RX5) (ks := xk_X5_addShown) (C := xc_X5_addShown) (Ts := []) (by decide +kernel) rfl xm_clsok xs_X_ok xf_X5_ok xi_X5_ok xj_X5_ok xm_lk0 xo_X5_addShown ?_ ?_
  · rintro av g Q ⟨z, ⟨rfl, -⟩, -⟩
    exact Nat.le_of_ble_eq_true rfl
  · rintro av g Q ⟨⟨v1, v2, n⟩, ⟨rfl, hn, h⟩, hQ⟩
    dsimp only at hn h hQ
    unfold uSh at hQ
    have h1 : (xm_sI g 43 n v1).1 38 10 = nI n := by rw [xg_off _ _ _ (by decide)]; exact h
    have h2 : (xm_sI (xm_sI g 43 n v1) 44 n v2).1 38 10 = nI n := by rw [xg_off _ _ _ (by decide)]; exact h1
    have ge : ¬ 20 ≤ g.1 38 10 := by rw [h]; exact nI_ge (b := 20) hn (by decide)
    rw [← nI_1, ← h2] at hQ
    exact xm_run_go hm 40 ⟨fun z => absurd z ge, fun _ => ⟨n, ⟨hn, h⟩, n, ⟨hn, h1⟩, hQ⟩⟩
def xSd (s : pSt) (g : xG) : Prop := g.1 38 10 = nI (qH s).length ∧ (∀ i q, (qS s)[i]? = some q → g.1 39 i = nI q.2.1 ∧ g.1 40 i = nI q.2.2.1 ∧ g.1 41 i = nI q.2.2.2) ∧ (∀ i q, (qP s)[i]? = some q → g.1 42 i = nI q.2) ∧ (qL s = none → ∀ i q, (qH s)[i]? = some q → g.1 43 i = nI q.1 ∧ g.1 44 i = nI q.2) ∧ g.1 38 11 = nI (qD s)
def xDa (N a : Nat) (s : pSt) (g : xG) : Prop := xAt N (.inr a) g ∧ xLate (qL s) g ∧ xNs s g ∧ xSd s g
/-- what telling no law may change -/
def xFa (g g' : xG) : Prop := g'.2.2 = g.2.2 ∧ (∀ k, k ≠ 4 → k ≠ 5 → g'.2.1 k = g.2.1 k) ∧ (∀ k, k ≠ 3 → ¬ (38 ≤ k ∧ k ≤ 44) → g'.1 k = g.1 k) ∧ g'.1 38 12 = g.1 38 12 ∧ ∀ j, j < 7 → g'.1 3 j = g.1 3 j
theorem xFa.rf {g : xG} : xFa g g := ⟨rfl, fun _ _ _ => rfl, fun _ _ _ => rfl, rfl, fun _ _ => rfl⟩
theorem xFa.tr {g g1 g2 : xG} (h : xFa g g1) (h2 : xFa g1 g2) : xFa g g2 := ⟨h2.1.trans h.1, fun k a b => (h2.2.1 k a b).trans (h.2.1 k a b), fun k a b => (h2.2.2.1 k a b).trans (h.2.2.1 k a b), h2.2.2.2.1.trans h.2.2.2.1, fun j a => (h2.2.2.2.2 j a).trans (h.2.2.2.2 j a)⟩
theorem xFw.a {g g' : xG} (h : xFw g g') : xFa g g' := ⟨by rw [h.1], fun k _ _ => by rw [h.1], fun k a _ => h.2.1 k a, by rw [h.2.1 38 (by decide)], fun j a => h.2.2 j (Or.inl a)⟩
theorem xFa.pL {g g1 : xG} (h : xFa g g1) {c : Nat} (m : Nat) (x : Int64) (hc : c = 4 ∨ c = 5) : xFa g (xm_sL g1 c m x) := ⟨h.1, fun k a b => by rw [xgL_off _ _ _ (by omega)]; exact h.2.1 k a b, h.2.2.1, h.2.2.2.1, h.2.2.2.2⟩
theorem xFa.pc {g g1 : xG} (h : xFa g g1) {k : Nat} (j : Nat) (v : Int32) (hk : 39 ≤ k ∧ k ≤ 44) : xFa g (xm_sI g1 k j v) := ⟨h.1, h.2.1, fun i a b => by rw [xg_off _ _ _ (by omega)]; exact h.2.2.1 i a b, by rw [xg_off _ _ _ (by omega)]; exact h.2.2.2.1, fun i a => by rw [xg_off _ _ _ (by omega)]; exact h.2.2.2.2 i a⟩
theorem xFa.p8 {g g1 : xG} (h : xFa g g1) {j : Nat} (v : Int32) (hj : j ≠ 12) : xFa g (xm_sI g1 38 j v) := ⟨h.1, h.2.1, fun i a b => by rw [xg_off _ _ _ (by omega)]; exact h.2.2.1 i a b, by rw [xg_in, if_neg (by omega)]; exact h.2.2.2.1, fun i a => by rw [xg_off _ _ _ (by decide)]; exact h.2.2.2.2 i a⟩
theorem xTk.nl {k : vTk} {N : Nat} {g : xG} (h : xTk k N g) {c : Nat} (m : Nat) (x : Int64) (hc : c ≠ 10) : xTk k N (xm_sL g c m x) := ⟨h.1, h.2.1, fun i hi => by rw [xgL_off _ _ _ (Ne.symm hc)]; exact h.2.2 i hi⟩
theorem xTk.a {k : vTk} {N : Nat} {g g' : xG} (h : xTk k N g) (f : xFa g g') : xTk k N g' := ⟨h.1, h.2.1, fun i hi => by rw [f.2.2.1 8 (by decide) (by decide), f.2.2.1 9 (by decide) (by decide), f.2.1 10 (by decide) (by decide)]; exact h.2.2 i hi⟩
theorem xNl.put {c : Nat} {L : List (List Nat)} {n : List Nat} {g : xG} (h : xNl c L g) (hn : pNok n) {g' : xG} (e : ∀ i, g'.2.1 c i = if i = L.length then pNm 32 n else g.2.1 c i) : xNl c (L ++ [n]) g' := fun i q hq => by
  rw [e]
  rcases app_get hq with ⟨a, b⟩ | ⟨rfl, rfl⟩
  · rw [if_neg (by omega)]; exact h i q b
  · rw [if_pos rfl]; exact ⟨rfl, hn⟩
def pSlB (k : vTk) (n a : Nat) : pF ⊕ Nat := pBn (pBn (pBn (pBn (pRo k n 5 a) (pMu k 2)) (pMu k 3)) (pMu k 3)) (pMu k 3)
def xt_X1_readSlide : xT := xm_rl (Z := vTk × Nat × Nat × pSt) (fun (k, N, a, s) av g => av = [.ref 3] ∧ xTk k N g ∧ pKk k N ∧ xDa N a s g ∧ k.1 a ≠ 0 ∧ k.1 a ≠ 1)
  (fun (k, N, a, s) g o g' => o = none ∧ xFa g g' ∧ xAt N (pSlB k (qS s).length a) g' ∧ ∀ b, pSlB k (qS s).length a = .inr b → xLate (qL (pSlS k (a + 1) s)) g' ∧ xNs (pSlS k (a + 1) s) g' ∧ xSd (pSlS k (a + 1) s) g')
set_option maxRecDepth 100000 in
set_option maxHeartbeats 400000 in
theorem xp_X1_readSlide {l : Launch} {D : va_G} {cA : Nat → ClassId} {B : List (Nat × Cell)} : xm_Met l D cA B xs_X 3 yX1_readSlide cX1_readSlide 5 none xt_X1_readSlide := by
  have hm : xm_monos [xt_X1_fail, xt_X1_take, xt_X1_newName, xt_X1_number, xt_X5_addSlide] := ⟨(by first | exact xm_fn_mono _ _ _ | exact xm_rl_mono _ _), (by first | exact xm_fn_mono _ _ _ | exact xm_rl_mono _ _), (by first | exact xm_fn_mono _ _ _ | exact xm_rl_mono _ _), (by first | exact xm_fn_mono _ _ _ | exact xm_rl_mono _ _), (by first | exact xm_fn_mono _ _ _ | exact xm_rl_mono _ _), trivial⟩
  refine xm_meth (own := RX1) (ks := xk_X1_readSlide) (C := xc_X1_readSlide) (Ts := [xt_X1_fail, xt_X1_take, xt_X1_newName, xt_X1_number, xt_X5_addSlide]) (by decide +kernel) rfl xm_clsok xs_X_ok xf_X1_ok xi_X1_ok xj_X1_ok (xm_lk xl_X1_88 xp_X1_fail (by decide) (xm_lk xl_X1_77 xp_X1_take (by decide) (xm_lk xl_X1_94 xp_X1_newName (by decide) (xm_lk xl_X1_81 xp_X1_number (by decide) (xm_lk xl_X1_98 xp_X5_addSlide (by decide) xm_lk0))))) xo_X1_readSlide ?_ ?_
  · rintro av g Q ⟨z, ⟨rfl, -⟩, -⟩
    exact Nat.le_of_ble_eq_true rfl
  · rintro av g Q ⟨⟨k, N, a, s⟩, ⟨rfl, tk, kk, ⟨hat, hlt, ns, sd⟩, k0, k1⟩, hQ⟩
    dsimp only at tk kk hat hlt ns sd k0 k1 hQ
    obtain ⟨⟨n1, n2, n3⟩, n4, n5, n6⟩ := id ns
    have hl : (pNs s).length = (qS s).length := by unfold pNs; rw [List.length_map]
    obtain ⟨h8, h7, aN⟩ := id hat
    have a4 : a ≤ 400 := by have := tk.1; omega
    rw [hl] at n2 n3
    by_cases c5 : (qS s).length = 5
    · have e : pRo k (qS s).length 5 a = .inl (2, k.2.1 a) := by unfold pRo; rw [if_pos c5]
      have eB : pSlB k (qS s).length a = .inl (2, k.2.1 a) := by unfold pSlB; rw [e]; rfl
      rw [eB] at hQ
      have ge : 5 ≤ g.1 38 8 := by rw [n2, c5]; decide
      have fin := hQ none (uFail 2 a g) ⟨rfl, (xFw.rf.fl 2 a).a, uFail_ft (f := 2) h8 (Or.inr rfl) a4 h7 (tk.2.2 a aN).2.1, (fun b hb => by cases hb)⟩
      exact xm_run_go hm 40 ⟨fun z => absurd ge (Int32.not_le.mpr z), fun _ => ⟨(2, a), ⟨rfl, a4, h7⟩, fin⟩⟩
    · have m5 : (qS s).length < 5 := by omega
      have lt : g.1 38 8 < 5 := by rw [n2]; exact nI_lt (b := 5) m5 (by decide)
      obtain ⟨r1, hr1⟩ : ∃ r, pRo k (qS s).length 5 a = r := ⟨_, rfl⟩
      have er1 : pBn (.inr a) (pGo k) = r1 := by rw [← hr1, pBn_r]; unfold pRo; rw [if_neg c5]
      obtain ⟨at1, -⟩ := hat.go tk a4 h7 (fun b hb => by cases hb; exact ⟨k0, k1⟩)
      rw [er1] at at1
      have f1 : xFw g (uTake true a g) := xFw.rf.tk true a
      have x1 : ∀ y, r1 = .inr y → y = a + 1 := fun y hy => by rw [hy] at hr1; exact (pRo_i.mp hr1).2.2
      have lq1 : xLq r1 (qL s) (uTake true a g) := fun y _ => hlt.k (uTake_late _ _ _ 10 (by decide)) (uTake_late _ _ _ 11 (by decide))
      refine xm_run_go hm 120 ⟨fun _ => ⟨(true, a), ⟨rfl, a4, h7⟩, (k, N, r1, qL s, s), ⟨rfl, tk.w f1, kk, at1, lq1, ns.w f1⟩, ?_⟩, fun z => absurd lt (Int32.not_lt.mpr z)⟩
      rintro o2 g2 ⟨x, rfl, f2, at2, c2⟩
      obtain ⟨r2, hr2⟩ : ∃ r, pBn r1 (pMu k 2) = r := ⟨_, rfl⟩
      have x2 : ∀ y, r2 = .inr y → y = a + 2 := fun y hy => pCh (hr2.trans hy) x1
      rw [hr2] at at2 c2
      obtain ⟨l2, hl2⟩ : ∃ l, l = pLt (qL s) (pDp s (k.2.2.2 (a + 1))) 3 (k.2.1 (a + 1)) := ⟨_, rfl⟩
      have tk2 := (tk.w f1).w f2
      have ix : g.1 38 8 = nI (qS s).length := n2
      have lq2 : xLq r2 l2 (xm_sL g2 4 (qS s).length x) := fun y hy => by have e := x2 y hy; subst e; rw [hl2]; exact (c2 (a + 1) hy).2
      refine ⟨(qS s).length, ⟨m5, ix⟩, (k, N, r2, l2, 0, 5), ⟨rfl, by decide, by decide, tk2.nl _ _ (by decide), at2, lq2⟩, ?_⟩
      rintro o3 g3 ⟨v1, rfl, f3, at3, c3⟩
      obtain ⟨r3, hr3⟩ : ∃ r, pBn r2 (pMu k 3) = r := ⟨_, rfl⟩
      have x3 : ∀ y, r3 = .inr y → y = a + 3 := fun y hy => pCh (hr3.trans hy) x2
      rw [hr3] at at3 c3
      obtain ⟨l3, hl3⟩ : ∃ l, l = pLt l2 (pOut (k.2.2.1 (a + 2)) 0 5) 5 (k.2.1 (a + 2)) := ⟨_, rfl⟩
      have tk3 := (tk2.nl (qS s).length x (c := 4) (by decide)).w f3
      have lq3 : xLq r3 l3 g3 := fun y hy => by have e := x3 y hy; subst e; rw [hl3]; exact (c3 (a + 2) hy).2
      refine ⟨(k, N, r3, l3, 0, 5), ⟨rfl, by decide, by decide, tk3, at3, lq3⟩, ?_⟩
      rintro o4 g4 ⟨v2, rfl, f4, at4, c4⟩
      obtain ⟨r4, hr4⟩ : ∃ r, pBn r3 (pMu k 3) = r := ⟨_, rfl⟩
      have x4 : ∀ y, r4 = .inr y → y = a + 4 := fun y hy => pCh (hr4.trans hy) x3
      rw [hr4] at at4 c4
      obtain ⟨l4, hl4⟩ : ∃ l, l = pLt l3 (pOut (k.2.2.1 (a + 3)) 0 5) 5 (k.2.1 (a + 3)) := ⟨_, rfl⟩
      have lq4 : xLq r4 l4 g4 := fun y hy => by have e := x4 y hy; subst e; rw [hl4]; exact (c4 (a + 3) hy).2
      refine ⟨(k, N, r4, l4, 1, 20), ⟨rfl, by decide, by decide, tk3.w f4, at4, lq4⟩, ?_⟩
      rintro o5 g5 ⟨v3, rfl, f5, at5, c5'⟩
      obtain ⟨r5, hr5⟩ : ∃ r, pBn r4 (pMu k 3) = r := ⟨_, rfl⟩
      rw [hr5] at at5 c5'
      have eB : pSlB k (qS s).length a = r5 := by unfold pSlB; rw [hr1, hr2, hr3, hr4, hr5]
      rw [eB] at hQ
      have fw : xFw (xm_sL g2 4 (qS s).length x) g5 := (f3.tr f4).tr f5
      have k5 : ∀ c, c ≠ 3 → g5.1 c = g.1 c := fun c hc => by
        rw [fw.2.1 c hc]
        show g2.1 c = _
        rw [f2.2.1 c hc, f1.2.1 c hc]
      have e8 : g5.1 38 8 = nI (qS s).length := by rw [k5 38 (by decide)]; exact n2
      have fa : xFa g (uSl v1 v2 v3 (qS s).length g5) := by
        unfold uSl
        exact ((((((f1.tr f2).a.pL _ _ (Or.inl rfl)).tr fw.a).pc _ _ ⟨by decide, by decide⟩).pc _ _ ⟨by decide, by decide⟩).pc _ _ ⟨by decide, by decide⟩).p8 _ (by decide)
      have u3 : ∀ j, (uSl v1 v2 v3 (qS s).length g5).1 3 j = g5.1 3 j := fun j => by unfold uSl; rw [xg_off _ _ _ (by decide), xg_off _ _ _ (by decide), xg_off _ _ _ (by decide), xg_off _ _ _ (by decide)]
      have at6 : xAt N r5 (uSl v1 v2 v3 (qS s).length g5) := at5.k (fun j _ _ => u3 j)
      have fin := hQ none (uSl v1 v2 v3 (qS s).length g5) ⟨rfl, fa, at6, fun b hb => by
        obtain ⟨y4, hy4, -, -, e5⟩ := pCi (hr5.trans hb)
        obtain ⟨y3, hy3, -, -, e4⟩ := pCi (hr4.trans hy4)
        obtain ⟨y2, hy2, -, -, e3⟩ := pCi (hr3.trans hy3)
        obtain ⟨y1, hy1, k2, -, e2⟩ := pCi (hr2.trans hy2)
        have e1 := x1 y1 hy1
        subst e1 e2 e3 e4 e5
        obtain ⟨ex, lt2⟩ := c2 (a + 1) hy2
        obtain ⟨ev1, lt3⟩ := c3 (a + 1 + 1) hy3
        obtain ⟨ev2, lt4⟩ := c4 (a + 1 + 1 + 1) hy4
        obtain ⟨ev3, lt5⟩ := c5' (a + 1 + 1 + 1 + 1) hb
        have aN1 : a + 1 ≤ N := by
          rw [hy1] at at1
          exact at1.2.2
        have nok := (kk.1 (a + 1) aN1).1 k2
        have el : pLt l4 (pOut (k.2.2.1 (a + 1 + 1 + 1 + 1)) 1 20) 5 (k.2.1 (a + 1 + 1 + 1 + 1)) = qL (pSlS k (a + 1) s) := by rw [hl4, hl3, hl2]; rfl
        refine ⟨?_, ⟨⟨?_, ?_, ?_⟩, ?_, ?_, ?_⟩, ?_⟩
        · rw [← el]; exact lt5.k (u3 10) (u3 11)
        · have eN : pNs (pSlS k (a + 1) s) = pNs s ++ [k.2.2.2 (a + 1)] := by unfold pNs; show ((qS s) ++ [_]).map _ = _; rw [List.map_append]; rfl
          rw [eN]
          refine n1.put nok (fun i => ?_)
          show g5.2.1 4 i = _
          rw [fw.1]
          show (xm_sL g2 4 (qS s).length x).2.1 4 i = _
          rw [xgL_in, hl, ex, f2.1, f1.1]
        · unfold uSl
          rw [xg_in, if_pos rfl]
          unfold pNs; rw [List.length_map]
          show _ = nI (qS s ++ [_]).length
          rw [List.length_append]; rfl
        · unfold pNs; rw [List.length_map]
          show (qS s ++ [_]).length ≤ 5
          rw [List.length_append]; exact m5
        · intro i q hq
          show g5.2.1 5 i = _ ∧ _
          rw [fw.1]
          show (xm_sL g2 4 (qS s).length x).2.1 5 i = _ ∧ _
          rw [xgL_off _ _ _ (by decide), f2.1, f1.1]
          exact n4 i q hq
        · unfold uSl
          rw [xg_in, if_neg (by decide), xg_off _ _ _ (by decide), xg_off _ _ _ (by decide), xg_off _ _ _ (by decide), k5 38 (by decide)]; exact n5
        · exact n6
        · obtain ⟨s1, s2, s3, s4, s5⟩ := sd
          unfold uSl
          refine ⟨by rw [xg_in, if_neg (by decide), xg_off _ _ _ (by decide), xg_off _ _ _ (by decide), xg_off _ _ _ (by decide), k5 38 (by decide)]; exact s1, fun i q hq => ?_, fun i q hq => by rw [xg_off _ _ _ (by decide), xg_off _ _ _ (by decide), xg_off _ _ _ (by decide), xg_off _ _ _ (by decide), k5 42 (by decide)]; exact s3 i q hq, fun hn i q hq => by rw [xg_off _ _ _ (by decide), xg_off _ _ _ (by decide), xg_off _ _ _ (by decide), xg_off _ _ _ (by decide), k5 43 (by decide), xg_off _ _ _ (by decide), xg_off _ _ _ (by decide), xg_off _ _ _ (by decide), xg_off _ _ _ (by decide), k5 44 (by decide)]; exact s4 (pLt_n (pLt_n (pLt_n (pLt_n hn).1).1).1).1 i q hq, by rw [xg_in, if_neg (by decide), xg_off _ _ _ (by decide), xg_off _ _ _ (by decide), xg_off _ _ _ (by decide), k5 38 (by decide)]; exact s5⟩
          rw [xg_off _ _ _ (by decide), xg_off _ _ _ (by decide), xg_off _ _ _ (by decide), xg_in, k5 39 (by decide), xg_off _ _ _ (by decide), xg_off _ _ _ (by decide), xg_in, xg_off _ _ _ (by decide), k5 40 (by decide), xg_off _ _ _ (by decide), xg_in, xg_off _ _ _ (by decide), xg_off _ _ _ (by decide), k5 41 (by decide)]
          rcases app_get hq with ⟨c, hq⟩ | ⟨rfl, rfl⟩
          · rw [if_neg (by omega), if_neg (by omega), if_neg (by omega)]; exact s2 i q hq
          · rw [if_pos rfl, if_pos rfl, if_pos rfl]; exact ⟨ev1, ev2, ev3⟩⟩
      exact ⟨(v1, v2, v3, (qS s).length), ⟨rfl, m5, e8⟩, fin⟩
def pPeB (k : vTk) (n a : Nat) : pF ⊕ Nat := pBn (pBn (pRo k n 6 a) (pMu k 2)) (pMu k 3)
def xt_X1_readPerson : xT := xm_rl (Z := vTk × Nat × Nat × pSt) (fun (k, N, a, s) av g => av = [.ref 3] ∧ xTk k N g ∧ pKk k N ∧ xDa N a s g ∧ k.1 a ≠ 0 ∧ k.1 a ≠ 1)
  (fun (k, N, a, s) g o g' => o = none ∧ xFa g g' ∧ xAt N (pPeB k (qP s).length a) g' ∧ ∀ b, pPeB k (qP s).length a = .inr b → xLate (qL (pPeS k (a + 1) s)) g' ∧ xNs (pPeS k (a + 1) s) g' ∧ xSd (pPeS k (a + 1) s) g')
set_option maxRecDepth 100000 in
set_option maxHeartbeats 400000 in
theorem xp_X1_readPerson {l : Launch} {D : va_G} {cA : Nat → ClassId} {B : List (Nat × Cell)} : xm_Met l D cA B xs_X 3 yX1_readPerson cX1_readPerson 2 none xt_X1_readPerson := by
  have hm : xm_monos [xt_X1_fail, xt_X1_take, xt_X1_newName, xt_X1_number, xt_X5_addPerson] := ⟨(by first | exact xm_fn_mono _ _ _ | exact xm_rl_mono _ _), (by first | exact xm_fn_mono _ _ _ | exact xm_rl_mono _ _), (by first | exact xm_fn_mono _ _ _ | exact xm_rl_mono _ _), (by first | exact xm_fn_mono _ _ _ | exact xm_rl_mono _ _), (by first | exact xm_fn_mono _ _ _ | exact xm_rl_mono _ _), trivial⟩
  refine xm_meth (own := RX1) (ks := xk_X1_readPerson) (C := xc_X1_readPerson) (Ts := [xt_X1_fail, xt_X1_take, xt_X1_newName, xt_X1_number, xt_X5_addPerson]) (by decide +kernel) rfl xm_clsok xs_X_ok xf_X1_ok xi_X1_ok xj_X1_ok (xm_lk xl_X1_88 xp_X1_fail (by decide) (xm_lk xl_X1_77 xp_X1_take (by decide) (xm_lk xl_X1_94 xp_X1_newName (by decide) (xm_lk xl_X1_81 xp_X1_number (by decide) (xm_lk xl_X1_105 xp_X5_addPerson (by decide) xm_lk0))))) xo_X1_readPerson ?_ ?_
  · rintro av g Q ⟨z, ⟨rfl, -⟩, -⟩
    exact Nat.le_of_ble_eq_true rfl
  · rintro av g Q ⟨⟨k, N, a, s⟩, ⟨rfl, tk, kk, ⟨hat, hlt, ns, sd⟩, k0, k1⟩, hQ⟩
    dsimp only at tk kk hat hlt ns sd k0 k1 hQ
    obtain ⟨⟨n1, n2, n3⟩, n4, n5, n6⟩ := id ns
    have hl : (pNp s).length = (qP s).length := by unfold pNp; rw [List.length_map]
    obtain ⟨h8, h7, aN⟩ := id hat
    have a4 : a ≤ 400 := by have := tk.1; omega
    rw [hl] at n5 n6
    by_cases c5 : (qP s).length = 6
    · have e : pRo k (qP s).length 6 a = .inl (2, k.2.1 a) := by unfold pRo; rw [if_pos c5]
      have eB : pPeB k (qP s).length a = .inl (2, k.2.1 a) := by unfold pPeB; rw [e]; rfl
      rw [eB] at hQ
      have ge : 6 ≤ g.1 38 9 := by rw [n5, c5]; decide
      have fin := hQ none (uFail 2 a g) ⟨rfl, (xFw.rf.fl 2 a).a, uFail_ft (f := 2) h8 (Or.inr rfl) a4 h7 (tk.2.2 a aN).2.1, (fun b hb => by cases hb)⟩
      exact xm_run_go hm 40 ⟨fun z => absurd ge (Int32.not_le.mpr z), fun _ => ⟨(2, a), ⟨rfl, a4, h7⟩, fin⟩⟩
    · have m5 : (qP s).length < 6 := by omega
      have lt : g.1 38 9 < 6 := by rw [n5]; exact nI_lt (b := 6) m5 (by decide)
      obtain ⟨r1, hr1⟩ : ∃ r, pRo k (qP s).length 6 a = r := ⟨_, rfl⟩
      have er1 : pBn (.inr a) (pGo k) = r1 := by rw [← hr1, pBn_r]; unfold pRo; rw [if_neg c5]
      obtain ⟨at1, -⟩ := hat.go tk a4 h7 (fun b hb => by cases hb; exact ⟨k0, k1⟩)
      rw [er1] at at1
      have f1 : xFw g (uTake true a g) := xFw.rf.tk true a
      have x1 : ∀ y, r1 = .inr y → y = a + 1 := fun y hy => by rw [hy] at hr1; exact (pRo_i.mp hr1).2.2
      have lq1 : xLq r1 (qL s) (uTake true a g) := fun y _ => hlt.k (uTake_late _ _ _ 10 (by decide)) (uTake_late _ _ _ 11 (by decide))
      refine xm_run_go hm 120 ⟨fun _ => ⟨(true, a), ⟨rfl, a4, h7⟩, (k, N, r1, qL s, s), ⟨rfl, tk.w f1, kk, at1, lq1, ns.w f1⟩, ?_⟩, fun z => absurd lt (Int32.not_lt.mpr z)⟩
      rintro o2 g2 ⟨x, rfl, f2, at2, c2⟩
      obtain ⟨r2, hr2⟩ : ∃ r, pBn r1 (pMu k 2) = r := ⟨_, rfl⟩
      have x2 : ∀ y, r2 = .inr y → y = a + 2 := fun y hy => pCh (hr2.trans hy) x1
      rw [hr2] at at2 c2
      obtain ⟨l2, hl2⟩ : ∃ l, l = pLt (qL s) (pDp s (k.2.2.2 (a + 1))) 3 (k.2.1 (a + 1)) := ⟨_, rfl⟩
      have tk2 := (tk.w f1).w f2
      have ix : g.1 38 9 = nI (qP s).length := n5
      have lq2 : xLq r2 l2 (xm_sL g2 5 (qP s).length x) := fun y hy => by have e := x2 y hy; subst e; rw [hl2]; exact (c2 (a + 1) hy).2
      refine ⟨(qP s).length, ⟨m5, ix⟩, (k, N, r2, l2, 0, 9), ⟨rfl, by decide, by decide, tk2.nl _ _ (by decide), at2, lq2⟩, ?_⟩
      rintro o3 g3 ⟨v1, rfl, f3, at3, c3⟩
      obtain ⟨r3, hr3⟩ : ∃ r, pBn r2 (pMu k 3) = r := ⟨_, rfl⟩
      rw [hr3] at at3 c3
      have eB : pPeB k (qP s).length a = r3 := by unfold pPeB; rw [hr1, hr2, hr3]
      rw [eB] at hQ
      have fw : xFw (xm_sL g2 5 (qP s).length x) g3 := f3
      have k5 : ∀ c, c ≠ 3 → g3.1 c = g.1 c := fun c hc => by
        rw [fw.2.1 c hc]
        show g2.1 c = _
        rw [f2.2.1 c hc, f1.2.1 c hc]
      have e8 : g3.1 38 9 = nI (qP s).length := by rw [k5 38 (by decide)]; exact n5
      have fa : xFa g (uPe v1 (qP s).length g3) := by
        unfold uPe
        exact ((((f1.tr f2).a.pL _ _ (Or.inr rfl)).tr fw.a).pc _ _ ⟨by decide, by decide⟩).p8 _ (by decide)
      have u3 : ∀ j, (uPe v1 (qP s).length g3).1 3 j = g3.1 3 j := fun j => by unfold uPe; rw [xg_off _ _ _ (by decide), xg_off _ _ _ (by decide)]
      have at6 : xAt N r3 (uPe v1 (qP s).length g3) := at3.k (fun j _ _ => u3 j)
      have fin := hQ none (uPe v1 (qP s).length g3) ⟨rfl, fa, at6, fun b hb => by
        obtain ⟨y2, hy2, -, -, e3⟩ := pCi (hr3.trans hb)
        obtain ⟨y1, hy1, k2, -, e2⟩ := pCi (hr2.trans hy2)
        have e1 := x1 y1 hy1
        subst e1 e2 e3
        obtain ⟨ex, lt2⟩ := c2 (a + 1) hy2
        obtain ⟨ev1, lt3⟩ := c3 (a + 1 + 1) hb
        have aN1 : a + 1 ≤ N := by
          rw [hy1] at at1
          exact at1.2.2
        have nok := (kk.1 (a + 1) aN1).1 k2
        have el : pLt l2 (pOut (k.2.2.1 (a + 1 + 1)) 0 9) 5 (k.2.1 (a + 1 + 1)) = qL (pPeS k (a + 1) s) := by rw [hl2]; rfl
        refine ⟨?_, ⟨⟨?_, ?_, n3⟩, ?_, ?_, ?_⟩, ?_⟩
        · rw [← el]; exact lt3.k (u3 10) (u3 11)
        · intro i q hq
          show g3.2.1 4 i = _ ∧ _
          rw [fw.1]
          show (xm_sL g2 5 (qP s).length x).2.1 4 i = _ ∧ _
          rw [xgL_off _ _ _ (by decide), f2.1, f1.1]
          exact n1 i q hq
        · unfold uPe
          rw [xg_in, if_neg (by decide), xg_off _ _ _ (by decide), k5 38 (by decide)]; exact n2
        · have eN : pNp (pPeS k (a + 1) s) = pNp s ++ [k.2.2.2 (a + 1)] := by unfold pNp; show ((qP s) ++ [_]).map _ = _; rw [List.map_append]; rfl
          rw [eN]
          refine n4.put nok (fun i => ?_)
          show g3.2.1 5 i = _
          rw [fw.1]
          show (xm_sL g2 5 (qP s).length x).2.1 5 i = _
          rw [xgL_in, hl, ex, f2.1, f1.1]
        · unfold uPe
          rw [xg_in, if_pos rfl]
          unfold pNp; rw [List.length_map]
          show _ = nI (qP s ++ [_]).length
          rw [List.length_append]; rfl
        · unfold pNp; rw [List.length_map]
          show (qP s ++ [_]).length ≤ 6
          rw [List.length_append]; exact m5
        · obtain ⟨s1, s2, s3, s4, s5⟩ := sd
          unfold uPe
          refine ⟨by rw [xg_in, if_neg (by decide), xg_off _ _ _ (by decide), k5 38 (by decide)]; exact s1, fun i q hq => by rw [xg_off _ _ _ (by decide), xg_off _ _ _ (by decide), k5 39 (by decide), xg_off _ _ _ (by decide), xg_off _ _ _ (by decide), k5 40 (by decide), xg_off _ _ _ (by decide), xg_off _ _ _ (by decide), k5 41 (by decide)]; exact s2 i q hq, fun i q hq => ?_, fun hn i q hq => by rw [xg_off _ _ _ (by decide), xg_off _ _ _ (by decide), k5 43 (by decide), xg_off _ _ _ (by decide), xg_off _ _ _ (by decide), k5 44 (by decide)]; exact s4 (pLt_n (pLt_n hn).1).1 i q hq, by rw [xg_in, if_neg (by decide), xg_off _ _ _ (by decide), k5 38 (by decide)]; exact s5⟩
          rw [xg_off _ _ _ (by decide), xg_in, k5 42 (by decide)]
          rcases app_get hq with ⟨c, hq⟩ | ⟨rfl, rfl⟩
          · rw [if_neg (by omega)]; exact s3 i q hq
          · rw [if_pos rfl]; exact ev1⟩
      exact ⟨(v1, (qP s).length), ⟨rfl, m5, e8⟩, fin⟩
def pShB (k : vTk) (n a : Nat) : pF ⊕ Nat := pBn (pBn (pRo k n 20 a) (pMu k 2)) (pMu k 2)
def xt_X1_readShown : xT := xm_rl (Z := vTk × Nat × Nat × pSt) (fun (k, N, a, s) av g => av = [.ref 3] ∧ xTk k N g ∧ pKk k N ∧ xDa N a s g ∧ (qH s).length ≤ 20 ∧ k.1 a ≠ 0 ∧ k.1 a ≠ 1)
  (fun (k, N, a, s) g o g' => o = none ∧ xFa g g' ∧ xAt N (pShB k (qH s).length a) g' ∧ ∀ b, pShB k (qH s).length a = .inr b → xLate (qL (pShS k (a + 1) s)) g' ∧ xNs (pShS k (a + 1) s) g' ∧ xSd (pShS k (a + 1) s) g')
set_option maxRecDepth 100000 in
set_option maxHeartbeats 400000 in
theorem xp_X1_readShown {l : Launch} {D : va_G} {cA : Nat → ClassId} {B : List (Nat × Cell)} : xm_Met l D cA B xs_X 3 yX1_readShown cX1_readShown 3 none xt_X1_readShown := by
  have hm : xm_monos [xt_X1_fail, xt_X1_take, xt_X1_knownName, xt_X5_addShown] := ⟨(by first | exact xm_fn_mono _ _ _ | exact xm_rl_mono _ _), (by first | exact xm_fn_mono _ _ _ | exact xm_rl_mono _ _), (by first | exact xm_fn_mono _ _ _ | exact xm_rl_mono _ _), (by first | exact xm_fn_mono _ _ _ | exact xm_rl_mono _ _), trivial⟩
  refine xm_meth (own := RX1) (ks := xk_X1_readShown) (C := xc_X1_readShown) (Ts := [xt_X1_fail, xt_X1_take, xt_X1_knownName, xt_X5_addShown]) (by decide +kernel) rfl xm_clsok xs_X_ok xf_X1_ok xi_X1_ok xj_X1_ok (xm_lk xl_X1_88 xp_X1_fail (by decide) (xm_lk xl_X1_77 xp_X1_take (by decide) (xm_lk xl_X1_111 xp_X1_knownName (by decide) (xm_lk xl_X1_115 xp_X5_addShown (by decide) xm_lk0)))) xo_X1_readShown ?_ ?_
  · rintro av g Q ⟨z, ⟨rfl, -⟩, -⟩
    exact Nat.le_of_ble_eq_true rfl
  · rintro av g Q ⟨⟨k, N, a, s⟩, ⟨rfl, tk, kk, ⟨hat, hlt, ns, sd⟩, h20, k0, k1⟩, hQ⟩
    dsimp only at tk kk hat hlt ns sd h20 k0 k1 hQ
    obtain ⟨⟨n1, n2, n3⟩, n4, n5, n6⟩ := id ns
    obtain ⟨s1, s2, s3, s4, s5⟩ := id sd
    obtain ⟨h8, h7, aN⟩ := id hat
    have a4 : a ≤ 400 := by have := tk.1; omega
    by_cases c5 : (qH s).length = 20
    · have e : pRo k (qH s).length 20 a = .inl (2, k.2.1 a) := by unfold pRo; rw [if_pos c5]
      have eB : pShB k (qH s).length a = .inl (2, k.2.1 a) := by unfold pShB; rw [e]; rfl
      rw [eB] at hQ
      have ge : 20 ≤ g.1 38 10 := by rw [s1, c5]; decide
      have fin := hQ none (uFail 2 a g) ⟨rfl, (xFw.rf.fl 2 a).a, uFail_ft (f := 2) h8 (Or.inr rfl) a4 h7 (tk.2.2 a aN).2.1, (fun b hb => by cases hb)⟩
      exact xm_run_go hm 40 ⟨fun z => absurd ge (Int32.not_le.mpr z), fun _ => ⟨(2, a), ⟨rfl, a4, h7⟩, fin⟩⟩
    · have m5 : (qH s).length < 20 := by omega
      have lt : g.1 38 10 < 20 := by rw [s1]; exact nI_lt (b := 20) m5 (by decide)
      obtain ⟨r1, hr1⟩ : ∃ r, pRo k (qH s).length 20 a = r := ⟨_, rfl⟩
      have er1 : pBn (.inr a) (pGo k) = r1 := by rw [← hr1, pBn_r]; unfold pRo; rw [if_neg c5]
      obtain ⟨at1, -⟩ := hat.go tk a4 h7 (fun b hb => by cases hb; exact ⟨k0, k1⟩)
      rw [er1] at at1
      have f1 : xFw g (uTake true a g) := xFw.rf.tk true a
      have x1 : ∀ y, r1 = .inr y → y = a + 1 := fun y hy => by rw [hy] at hr1; exact (pRo_i.mp hr1).2.2
      have lq1 : xLq r1 (qL s) (uTake true a g) := fun y _ => hlt.k (uTake_late _ _ _ 10 (by decide)) (uTake_late _ _ _ 11 (by decide))
      obtain ⟨⟨p1, p2, p3⟩, p4, p5, p6⟩ := ns.w f1
      have e1 : [Value.ref 3, .ref 5, .int ((uTake true a g).1 38 9)] = [Value.ref 3, .ref 5, .int (nI (pNp s).length)] := by rw [p5]
      refine xm_run_go hm 120 ⟨fun _ => ⟨(true, a), ⟨rfl, a4, h7⟩, (k, N, r1, qL s, false, pNp s), ⟨e1, tk.w f1, kk, at1, lq1, p6, p4⟩, ?_⟩, fun z => absurd lt (Int32.not_lt.mpr z)⟩
      rintro o2 g2 ⟨v1, rfl, f2, at2, c2⟩
      obtain ⟨r2, hr2⟩ : ∃ r, pBn r1 (pMu k 2) = r := ⟨_, rfl⟩
      have x2 : ∀ y, r2 = .inr y → y = a + 2 := fun y hy => pCh (hr2.trans hy) x1
      rw [hr2] at at2 c2
      obtain ⟨l2, hl2⟩ : ∃ l, l = pLt (qL s) (pFd (k.2.2.2 (a + 1)) (pNp s)).isNone 4 (k.2.1 (a + 1)) := ⟨_, rfl⟩
      have tk2 := (tk.w f1).w f2
      obtain ⟨⟨q1, q2, q3⟩, q4, q5, q6⟩ := (ns.w f1).w f2
      have e2 : [Value.ref 3, .ref 4, .int (g2.1 38 8)] = [Value.ref 3, .ref 4, .int (nI (pNs s).length)] := by rw [q2]
      have lq2 : xLq r2 l2 g2 := fun y hy => by have e := x2 y hy; subst e; rw [hl2]; exact (c2 (a + 1) hy).2
      refine ⟨(k, N, r2, l2, true, pNs s), ⟨e2, tk2, kk, at2, lq2, q3, q1⟩, ?_⟩
      rintro o3 g3 ⟨v2, rfl, f3, at3, c3⟩
      obtain ⟨r3, hr3⟩ : ∃ r, pBn r2 (pMu k 2) = r := ⟨_, rfl⟩
      rw [hr3] at at3 c3
      have eB : pShB k (qH s).length a = r3 := by unfold pShB; rw [hr1, hr2, hr3]
      rw [eB] at hQ
      have fw : xFw g g3 := (f1.tr f2).tr f3
      have k5 : ∀ c, c ≠ 3 → g3.1 c = g.1 c := fun c hc => fw.2.1 c hc
      have e8 : g3.1 38 10 = nI (qH s).length := by rw [k5 38 (by decide)]; exact s1
      have fa : xFa g (uSh v1 v2 (qH s).length g3) := by
        unfold uSh
        exact ((fw.a.pc _ _ ⟨by decide, by decide⟩).pc _ _ ⟨by decide, by decide⟩).p8 _ (by decide)
      have u3 : ∀ j, (uSh v1 v2 (qH s).length g3).1 3 j = g3.1 3 j := fun j => by unfold uSh; rw [xg_off _ _ _ (by decide), xg_off _ _ _ (by decide), xg_off _ _ _ (by decide)]
      have at6 : xAt N r3 (uSh v1 v2 (qH s).length g3) := at3.k (fun j _ _ => u3 j)
      have fin := hQ none (uSh v1 v2 (qH s).length g3) ⟨rfl, fa, at6, fun b hb => by
        obtain ⟨y2, hy2, -, -, e3⟩ := pCi (hr3.trans hb)
        obtain ⟨y1, hy1, k2, -, e2⟩ := pCi (hr2.trans hy2)
        have e1 := x1 y1 hy1
        subst e1 e2 e3
        obtain ⟨ev1, lt2⟩ := c2 (a + 1) hy2
        obtain ⟨ev2, lt3⟩ := c3 (a + 1 + 1) hb
        have el : pLt l2 (pFd (k.2.2.2 (a + 1 + 1)) (pNs s)).isNone 4 (k.2.1 (a + 1 + 1)) = qL (pShS k (a + 1) s) := by rw [hl2]; rfl
        have nsE : xNs s (uSh v1 v2 (qH s).length g3) := (ns.w fw).k rfl (by unfold uSh; rw [xg_in, if_neg (by decide), xg_off _ _ _ (by decide), xg_off _ _ _ (by decide)]) (by unfold uSh; rw [xg_in, if_neg (by decide), xg_off _ _ _ (by decide), xg_off _ _ _ (by decide)])
        refine ⟨?_, nsE, ?_⟩
        · rw [← el]; exact lt3.k (u3 10) (u3 11)
        · unfold uSh
          refine ⟨?_, fun i q hq => by rw [xg_off _ _ _ (by decide), xg_off _ _ _ (by decide), xg_off _ _ _ (by decide), k5 39 (by decide), xg_off _ _ _ (by decide), xg_off _ _ _ (by decide), xg_off _ _ _ (by decide), k5 40 (by decide), xg_off _ _ _ (by decide), xg_off _ _ _ (by decide), xg_off _ _ _ (by decide), k5 41 (by decide)]; exact s2 i q hq, fun i q hq => by rw [xg_off _ _ _ (by decide), xg_off _ _ _ (by decide), xg_off _ _ _ (by decide), k5 42 (by decide)]; exact s3 i q hq, fun hn i q hq => ?_, by rw [xg_in, if_neg (by decide), xg_off _ _ _ (by decide), xg_off _ _ _ (by decide), k5 38 (by decide)]; exact s5⟩
          · rw [xg_in, if_pos rfl]
            show _ = nI (qH s ++ [_]).length
            rw [List.length_append]; rfl
          · rw [xg_off _ _ _ (by decide), xg_off _ _ _ (by decide), xg_in, k5 43 (by decide), xg_off _ _ _ (by decide), xg_in, xg_off _ _ _ (by decide), k5 44 (by decide)]
            rcases app_get hq with ⟨c, hq⟩ | ⟨rfl, rfl⟩
            · rw [if_neg (by omega), if_neg (by omega)]; exact s4 (pLt_n (pLt_n hn).1).1 i q hq
            · rw [if_pos rfl, if_pos rfl]
              obtain ⟨z1, z2⟩ := pLt_n hn
              obtain ⟨z3, z4⟩ := pLt_n z1
              constructor
              · show v1 = nI ((pFd (k.2.2.2 (a + 1)) (pNp s)).getD 0)
                cases hz : pFd (k.2.2.2 (a + 1)) (pNp s) with
                | none => rw [hz] at z4; cases z4
                | some x => exact ev1 x hz
              · show v2 = nI ((pFd (k.2.2.2 (a + 1 + 1)) (pNs s)).getD 0)
                cases hz : pFd (k.2.2.2 (a + 1 + 1)) (pNs s) with
                | none => rw [show k.2.2.2 (a + 1 + 1) = k.2.2.2 (a + 1 + 1) from rfl, hz] at z2; cases z2
                | some x => exact ev2 x hz⟩
      exact ⟨(v1, v2, (qH s).length), ⟨rfl, m5, e8⟩, fin⟩
