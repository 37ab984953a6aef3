-- THE REFERENCE READS: a term of a law
theorem pE_N {k : vTk} {N : Nat} (hN : k.1 N = 0 ∨ k.1 N = 1 ∨ N = 400) : ∀ (f a o : Nat) (w : List Nat) (e : vX) (b : Bool), a ≤ N → ∀ a' e', pE k f a o w e b = .inr (a', e') → a' ≤ N
  | 0, a, o, w, e, b, _, a', e', h => by cases b <;> cases h
  | f + 1, a, o, w, e, true, ha, a', e', h => by
    unfold pE at h
    by_cases c1 : k.1 a = 40
    · rw [if_pos c1] at h
      by_cases c2 : 6 ≤ o
      · rw [if_pos c2] at h; cases h
      · rw [if_neg c2] at h
        by_cases c3 : 400 ≤ a
        · rw [if_pos c3] at h; cases h
        · rw [if_neg c3] at h
          have : a ≠ N := fun z => by subst z; omega
          exact pE_N hN f (a + 1) _ _ _ _ (by omega) a' e' h
    · rw [if_neg c1] at h
      by_cases c2 : pUn k a = true
      · rw [if_pos c2] at h
        by_cases c3 : 400 ≤ a
        · rw [if_pos c3] at h; cases h
        · rw [if_neg c3] at h
          have ku := pUn_i.mp c2
          have : a ≠ N := fun z => by subst z; omega
          exact pE_N hN f (a + 1) _ _ _ _ (by omega) a' e' h
      · rw [if_neg c2] at h; cases h
  | f + 1, a, o, w, e, false, ha, a', e', h => by
    unfold pE at h
    by_cases c1 : k.1 a = 41 ∧ 0 < o
    · rw [if_pos c1] at h
      by_cases c3 : 400 ≤ a
      · rw [if_pos c3] at h; cases h
      · rw [if_neg c3] at h
        have : a ≠ N := fun z => by subst z; omega
        exact pE_N hN f (a + 1) _ _ _ _ (by omega) a' e' h
    · rw [if_neg c1] at h
      by_cases c2 : 0 < pStr (k.1 a)
      · rw [if_pos c2] at h
        by_cases c3 : 400 ≤ a
        · rw [if_pos c3] at h; cases h
        · rw [if_neg c3] at h
          have ko := pStr_op c2
          have : a ≠ N := fun z => by subst z; omega
          exact pE_N hN f (a + 1) _ _ _ _ (by omega) a' e' h
      · rw [if_neg c2] at h
        by_cases c4 : 0 < o
        · rw [if_pos c4] at h; cases h
        · rw [if_neg c4] at h; cases h; exact ha
theorem pEx_N {k : vTk} {N a a' : Nat} {e : vX} {g : xG} (tk : mTk k N g) (ha : a ≤ N) (h : pEx k a = .inr (a', e)) : a' ≤ N := pE_N tk.2.1 _ _ _ _ _ _ ha a' e h
theorem pEx_lt {k : vTk} {a a' : Nat} {e : vX} (h : pEx k a = .inr (a', e)) (ha : a ≤ 400) : a < a' := by
  unfold pEx at h
  rw [show 401 - a = (400 - a) + 1 by omega] at h
  unfold pE at h
  by_cases c1 : k.1 a = 40
  · rw [if_pos c1, if_neg (by omega)] at h
    by_cases c3 : 400 ≤ a
    · rw [if_pos c3] at h; cases h
    · rw [if_neg c3] at h
      exact (pE_ok (400 - a) (a + 1) (0 + 1) [40] [] true (Or.inl ⟨rfl, by omega, rfl⟩) (by omega) rfl (by omega) a' e h).2.1
  · rw [if_neg c1] at h
    by_cases c2 : pUn k a = true
    · rw [if_pos c2] at h
      by_cases c3 : 400 ≤ a
      · rw [if_pos c3] at h; cases h
      · rw [if_neg c3] at h
        refine (pE_ok _ _ _ _ _ _ (show pWf 0 3 [] from rfl) (by omega) ?_ (by omega) a' e h).2.1
        show vDr 15 [pU k a] 0 1
        unfold pU
        split
        · exact ⟨fun z => absurd z (by dsimp only; omega), by omega, rfl⟩
        · rename_i z
          refine ⟨fun _ => ?_, by omega, rfl⟩
          dsimp only
          rcases pUn_i.mp c2 with c2 | c2
          · exact absurd c2 z
          · omega
    · rw [if_neg c2] at h; cases h
/-- what a law's reading may change -/
def mFe (g g' : xG) : Prop := g'.2 = g.2 ∧ (∀ k, k ≠ 0 → (k < 20 ∨ 29 < k) → g'.1 k = g.1 k) ∧ ∀ j, ¬ (j = 11 ∨ j = 12 ∨ j = 13 ∨ j = 14 ∨ j = 35 ∨ j = 41 ∨ j = 45) → g'.1 0 j = g.1 0 j
def mF2 (sd : Nat) (g g' : xG) : Prop := mFr sd g g' ∧ mFe g g'
theorem mF2.rf {sd : Nat} {g : xG} : mF2 sd g g := ⟨mFr.rf, rfl, fun _ _ _ => rfl, fun _ _ => rfl⟩
theorem mF2.tr {sd : Nat} {g g1 g2 : xG} (h : mF2 sd g g1) (h2 : mF2 sd g1 g2) : mF2 sd g g2 := ⟨h.1.tr h2.1, h2.2.1.trans h.2.1, fun k a b => (h2.2.2.1 k a b).trans (h.2.2.1 k a b), fun j a => (h2.2.2.2 j a).trans (h.2.2.2 j a)⟩
theorem mF2.pu {sd : Nat} {g g1 : xG} (h : mF2 sd g g1) {k j : Nat} (v : Int32) (hk : 20 ≤ k ∧ k ≤ 28) (hj : mBz k * sd ≤ j ∧ j < mBz k * sd + mBz k) : mF2 sd g (xm_sI g1 k j v) :=
  ⟨h.1.pu v (by omega) hj, h.2.1, fun i a b => (xg_off g1 j v (by omega)).trans (h.2.2.1 i a b), fun i a => by rw [xg_off g1 j v (by omega)]; exact h.2.2.2 i a⟩
theorem mF2.p0 {sd : Nat} {g g1 : xG} (h : mF2 sd g g1) {j : Nat} (v : Int32) (hj : j = 11 ∨ j = 12 ∨ j = 13 ∨ j = 14 ∨ j = 35 ∨ j = 41 ∨ j = 45) : mF2 sd g (xm_sI g1 0 j v) :=
  ⟨h.1.p0 v (by omega), h.2.1, fun i a b => (xg_off g1 j v a).trans (h.2.2.1 i a b), fun i a => by rw [xg_in, if_neg (by omega)]; exact h.2.2.2 i a⟩
theorem mF2.fl {sd : Nat} {g g1 : xG} (h : mF2 sd g g1) (x : Int32) (a : Nat) : mF2 sd g (nFail x a g1) := by
  unfold nFail
  split
  · exact (h.p0 _ (by omega)).p0 _ (by omega)
  · exact h
theorem mF2.go {sd : Nat} {g g1 : xG} (h : mF2 sd g g1) (a : Nat) : mF2 sd g (nGo a g1) := by
  unfold nGo
  split
  · exact h.fl _ _
  · exact h.p0 _ (by omega)
theorem mF2.mu {sd : Nat} {g g1 : xG} (h : mF2 sd g g1) (x : Int32) (a : Nat) : mF2 sd g (nMust x a g1) := by
  unfold nMust
  split
  · exact h.go _
  · exact h.fl _ _
theorem mFs.f2 {sd : Nat} {g g' : xG} (h : mFs g g') (hc : ∀ j, (j < 420 * sd ∨ 420 * sd + 420 ≤ j) → g'.1 27 j = g.1 27 j ∧ g'.1 28 j = g.1 28 j) : mF2 sd g g' := ⟨h.r hc, h.1, fun k a b => h.2.1 k a (by omega) (by omega) (by omega), fun j a => h.2.2 j (by omega) (by omega) (by omega) (by omega) (by omega) (by omega)⟩
/-- where a term's reading stands -/
def pFs (r : pF ⊕ (Nat × vX)) : pF ⊕ Nat := pBn r (fun u => .inr u.1)
def pAa (r : pF ⊕ Nat) : Nat := match r with
  | .inl _ => 401
  | .inr a => a
theorem pFs_mu (k : vTk) (c : Nat) (r : pF ⊕ (Nat × vX)) : pBn (pFs r) (pMu k c) = pBn r (fun u => pMu k c u.1) := by cases r <;> rfl
/-- expression, for whatever stands before it -/
theorem mEx {k : vTk} {N z : Nat} {r : pF ⊕ Nat} {g g' : xG} (tk : mTk k N g) (hat : mAt N r g)
    (h : mFs g g' ∧ (∀ j, (j < z ∨ z + (401 - pAa r) ≤ j) → g'.1 27 j = g.1 27 j ∧ g'.1 28 j = g.1 28 j) ∧ (∃ y, y ≤ 840 ∧ g'.1 0 41 = nI y) ∧ (∀ f p, mFl f p g → mFl f p g') ∧ (g.1 0 13 = 0 → (∀ f p, pE k (401 - pAa r) (pAa r) 0 [] [] true = .inl (f, p) → mFl f p g') ∧ ∀ a' e, pE k (401 - pAa r) (pAa r) 0 [] [] true = .inr (a', e) → g'.1 0 13 = 0 ∧ g'.1 0 11 = nI a' ∧ g'.1 0 12 = 0 ∧ g'.1 0 41 = nI (z + e.length) ∧ mCz g' z e)) :
    mAt N (pFs (pBn r (pEx k))) g' ∧ ∀ a' e, pBn r (pEx k) = .inr (a', e) → g'.1 0 12 = 0 ∧ g'.1 0 41 = nI (z + e.length) ∧ mCz g' z e := by
  obtain ⟨-, -, -, h4, h5⟩ := h
  cases r with
  | inl q => exact ⟨h4 q.1 q.2 hat, fun a' e h => by cases h⟩
  | inr a =>
    obtain ⟨h13, h11, aN⟩ := hat
    obtain ⟨y1, y2⟩ := h5 h13
    rw [pBn_r]
    cases he : pEx k a with
    | inl q => exact ⟨y1 q.1 q.2 he, fun a' e h => by cases h⟩
    | inr q =>
      obtain ⟨a', e⟩ := q
      obtain ⟨x1, x2, x3, x4, x5⟩ := y2 a' e he
      exact ⟨⟨x1, x2, pEx_N tk aN he⟩, fun a'' e' h => by cases h; exact ⟨x3, x4, x5⟩⟩
theorem mEx_pre {k : vTk} {N z : Nat} {r : pF ⊕ Nat} {g : xG} (tk : mTk k N g) (hat : mAt N r g) (h : ∀ a, r = .inr a → g.1 0 12 = 0 ∧ z ≤ a + 430) : (g.1 0 13 = 0 ∧ mTk k N g ∧ pAa r ≤ N ∧ g.1 0 11 = nI (pAa r) ∧ g.1 0 12 = 0 ∧ z ≤ pAa r + 430) ∨ ∃ f p, mFl f p g := by
  cases r with
  | inl q => exact Or.inr ⟨q.1, q.2, hat⟩
  | inr a => exact Or.inl ⟨hat.1, tk, hat.2.2, hat.2.1, (h a rfl).1, (h a rfl).2⟩
def xt_X9_term : xT := xm_rl (Z := vTk × Nat × (pF ⊕ Nat) × Nat × Nat × Nat) (fun (k, N, r, sd, B, z) av g => av = [.ref 0] ∧ mTk k N g ∧ mAt N r g ∧ (∀ a, r = .inr a → g.1 0 12 = 0 ∧ 420 * sd ≤ z ∧ z ≤ 420 * sd + a) ∧ sd < 2 ∧ 130 * sd ≤ B ∧ B < 130 * sd + 130 ∧ g.1 0 35 = nI B ∧ g.1 0 41 = nI z ∧ z ≤ 840)
  (fun (k, N, r, sd, B, z) g o g' => o = none ∧ mF2 sd g g' ∧ mAt N (pFs (pBn r (pEx k))) g' ∧ g'.1 0 35 = nI (B + 1) ∧ (∃ y, y ≤ 840 ∧ g'.1 0 41 = nI y) ∧ g'.1 25 B = nI z ∧ (∀ c, 20 ≤ c → c ≤ 24 → g'.1 c = g.1 c) ∧ (∀ j, j ≠ B → g'.1 25 j = g.1 25 j ∧ g'.1 26 j = g.1 26 j) ∧ (∀ j, j < z → g'.1 27 j = g.1 27 j ∧ g'.1 28 j = g.1 28 j) ∧
    ∀ a' e, pBn r (pEx k) = .inr (a', e) → g'.1 0 12 = 0 ∧ g'.1 0 41 = nI (z + e.length) ∧ mCz g' z e ∧ g'.1 26 B = nI (z + e.length))
set_option maxRecDepth 100000 in
set_option maxHeartbeats 400000 in
theorem xp_X9_term {l : Launch} {D : va_G} {cA : Nat → ClassId} {B : List (Nat × Cell)} : xm_Met l D cA B xs_M 4 yX9_term cX9_term 1 none xt_X9_term := by
  have hm : xm_monos [xt_X9_expression] := ⟨(by first | exact xm_fn_mono _ _ _ | exact xm_rl_mono _ _), trivial⟩
  refine xm_meth (own := RX9) (ks := xk_X9_term) (C := xc_X9_term) (Ts := [xt_X9_expression]) (by decide +kernel) rfl xm_clsok xs_M_ok xf_X9_ok xi_X9_ok xj_X9_ok (xm_lk xl_X9_284 xp_X9_expression (by decide) xm_lk0) xo_X9_term ?_ ?_
  · rintro av g Q ⟨z, ⟨rfl, -⟩, -⟩
    exact Nat.le_of_ble_eq_true rfl
  · rintro av g Q ⟨⟨k, N, r, sd, B, z⟩, ⟨rfl, tk, hat, hr, sd2, B1, B2, e35, e41, z8⟩, hQ⟩
    dsimp only at tk hat hr sd2 B1 B2 e35 e41 z8 hQ
    have b25 : mBz 25 * sd ≤ B ∧ B < mBz 25 * sd + mBz 25 := by rw [show mBz 25 = 130 from rfl]; omega
    -- the first place is written
    generalize hg1 : xm_sI g 25 B (nI z) = g1
    have f1 : mF2 sd g g1 := by rw [← hg1]; exact mF2.rf.pu _ ⟨by decide, by decide⟩ b25
    have c1 : ∀ c, c ≠ 25 → g1.1 c = g.1 c := fun c hc => by rw [← hg1, xg_off _ _ _ hc]
    have tk1 := tk.r f1.1
    have at1 : mAt N r g1 := by
      cases r with
      | inl q => exact mFl.k hat (by rw [c1 0 (by decide)]) (by rw [c1 0 (by decide)]) (by rw [c1 0 (by decide)])
      | inr a => exact ⟨by rw [c1 0 (by decide)]; exact hat.1, by rw [c1 0 (by decide)]; exact hat.2.1, hat.2.2⟩
    have g1_25 : ∀ i, g1.1 25 i = if i = B then nI z else g.1 25 i := fun i => by rw [← hg1, xg_in]
    -- the end: the second place, one branch more
    have fin : ∀ g2, mFs g1 g2 → (∀ j, (j < 420 * sd ∨ 420 * sd + 420 ≤ j) → g2.1 27 j = g1.1 27 j ∧ g2.1 28 j = g1.1 28 j) → (∀ j, j < z → g2.1 27 j = g1.1 27 j ∧ g2.1 28 j = g1.1 28 j) → mAt N (pFs (pBn r (pEx k))) g2 → (∃ y, y ≤ 840 ∧ g2.1 0 41 = nI y) → (∀ a' e, pBn r (pEx k) = .inr (a', e) → g2.1 0 12 = 0 ∧ g2.1 0 41 = nI (z + e.length) ∧ mCz g2 z e) → xm_go xs_M xk_X9_term [xt_X9_expression] xc_X9_term Q (xm_drop 12 xc_X9_term) [.ref 0] [] g2 := fun g2 f2 hc hz at2 hy he => by
      have e35' : g2.1 0 35 = nI B := by rw [f2.2.2 35 (by decide) (by decide) (by decide) (by decide) (by decide) (by decide), c1 0 (by decide)]; exact e35
      generalize hg4 : xm_sI (xm_sI g2 26 B (g2.1 0 41)) 0 35 ((xm_sI g2 26 B (g2.1 0 41)).1 0 35 + 1) = g4
      have b26 : mBz 26 * sd ≤ B ∧ B < mBz 26 * sd + mBz 26 := by rw [show mBz 26 = 130 from rfl]; omega
      have f4 : mF2 sd g g4 := by rw [← hg4]; exact ((f1.tr (f2.f2 hc)).pu _ ⟨by decide, by decide⟩ b26).p0 _ (by omega)
      have c4 : ∀ c, c ≠ 0 → c ≠ 26 → g4.1 c = g2.1 c := fun c h1 h2 => by rw [← hg4, xg_off _ _ _ h1, xg_off _ _ _ h2]
      have j4 : ∀ j, j ≠ 35 → g4.1 0 j = g2.1 0 j := fun j h => by rw [← hg4, xg_in, if_neg h, xg_off _ _ _ (by decide)]
      have e4 : g4.1 0 35 = nI (B + 1) := by rw [← hg4, xg_in, if_pos rfl, xg_off _ _ _ (by decide), e35', nI_1]
      have g4_26 : ∀ i, g4.1 26 i = if i = B then g2.1 0 41 else g2.1 26 i := fun i => by rw [← hg4, xg_off _ _ _ (by decide), xg_in]
      have at4 : mAt N (pFs (pBn r (pEx k))) g4 := by
        cases hh : pFs (pBn r (pEx k)) with
        | inl q => rw [hh] at at2; exact mFl.k at2 (j4 11 (by decide)) (j4 13 (by decide)) (j4 14 (by decide))
        | inr a => rw [hh] at at2; exact ⟨(j4 13 (by decide)).trans at2.1, (j4 11 (by decide)).trans at2.2.1, at2.2.2⟩
      have q := hQ none g4 ⟨rfl, f4, at4, e4, by obtain ⟨y, y1, y2⟩ := hy; exact ⟨y, y1, (j4 41 (by decide)).trans y2⟩, by rw [c4 25 (by decide) (by decide), f2.2.1 25 (by decide) (by decide) (by decide) (by decide), g1_25, if_pos rfl], fun c h1 h2 => by rw [c4 c (by omega) (by omega), f2.2.1 c (by omega) (by omega) (by omega) (by omega)]; exact c1 c (by omega), fun j hj => ⟨by rw [c4 25 (by decide) (by decide), f2.2.1 25 (by decide) (by decide) (by decide) (by decide), g1_25, if_neg hj], by rw [g4_26, if_neg hj, f2.2.1 26 (by decide) (by decide) (by decide) (by decide), c1 26 (by decide)]⟩, fun j hj => by rw [c4 27 (by decide) (by decide), c4 28 (by decide) (by decide), (hz j hj).1, (hz j hj).2, c1 27 (by decide), c1 28 (by decide)]; exact ⟨rfl, rfl⟩, fun a' e h => ?_⟩
      · rw [← hg4] at q
        exact xm_run_go hm 40 ⟨B, ⟨by omega, e35'⟩, q⟩
      · obtain ⟨x1, x2, x3⟩ := he a' e h
        refine ⟨(j4 12 (by decide)).trans x1, (j4 41 (by decide)).trans x2, fun i q hq => ?_, by rw [g4_26, if_pos rfl]; exact x2⟩
        rw [c4 27 (by decide) (by decide), c4 28 (by decide) (by decide)]; exact x3 i q hq
    have e41' : [Value.ref 0] = [Value.ref 0] := rfl
    cases hr0 : r with
    | inl q =>
      rw [hr0] at at1 hat
      have fl : mFl q.1 q.2 g1 := at1
      have go := fin g1 mFs.rf (fun _ _ => ⟨rfl, rfl⟩) (fun _ _ => ⟨rfl, rfl⟩) (by rw [hr0]; exact fl) ⟨z, z8, by rw [c1 0 (by decide)]; exact e41⟩ (fun a' e h => by rw [hr0] at h; cases h)
      have n1 : ¬ (xm_sI g 25 B (nI z)).1 0 13 = 0 := by rw [hg1]; exact fl.n0
      rw [← hg1] at go
      rw [← e41] at go n1
      exact xm_run_go hm 10 ⟨B, ⟨by omega, e35⟩, ⟨fun _ => go, fun w => absurd w n1⟩⟩
    | inr a =>
      have hat' := hat
      rw [hr0] at hat'
      obtain ⟨h13, h11, aN⟩ := hat'
      obtain ⟨r12, r1, r2⟩ := hr a hr0
      have a4 : a ≤ 400 := by have := tk.1; omega
      have p13 : (xm_sI g 25 B (g.1 0 41)).1 0 13 = 0 := by rw [xg_off _ _ _ (by decide)]; exact h13
      have pre := mEx_pre (z := z) tk1 at1 (fun b hb => by rw [hr0] at hb; cases hb; exact ⟨by rw [c1 0 (by decide)]; exact r12, by omega⟩)
      have e41' : g1.1 0 41 = nI z := by rw [c1 0 (by decide)]; exact e41
      have next : ∀ (o : Option Value) (g2 : xG), (o = none ∧ mFs g1 g2 ∧ (∀ j, (j < z ∨ z + (401 - pAa r) ≤ j) → g2.1 27 j = g1.1 27 j ∧ g2.1 28 j = g1.1 28 j) ∧ (∃ y, y ≤ 840 ∧ g2.1 0 41 = nI y) ∧ (∀ f p, mFl f p g1 → mFl f p g2) ∧ (g1.1 0 13 = 0 → (∀ f p, pE k (401 - pAa r) (pAa r) 0 [] [] true = .inl (f, p) → mFl f p g2) ∧ ∀ a' e, pE k (401 - pAa r) (pAa r) 0 [] [] true = .inr (a', e) → g2.1 0 13 = 0 ∧ g2.1 0 11 = nI a' ∧ g2.1 0 12 = 0 ∧ g2.1 0 41 = nI (z + e.length) ∧ mCz g2 z e)) → o = none ∧ xm_go xs_M xk_X9_term [xt_X9_expression] xc_X9_term Q (xm_drop 12 xc_X9_term) [.ref 0] [] g2 := by
        rintro o g2 ⟨rfl, h2⟩
        obtain ⟨m1, m2⟩ := mEx tk1 at1 h2
        obtain ⟨f2, lo2, hy, -, -⟩ := h2
        have pa : pAa r = a := by rw [hr0]; rfl
        rw [pa] at lo2
        exact ⟨rfl, fin g2 f2 (fun j hj => lo2 j (by omega)) (fun j hj => lo2 j (Or.inl hj)) m1 hy m2⟩
      rw [← hg1, ← e41] at pre next e41'
      refine xm_run_go hm 12 ⟨B, ⟨by omega, e35⟩, ⟨fun w => absurd p13 w, fun _ => ⟨(k, N, z, pAa r), ⟨rfl, e41'.trans e41, z8, pre⟩, ?_⟩⟩⟩
      intro o g2 h2
      obtain ⟨rfl, go⟩ := next o g2 h2
      exact go
