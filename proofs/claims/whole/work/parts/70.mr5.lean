-- THE REFERENCE READS: slides
def mBz (k : Nat) : Nat := if k = 10 ∨ k = 14 ∨ k = 16 ∨ k = 19 then 1 else if k = 11 ∨ k = 12 ∨ k = 13 then 5 else if k = 15 then 6 else if k = 17 ∨ k = 18 then 20 else if k = 20 ∨ k = 21 then 4 else if k ≤ 26 then 130 else 420
/-- what reading may change: the half that is not in use -/
def mFr (sd : Nat) (g g' : xG) : Prop := g'.2.2 = g.2.2 ∧ (∀ k, k ≠ 8 → g'.2.1 k = g.2.1 k) ∧ (∀ k, (1 ≤ k ∧ k ≤ 8 ∨ 30 ≤ k) → g'.1 k = g.1 k) ∧ (∀ k j, 10 ≤ k → k ≤ 28 → (j < mBz k * sd ∨ mBz k * sd + mBz k ≤ j) → g'.1 k j = g.1 k j) ∧ ∀ j, ¬ (j = 11 ∨ j = 12 ∨ j = 13 ∨ j = 14 ∨ j = 15 ∨ j = 16 ∨ j = 20 ∨ j = 35 ∨ j = 41 ∨ j = 45) → g'.1 0 j = g.1 0 j
theorem mFr.rf {sd : Nat} {g : xG} : mFr sd g g := ⟨rfl, fun _ _ => rfl, fun _ _ => rfl, fun _ _ _ _ _ => rfl, fun _ _ => rfl⟩
theorem mFr.tr {sd : Nat} {g g1 g2 : xG} (h : mFr sd g g1) (h2 : mFr sd g1 g2) : mFr sd g g2 := ⟨h2.1.trans h.1, fun k a => (h2.2.1 k a).trans (h.2.1 k a), fun k a => (h2.2.2.1 k a).trans (h.2.2.1 k a), fun k j a b c => (h2.2.2.2.1 k j a b c).trans (h.2.2.2.1 k j a b c), fun j a => (h2.2.2.2.2 j a).trans (h.2.2.2.2 j a)⟩
theorem mFr.pu {sd : Nat} {g g1 : xG} (h : mFr sd g g1) {k j : Nat} (v : Int32) (hk : 10 ≤ k ∧ k ≤ 28) (hj : mBz k * sd ≤ j ∧ j < mBz k * sd + mBz k) : mFr sd g (xm_sI g1 k j v) := by
  refine ⟨h.1, h.2.1, fun i hi => (xg_off g1 j v (by omega)).trans (h.2.2.1 i hi), fun i x a b c => ?_, fun i hi => by rw [xg_off g1 j v (by omega)]; exact h.2.2.2.2 i hi⟩
  by_cases e : i = k
  · subst e
    rw [xg_in, if_neg (by omega)]
    exact h.2.2.2.1 i x a b c
  · rw [xg_off g1 j v e]; exact h.2.2.2.1 i x a b c
theorem mFr.p0 {sd : Nat} {g g1 : xG} (h : mFr sd g g1) {j : Nat} (v : Int32) (hj : j = 11 ∨ j = 12 ∨ j = 13 ∨ j = 14 ∨ j = 15 ∨ j = 16 ∨ j = 20 ∨ j = 35 ∨ j = 41 ∨ j = 45) : mFr sd g (xm_sI g1 0 j v) :=
  ⟨h.1, h.2.1, fun i hi => (xg_off g1 j v (by omega)).trans (h.2.2.1 i hi), fun i x a b c => by rw [xg_off g1 j v (by omega)]; exact h.2.2.2.1 i x a b c, fun i hi => by rw [xg_in, if_neg (by omega)]; exact h.2.2.2.2 i hi⟩
theorem mFn.r {sd : Nat} {g g' : xG} (h : mFn g g') : mFr sd g g' := ⟨h.1, h.2.1, fun k a => h.2.2.1 k (by omega) (by omega), fun k j a b _ => by rw [h.2.2.1 k (by omega) (by omega)], fun j a => h.2.2.2 j (by omega) (by omega) (by omega) (by omega) (by omega) (by omega)⟩
theorem mFs.r {sd : Nat} {g g' : xG} (h : mFs g g') (hc : ∀ j, (j < 420 * sd ∨ 420 * sd + 420 ≤ j) → g'.1 27 j = g.1 27 j ∧ g'.1 28 j = g.1 28 j) : mFr sd g g' := by
  refine ⟨by rw [h.1], fun k _ => by rw [h.1], fun k a => h.2.1 k (by omega) (by omega) (by omega) (by omega), fun k j a b c => ?_, fun j a => h.2.2 j (by omega) (by omega) (by omega) (by omega) (by omega) (by omega)⟩
  by_cases e : k = 27
  · subst e; exact (hc j c).1
  · by_cases e2 : k = 28
    · subst e2; exact (hc j c).2
    · rw [h.2.1 k (by omega) e e2 (by omega)]
theorem mTk.r {sd N : Nat} {k : vTk} {g g' : xG} (h : mTk k N g) (f : mFr sd g g') : mTk k N g' := ⟨h.1, h.2.1, fun i hi => by rw [f.2.2.1 3 (by omega), f.2.2.1 4 (by omega), f.2.2.1 5 (by omega), f.2.1 6 (by decide)]; exact h.2.2 i hi⟩
theorem mBr.r {sd lv cu b : Nat} {q : vX × vX × vX} {g g' : xG} (h : mBr g lv cu b q) (hc : cu ≤ 420 * lv + 420) (hb : 130 * lv ≤ b ∧ b < 130 * lv + 130) (f : mFr sd g g') (hl : lv < 2) (hs : sd < 2) (ne : lv ≠ sd) : mBr g' lv cu b q := by
  obtain ⟨x, r1, r2, h1, h2, h3, h4, h5, h6, h7, h8⟩ := h
  have ob : ∀ k, 22 ≤ k → k ≤ 26 → g'.1 k b = g.1 k b := fun k a1 a2 => f.2.2.2.1 k b (by omega) (by omega) (by
    have : mBz k = 130 := by unfold mBz; rw [if_neg (by omega), if_neg (by omega), if_neg (by omega), if_neg (by omega), if_neg (by omega), if_pos (by omega)]
    rw [this]; omega)
  have oc : ∀ (y : Nat) (e : vX), 420 * lv ≤ y → y + e.length ≤ cu → mCd g y e → mCd g' y e := fun y e y1 y2 hd => ⟨hd.1, fun i p hp => by
    have il := (List.getElem?_eq_some_iff.mp hp).1
    rw [f.2.2.2.1 27 (y + i) (by omega) (by omega) (by rw [show mBz 27 = 420 from rfl]; omega), f.2.2.2.1 28 (y + i) (by omega) (by omega) (by rw [show mBz 28 = 420 from rfl]; omega)]
    exact hd.2 i p hp⟩
  exact ⟨x, r1, r2, by rw [ob 22 (by omega) (by omega)]; exact h1, by rw [ob 23 (by omega) (by omega)]; exact h2, by rw [ob 24 (by omega) (by omega)]; exact h3, by rw [ob 25 (by omega) (by omega)]; exact h4, by rw [ob 26 (by omega) (by omega)]; exact h5, oc _ _ (by omega) (by omega) h6, oc _ _ (by omega) (by omega) h7, oc _ _ (by omega) (by omega) h8⟩
theorem mBe.r {sd lv cu b : Nat} {e : vX} {g g' : xG} (h : mBe g lv cu b e) (hc : cu ≤ 420 * lv + 420) (hb : 130 * lv ≤ b ∧ b < 130 * lv + 130) (f : mFr sd g g') (hl : lv < 2) (hs : sd < 2) (ne : lv ≠ sd) : mBe g' lv cu b e := by
  obtain ⟨x, r1, r2, h1, h2, h3, h4⟩ := h
  have ob : ∀ k, 22 ≤ k → k ≤ 26 → g'.1 k b = g.1 k b := fun k a1 a2 => f.2.2.2.1 k b (by omega) (by omega) (by
    have : mBz k = 130 := by unfold mBz; rw [if_neg (by omega), if_neg (by omega), if_neg (by omega), if_neg (by omega), if_neg (by omega), if_pos (by omega)]
    rw [this]; omega)
  refine ⟨x, r1, r2, by rw [ob 22 (by omega) (by omega)]; exact h1, by rw [ob 25 (by omega) (by omega)]; exact h2, by rw [ob 26 (by omega) (by omega)]; exact h3, h4.1, fun i p hp => ?_⟩
  have il := (List.getElem?_eq_some_iff.mp hp).1
  rw [f.2.2.2.1 27 (x + i) (by omega) (by omega) (by rw [show mBz 27 = 420 from rfl]; omega), f.2.2.2.1 28 (x + i) (by omega) (by omega) (by rw [show mBz 28 = 420 from rfl]; omega)]
  exact h4.2 i p hp
theorem mSto.r {sd lv : Nat} {t : vSt} {g g' : xG} (h : mSto lv t g) (h5 : tN t ≤ 5) (h6 : tM t ≤ 6) (f : mFr sd g g') (hs : sd < 2) (ne : lv ≠ sd) : mSto lv t g' := by
  obtain ⟨hl, s0, s1, s2, s3, s4, s5, s6⟩ := h
  have o : ∀ k j n, 10 ≤ k → k ≤ 28 → mBz k = n → n * lv ≤ j → j < n * lv + n → g'.1 k j = g.1 k j := fun k j n a1 a2 a3 a4 a5 => f.2.2.2.1 k j a1 a2 (by
    rw [a3]
    have h1 : lv = 0 ∧ sd = 1 ∨ lv = 1 ∧ sd = 0 := by omega
    rcases h1 with ⟨e1, e2⟩ | ⟨e1, e2⟩ <;> subst e1 <;> subst e2 <;> simp only [Nat.mul_zero, Nat.mul_one] at * <;> omega)
  refine ⟨hl, (f.2.2.2.2 18 (by omega)).trans s0, by rw [o 10 lv 1 (by omega) (by omega) rfl (by omega) (by omega)]; exact s1, by rw [o 14 lv 1 (by omega) (by omega) rfl (by omega) (by omega)]; exact s2, fun s hs => ?_, fun p hp => ?_, by rw [o 19 lv 1 (by omega) (by omega) rfl (by omega) (by omega)]; exact s5, fun k hk => ?_⟩
  · rw [o 11 _ 5 (by omega) (by omega) rfl (by omega) (by omega), o 12 _ 5 (by omega) (by omega) rfl (by omega) (by omega), o 13 _ 5 (by omega) (by omega) rfl (by omega) (by omega)]; exact s3 s hs
  · rw [o 15 _ 6 (by omega) (by omega) rfl (by omega) (by omega)]; exact s4 p hp
  · obtain ⟨bs, e, w1, w2, w3⟩ := s6 k hk
    refine ⟨bs, e, w1, w2, ?_⟩
    have e20 := o 20 (4 * lv + k) 4 (by omega) (by omega) rfl (by omega) (by omega)
    have e21 := o 21 (4 * lv + k) 4 (by omega) (by omega) rfl (by omega) (by omega)
    rcases w3 with ⟨a, b⟩ | ⟨b0, a1, a2, a3, a4, a5⟩
    · exact Or.inl ⟨by rw [e20, e21]; exact a, b⟩
    · exact Or.inr ⟨b0, a1, by rw [e20]; exact a2, by rw [e21]; exact a3, fun j q hq => (a4 j q hq).r (Nat.le_refl _) (by have := (List.getElem?_eq_some_iff.mp hq).1; omega) f hl hs ne, a5.r (Nat.le_refl _) (by omega) f hl hs ne⟩
-- the half that is being told
def mSd (sd : Nat) (s : pSt) (g : xG) : Prop := g.1 10 sd = nI (qS s).length ∧ g.1 14 sd = nI (qP s).length ∧ g.1 16 sd = nI (qH s).length ∧ (∀ i q, (qS s)[i]? = some q → g.1 11 (5 * sd + i) = nI q.2.1 ∧ g.1 12 (5 * sd + i) = nI q.2.2.1 ∧ g.1 13 (5 * sd + i) = nI q.2.2.2) ∧ (∀ i q, (qP s)[i]? = some q → g.1 15 (6 * sd + i) = nI q.2) ∧ (qL s = none → ∀ i q, (qH s)[i]? = some q → g.1 17 (20 * sd + i) = nI q.1 ∧ g.1 18 (20 * sd + i) = nI q.2) ∧ g.1 19 sd = nI (qD s)
/-- only the cells of what is told change -/
def mFg (g g' : xG) : Prop := g'.2 = g.2 ∧ ∀ k, (k < 10 ∨ 19 < k) → g'.1 k = g.1 k
theorem mFg.rf {g : xG} : mFg g g := ⟨rfl, fun _ _ => rfl⟩
theorem mFg.pu {g g1 : xG} (h : mFg g g1) {k : Nat} (j : Nat) (v : Int32) (hk : 10 ≤ k ∧ k ≤ 19) : mFg g (xm_sI g1 k j v) := ⟨h.1, fun i hi => (xg_off g1 j v (by omega)).trans (h.2 i hi)⟩
theorem mTk.g {N : Nat} {k : vTk} {g g' : xG} (h : mTk k N g) (f : mFg g g') : mTk k N g' := ⟨h.1, h.2.1, fun i hi => by rw [f.2 3 (by omega), f.2 4 (by omega), f.2 5 (by omega), f.1]; exact h.2.2 i hi⟩
theorem mTk.n {N : Nat} {k : vTk} {g g' : xG} (h : mTk k N g) (f : mFn g g') : mTk k N g' := h.r (sd := 0) f.r
theorem mNt.g {nm : List (List Nat × Nat)} {g g' : xG} (h : mNt nm g) (f : mFg g g') : mNt nm g' := ⟨by rw [f.2 0 (by omega)]; exact h.1, h.2.1, fun i q hq => by rw [f.1, f.2 9 (by omega)]; exact h.2.2 i q hq⟩
theorem mFl.g {f p : Nat} {g g' : xG} (h : mFl f p g) (fr : mFg g g') : mFl f p g' := h.k (by rw [fr.2 0 (by omega)]) (by rw [fr.2 0 (by omega)]) (by rw [fr.2 0 (by omega)])
theorem mAt.g {N : Nat} {r : pF ⊕ Nat} {g g' : xG} (h : mAt N r g) (f : mFg g g') : mAt N r g' := by
  cases r with
  | inl q => exact mFl.g h f
  | inr a => exact ⟨by rw [f.2 0 (by omega)]; exact h.1, by rw [f.2 0 (by omega)]; exact h.2.1, h.2.2⟩
theorem mLate.g {l : Option pF} {p : Nat} {g g' : xG} (h : mLate l p g) (f : mFg g g') : mLate l p g' := h.k (Nat.le_refl _) (by rw [f.2 0 (by omega)]) (by rw [f.2 0 (by omega)])
theorem mLq.g {k : vTk} {r : pF ⊕ Nat} {l : Option pF} {g g' : xG} (h : mLq k r l g) (f : mFg g g') : mLq k r l g' := fun a ha => (h a ha).g f
theorem pCh {k : vTk} {r : pF ⊕ Nat} {c m x : Nat} (h : pBn r (pMu k c) = .inr x) (hr : ∀ y, r = .inr y → y = m) : x = m + 1 := by
  obtain ⟨y, h1, h2⟩ := pBn_i.mp h
  rw [(pMu_i.mp h2).2.2, hr y h1]
/-- the laws, and how far the code goes: these stay -/
def mFd (g g' : xG) : Prop := (∀ k, 20 ≤ k → k ≤ 28 → g'.1 k = g.1 k) ∧ g'.1 0 12 = g.1 0 12 ∧ g'.1 0 19 = g.1 0 19 ∧ g'.1 0 35 = g.1 0 35 ∧ g'.1 0 41 = g.1 0 41
theorem mFd.rf {g : xG} : mFd g g := ⟨fun _ _ _ => rfl, rfl, rfl, rfl, rfl⟩
theorem mFd.tr {g g1 g2 : xG} (h : mFd g g1) (h2 : mFd g1 g2) : mFd g g2 := ⟨fun k a b => (h2.1 k a b).trans (h.1 k a b), h2.2.1.trans h.2.1, h2.2.2.1.trans h.2.2.1, h2.2.2.2.1.trans h.2.2.2.1, h2.2.2.2.2.trans h.2.2.2.2⟩
theorem mFn.d {g g' : xG} (h : mFn g g') : mFd g g' := ⟨fun k a b => h.2.2.1 k (by omega) (by omega), h.2.2.2 12 (by decide) (by decide) (by decide) (by decide) (by decide) (by decide), h.2.2.2 19 (by decide) (by decide) (by decide) (by decide) (by decide) (by decide), h.2.2.2 35 (by decide) (by decide) (by decide) (by decide) (by decide) (by decide), h.2.2.2 41 (by decide) (by decide) (by decide) (by decide) (by decide) (by decide)⟩
theorem mFg.d {g g' : xG} (h : mFg g g') : mFd g g' := ⟨fun k a b => h.2 k (by omega), by rw [h.2 0 (by omega)], by rw [h.2 0 (by omega)], by rw [h.2 0 (by omega)], by rw [h.2 0 (by omega)]⟩
theorem pNn.sl {nm : List (List Nat × Nat)} {s s' : pSt} {q : pSl} (h : pNn nm s) (hs : qS s' = qS s ++ [q]) (hp : qP s' = qP s) (h5 : (qS s).length < 10) : pNn (nm ++ [(q.1, (qS s).length)]) s' := by
  refine ⟨by rw [hs, hp, List.length_append, List.length_append, h.1, List.length_singleton, List.length_singleton]; omega, fun n => ?_⟩
  have en : pNs s' = pNs s ++ [q.1] := by unfold pNs; rw [hs, List.map_append]; rfl
  have ep : pNp s' = pNp s := by unfold pNp; rw [hp]
  have ln : (pNs s).length = (qS s).length := by unfold pNs; rw [List.length_map]
  rw [pKn_app, pKn_app, en, ep, pFd_app, (h.2 n).1, (h.2 n).2, ln]
  constructor
  · cases pFd n (pNs s) with
    | some x => rfl
    | none =>
      dsimp only
      by_cases c : q.1 = n
      · rw [if_pos ⟨c, by omega, by omega⟩, if_pos c]; rfl
      · rw [if_neg (fun z => c z.1), if_neg c]
  · cases pFd n (pNp s) with
    | some x => rfl
    | none =>
      dsimp only
      rw [if_neg (fun z => by omega)]
theorem pNn.pe {nm : List (List Nat × Nat)} {s s' : pSt} {q : pPe} (h : pNn nm s) (hs : qS s' = qS s) (hp : qP s' = qP s ++ [q]) (h5 : (qP s).length < 10) : pNn (nm ++ [(q.1, 10 + (qP s).length)]) s' := by
  refine ⟨by rw [hs, hp, List.length_append, List.length_append, h.1, List.length_singleton, List.length_singleton]; omega, fun n => ?_⟩
  have en : pNp s' = pNp s ++ [q.1] := by unfold pNp; rw [hp, List.map_append]; rfl
  have ep : pNs s' = pNs s := by unfold pNs; rw [hs]
  have ln : (pNp s).length = (qP s).length := by unfold pNp; rw [List.length_map]
  rw [pKn_app, pKn_app, en, ep, pFd_app, (h.2 n).1, (h.2 n).2, ln]
  constructor
  · cases pFd n (pNs s) with
    | some x => rfl
    | none =>
      dsimp only
      rw [if_neg (fun z => by omega)]
  · cases pFd n (pNp s) with
    | some x => rfl
    | none =>
      dsimp only
      by_cases c : q.1 = n
      · rw [if_pos ⟨c, by omega, by omega⟩, if_pos c]
        congr 1; omega
      · rw [if_neg (fun z => c z.1), if_neg c]
