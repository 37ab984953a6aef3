-- THE REFERENCE READS: a law
theorem mCd.k {g g' : xG} {f cu : Nat} {e : vX} (h : mCd g f e) (hl : f + e.length ≤ cu) (hc : ∀ j, j < cu → g'.1 27 j = g.1 27 j ∧ g'.1 28 j = g.1 28 j) : mCd g' f e := ⟨h.1, fun i q hq => by
  have := (List.getElem?_eq_some_iff.mp hq).1
  rw [(hc (f + i) (by omega)).1, (hc (f + i) (by omega)).2]; exact h.2 i q hq⟩
theorem mBr.k {g g' : xG} {lv cu cu' b : Nat} {q : vX × vX × vX} (h : mBr g lv cu b q) (hb : ∀ k, 22 ≤ k → k ≤ 26 → g'.1 k b = g.1 k b) (hc : ∀ j, j < cu → g'.1 27 j = g.1 27 j ∧ g'.1 28 j = g.1 28 j) (hu : cu ≤ cu') : mBr g' lv cu' b q := by
  obtain ⟨x, r1, r2, h1, h2, h3, h4, h5, h6, h7, h8⟩ := h
  exact ⟨x, r1, by omega, by rw [hb 22 (by omega) (by omega)]; exact h1, by rw [hb 23 (by omega) (by omega)]; exact h2, by rw [hb 24 (by omega) (by omega)]; exact h3, by rw [hb 25 (by omega) (by omega)]; exact h4, by rw [hb 26 (by omega) (by omega)]; exact h5, h6.k (by omega) hc, h7.k (by omega) hc, h8.k (by omega) hc⟩
theorem mBe.k {g g' : xG} {lv cu cu' b : Nat} {e : vX} (h : mBe g lv cu b e) (hb : ∀ k, 22 ≤ k → k ≤ 26 → g'.1 k b = g.1 k b) (hc : ∀ j, j < cu → g'.1 27 j = g.1 27 j ∧ g'.1 28 j = g.1 28 j) (hu : cu ≤ cu') : mBe g' lv cu' b e := by
  obtain ⟨x, r1, r2, h1, h2, h3, h4⟩ := h
  exact ⟨x, r1, by omega, by rw [hb 22 (by omega) (by omega)]; exact h1, by rw [hb 25 (by omega) (by omega)]; exact h2, by rw [hb 26 (by omega) (by omega)]; exact h3, h4.k r2 hc⟩
theorem mLy.k {g g' : xG} {lv k bu cu bu' cu' : Nat} {bs : List (vX × vX × vX)} {e : vX} (h : mLy g lv k bu cu bs e) (e20 : g'.1 20 (4 * lv + k) = g.1 20 (4 * lv + k)) (e21 : g'.1 21 (4 * lv + k) = g.1 21 (4 * lv + k)) (hb : ∀ c j, 22 ≤ c → c ≤ 26 → j < bu → g'.1 c j = g.1 c j) (hc : ∀ j, j < cu → g'.1 27 j = g.1 27 j ∧ g'.1 28 j = g.1 28 j) (h1 : bu ≤ bu') (h2 : cu ≤ cu') : mLy g' lv k bu' cu' bs e := by
  rcases h with ⟨a, b⟩ | ⟨b0, a1, a2, a3, a4, a5⟩
  · exact Or.inl ⟨by rw [e20, e21]; exact a, b⟩
  · exact Or.inr ⟨b0, by omega, by rw [e20]; exact a2, by rw [e21]; exact a3, fun j q hq => (a4 j q hq).k (fun c x y => hb c _ x y (by have := (List.getElem?_eq_some_iff.mp hq).1; omega)) hc h2, a5.k (fun c x y => hb c _ x y (by omega)) hc h2⟩
/-- all but one branch, all code below -/
def mLo (B z : Nat) (g g' : xG) : Prop := (∀ c j, 22 ≤ c → c ≤ 26 → j ≠ B → g'.1 c j = g.1 c j) ∧ (∀ j, j < z → g'.1 27 j = g.1 27 j ∧ g'.1 28 j = g.1 28 j) ∧ g'.1 20 = g.1 20 ∧ g'.1 21 = g.1 21
theorem mLo.rf {B z : Nat} {g : xG} : mLo B z g g := ⟨fun _ _ _ _ _ => rfl, fun _ _ => ⟨rfl, rfl⟩, rfl, rfl⟩
theorem mLo.tr {B z : Nat} {g g1 g2 : xG} (h : mLo B z g g1) (h2 : mLo B z g1 g2) : mLo B z g g2 := ⟨fun c j a b d => (h2.1 c j a b d).trans (h.1 c j a b d), fun j a => ⟨(h2.2.1 j a).1.trans (h.2.1 j a).1, (h2.2.1 j a).2.trans (h.2.1 j a).2⟩, h2.2.2.1.trans h.2.2.1, h2.2.2.2.trans h.2.2.2⟩
theorem mLo.w {B z : Nat} {g g1 g2 : xG} (h : mLo B z g g1) (hk : ∀ k, k ≠ 0 → g2.1 k = g1.1 k) : mLo B z g g2 := h.tr ⟨fun c j a b _ => by rw [hk c (by omega)], fun j _ => by rw [hk 27 (by decide), hk 28 (by decide)]; exact ⟨rfl, rfl⟩, hk 20 (by decide), hk 21 (by decide)⟩
theorem mLo.pu {B z : Nat} {g g1 : xG} (h : mLo B z g g1) {c : Nat} (v : Int32) (hc : 22 ≤ c ∧ c ≤ 26) : mLo B z g (xm_sI g1 c B v) := h.tr ⟨fun c' j a b d => by
    by_cases e : c' = c
    · subst e; rw [xg_in, if_neg d]
    · rw [xg_off _ _ _ e], fun j _ => by rw [xg_off _ _ _ (by omega), xg_off _ _ _ (by omega)]; exact ⟨rfl, rfl⟩, by rw [xg_off _ _ _ (by omega)], by rw [xg_off _ _ _ (by omega)]⟩
theorem mLo.s {B z : Nat} {g g1 g2 : xG} (h : mLo B z g g1) (f : mFs g1 g2) (hl : ∀ j, j < z → g2.1 27 j = g1.1 27 j ∧ g2.1 28 j = g1.1 28 j) : mLo B z g g2 := h.tr ⟨fun c j a b _ => by rw [f.2.1 c (by omega) (by omega) (by omega) (by omega)], hl, f.2.1 20 (by decide) (by decide) (by decide) (by decide), f.2.1 21 (by decide) (by decide) (by decide) (by decide)⟩
theorem pIf_c (k : vTk) (a : Nat) : ∀ r1 r2 r3 r4 r5 r6 r7, pBn (.inr a) (pGo k) = r1 → pBn r1 (pEx k) = r2 → pBn (pFs r2) (pMu k 60) = r3 → pBn r3 (pEx k) = r4 → pBn (pFs r4) (pMu k 137) = r5 → pBn r5 (pEx k) = r6 → pBn (pFs r6) (pMu k 138) = r7 →
    (∀ q, r7 = .inl q → pIf k a = .inl q) ∧ ∀ a7, r7 = .inr a7 → ∃ a2 u a4 v a6 w, r1 = .inr (a + 1) ∧ r2 = .inr (a2, u) ∧ r3 = .inr (a2 + 1) ∧ r4 = .inr (a4, v) ∧ r5 = .inr (a4 + 1) ∧ r6 = .inr (a6, w) ∧ a7 = a6 + 1 ∧ pIf k a = .inr (a7, u, v, w) := by
  rintro r1 r2 r3 r4 r5 r6 r7 h1 h2 h3 h4 h5 h6 h7
  unfold pIf
  rw [pBn_r] at h1
  rw [h1]
  cases r1 with
  | inl q => subst h2 h3 h4 h5 h6 h7; exact ⟨fun q h => by cases h; rfl, fun a7 h => by cases h⟩
  | inr a1 =>
    have e1 : a1 = a + 1 := (pGo_i.mp h1).2
    rw [pBn_r] at h2 ⊢
    rw [h2]
    cases r2 with
    | inl q => subst h3 h4 h5 h6 h7; exact ⟨fun q h => by cases h; rfl, fun a7 h => by cases h⟩
    | inr u =>
      rw [pFs_mu, pBn_r] at h3
      rw [pBn_r, h3]
      cases r3 with
      | inl q => subst h4 h5 h6 h7; exact ⟨fun q h => by cases h; rfl, fun a7 h => by cases h⟩
      | inr a3 =>
        have e3 : a3 = u.1 + 1 := (pMu_i.mp h3).2.2
        rw [pBn_r] at h4 ⊢
        rw [h4]
        cases r4 with
        | inl q => subst h5 h6 h7; exact ⟨fun q h => by cases h; rfl, fun a7 h => by cases h⟩
        | inr v =>
          rw [pFs_mu, pBn_r] at h5
          rw [pBn_r, h5]
          cases r5 with
          | inl q => subst h6 h7; exact ⟨fun q h => by cases h; rfl, fun a7 h => by cases h⟩
          | inr a5 =>
            have e5 : a5 = v.1 + 1 := (pMu_i.mp h5).2.2
            rw [pBn_r] at h6 ⊢
            rw [h6]
            cases r6 with
            | inl q => subst h7; exact ⟨fun q h => by cases h; rfl, fun a7 h => by cases h⟩
            | inr w =>
              rw [pFs_mu, pBn_r] at h7
              rw [pBn_r, h7]
              cases r7 with
              | inl q => exact ⟨fun q h => by cases h; rfl, fun a7 h => by cases h⟩
              | inr a7 =>
                have e7 : a7 = w.1 + 1 := (pMu_i.mp h7).2.2
                refine ⟨(fun q h => by cases h), fun a7' h => ?_⟩
                cases h
                exact ⟨u.1, u.2, v.1, v.2, w.1, w.2, by rw [e1], rfl, by rw [e3], rfl, by rw [e5], rfl, e7, rfl⟩
theorem pIf_d {k : vTk} {a : Nat} {r1 r3 r5 : pF ⊕ Nat} {r2 r4 : pF ⊕ (Nat × vX)} (ha : a ≤ 400) (h1 : pBn (.inr a) (pGo k) = r1) (h2 : pBn r1 (pEx k) = r2) (h3 : pBn (pFs r2) (pMu k 60) = r3) (h4 : pBn r3 (pEx k) = r4) (h5 : pBn (pFs r4) (pMu k 137) = r5) :
    (∀ a1, r1 = .inr a1 → a1 = a + 1) ∧ (∀ a3, r3 = .inr a3 → ∃ a2 u, r2 = .inr (a2, u) ∧ a3 = a2 + 1 ∧ a3 ≤ 400 ∧ a + u.length + 2 ≤ a3) ∧ ∀ a5, r5 = .inr a5 → ∃ a2 u a4 v, r2 = .inr (a2, u) ∧ r4 = .inr (a4, v) ∧ a5 ≤ 400 ∧ a + u.length + v.length + 3 ≤ a5 := by
  have q1 : ∀ a1, r1 = .inr a1 → a1 = a + 1 ∧ a1 ≤ 400 := fun a1 h => by
    rw [h, pBn_r] at h1
    have := pGo_i.mp h1
    omega
  have q3 : ∀ a3, r3 = .inr a3 → ∃ a2 u, r2 = .inr (a2, u) ∧ a3 = a2 + 1 ∧ a3 ≤ 400 ∧ a + u.length + 2 ≤ a3 := fun a3 h => by
    rw [h, pFs_mu] at h3
    obtain ⟨⟨a2, u⟩, e2, h3⟩ := pBn_i.mp h3
    obtain ⟨-, x2, x3⟩ := pMu_i.mp h3
    rw [e2] at h2
    obtain ⟨a1, e1, h2⟩ := pBn_i.mp h2
    obtain ⟨y1, y2⟩ := q1 a1 e1
    obtain ⟨-, z2, z3, z4⟩ := pEx_i h2 y2
    dsimp only at x2 x3
    exact ⟨a2, u, e2, x3, by omega, by omega⟩
  refine ⟨fun a1 h => (q1 a1 h).1, q3, fun a5 h => ?_⟩
  rw [h, pFs_mu] at h5
  obtain ⟨⟨a4, v⟩, e4, h5⟩ := pBn_i.mp h5
  obtain ⟨-, x2, x3⟩ := pMu_i.mp h5
  rw [e4] at h4
  obtain ⟨a3, e3, h4⟩ := pBn_i.mp h4
  obtain ⟨a2, u, e2, y1, y2, y3⟩ := q3 a3 e3
  obtain ⟨-, z2, z3, z4⟩ := pEx_i h4 y2
  dsimp only at x2 x3
  exact ⟨a2, u, a4, v, e2, e4, by omega, by omega⟩
def pLe (k : vTk) (q : Nat × List (vX × vX × vX) × vX) : pF ⊕ (Nat × List (vX × vX × vX) × vX) := pBn (pMu k 59 q.1) fun a4 => .inr (a4, q.2)
def pLr (k : vTk) (r : pF ⊕ Nat) : pF ⊕ (Nat × List (vX × vX × vX) × vX) := pBn (pBn r (pMu k 61)) fun a2 => pBn (pIfs k 4 a2 []) (pLe k)
def xt_X9_tellLaw : xT := xm_rl (Z := vTk × Nat × Nat × Nat × (pF ⊕ Nat) × Nat × Nat × (Nat → List (vX × vX × vX) × vX)) (fun (k, N, sd, l, r, b, c, X) av g => av = [.ref 0, .int (nI l)] ∧ l < 4 ∧ mTk k N g ∧ sd < 2 ∧ g.1 0 19 = nI sd ∧ mAt N r g ∧ g.1 0 12 = 0 ∧ g.1 0 35 = nI (130 * sd + b) ∧ g.1 0 41 = nI (420 * sd + c) ∧ b ≤ 100 ∧ c ≤ 400 ∧ (∀ a, r = .inr a → 4 * b + 1 ≤ a ∧ c ≤ a) ∧ ∀ i, i < 4 → mLy g sd i (130 * sd + b) (420 * sd + c) (X i).1 (X i).2)
  (fun (k, N, sd, l, r, b, c, X) g o g' => o = none ∧ mF2 sd g g' ∧ (∀ q, pLr k r = .inl q → mFl q.1 q.2 g') ∧ ∀ a' bs e, pLr k r = .inr (a', bs, e) → mAt N (.inr a') g' ∧ g'.1 0 12 = 0 ∧ ∃ b' c', 4 * b' ≤ a' ∧ c' ≤ a' ∧ g'.1 0 35 = nI (130 * sd + b') ∧ g'.1 0 41 = nI (420 * sd + c') ∧ ∀ i, i < 4 → mLy g' sd i (130 * sd + b') (420 * sd + c') (if i = l then (bs, e) else X i).1 (if i = l then (bs, e) else X i).2)
set_option maxRecDepth 100000 in
set_option maxHeartbeats 400000 in
theorem xp_X9_tellLaw {l : Launch} {D : va_G} {cA : Nat → ClassId} {B : List (Nat × Cell)} : xm_Met l D cA B xs_M 5 yX9_tellLaw cX9_tellLaw 4 none xt_X9_tellLaw := by
  have hm : xm_monos [xt_X9_must, xt_X9_is, xt_X9_fail, xt_X9_goesOn, xt_X9_expression, xt_X9_term] := ⟨(by first | exact xm_fn_mono _ _ _ | exact xm_rl_mono _ _), (by first | exact xm_fn_mono _ _ _ | exact xm_rl_mono _ _), (by first | exact xm_fn_mono _ _ _ | exact xm_rl_mono _ _), (by first | exact xm_fn_mono _ _ _ | exact xm_rl_mono _ _), (by first | exact xm_fn_mono _ _ _ | exact xm_rl_mono _ _), (by first | exact xm_fn_mono _ _ _ | exact xm_rl_mono _ _), trivial⟩
  refine xm_meth (own := RX9) (ks := xk_X9_tellLaw) (C := xc_X9_tellLaw) (Ts := [xt_X9_must, xt_X9_is, xt_X9_fail, xt_X9_goesOn, xt_X9_expression, xt_X9_term]) (by decide +kernel) rfl xm_clsok xs_M_ok xf_X9_ok xi_X9_ok xj_X9_ok (xm_lk xl_X9_275 xp_X9_must (by decide) (xm_lk xl_X9_218 xp_X9_is (by decide) (xm_lk xl_X9_215 xp_X9_fail (by decide) (xm_lk xl_X9_221 xp_X9_goesOn (by decide) (xm_lk xl_X9_284 xp_X9_expression (by decide) (xm_lk xl_X9_287 xp_X9_term (by decide) xm_lk0)))))) xo_X9_tellLaw ?_ ?_
  · rintro av g Q ⟨z, ⟨rfl, -⟩, -⟩
    exact Nat.le_of_ble_eq_true rfl
  · rintro av g Q ⟨⟨k, N, sd, l, r, b, c, X⟩, ⟨rfl, l4, tk, sd2, e19, hat, e12, e35, e41, b100, c400, hbc, old⟩, hQ⟩
    dsimp only at l4 tk sd2 e19 hat e12 e35 e41 b100 c400 hbc old hQ
    have N4 := tk.1
    obtain ⟨W, hW⟩ : ∃ W, pLr k r = W := ⟨_, rfl⟩
    rw [hW] at hQ
    -- the last term, and the end
    have at67 : ∀ (r' : pF ⊕ Nat) (bs : List (vX × vX × vX)) (B z : Nat) (g2 : xG), mF2 sd g g2 → mAt N r' g2 → g2.1 0 35 = nI B → 130 * sd ≤ B → B < 130 * sd + 130 → g2.1 0 41 = nI z → z ≤ 840 →
        (∀ a, r' = .inr a → g2.1 0 12 = 0 ∧ B = 130 * sd + b + bs.length ∧ 4 * (b + bs.length) + 2 ≤ a ∧ 420 * sd + c ≤ z ∧ z ≤ 420 * sd + a ∧ (∀ j q, bs[j]? = some q → mBr g2 sd z (130 * sd + b + j) q) ∧ ∀ i, i < 4 → mLy g2 sd i (130 * sd + b) (420 * sd + c) (X i).1 (X i).2) →
        (W = pBn r' fun a => pBn (pBn (pEx k a) fun e => .inr (e.1, bs, e.2)) (pLe k)) → ∀ x3, xm_go xs_M xk_X9_tellLaw [xt_X9_must, xt_X9_is, xt_X9_fail, xt_X9_goesOn, xt_X9_expression, xt_X9_term] xc_X9_tellLaw Q (xm_drop 67 xc_X9_tellLaw) [.ref 0, .int (nI l), .int (nI (130 * sd + b)), .int x3] [] g2 := by
      intro r' bs B z g2 f2 at2 p35 B1 B2 p41 z8 hr hw x3
      have b22 : mBz 22 * sd ≤ B ∧ B < mBz 22 * sd + mBz 22 := by rw [show mBz 22 = 130 from rfl]; omega
      have f3 : mF2 sd g2 (xm_sI g2 22 B 0) := mF2.rf.pu _ ⟨by decide, by decide⟩ b22
      have j3 : ∀ j, (xm_sI g2 22 B 0).1 0 j = g2.1 0 j := fun j => by rw [xg_off _ _ _ (by decide)]
      have at3 : mAt N r' (xm_sI g2 22 B 0) := by
        cases r' with
        | inl q => exact mFl.k at2 (j3 _) (j3 _) (j3 _)
        | inr a => exact ⟨(j3 _).trans at2.1, (j3 _).trans at2.2.1, at2.2.2⟩
      have tk2 := tk.r f2.1
      refine xm_run_go hm 60 ⟨B, ⟨by omega, p35, Or.inl rfl⟩, (k, N, r', sd, B, z), ⟨rfl, tk2.r f3.1, at3, fun a ha => ?_, sd2, B1, B2, (j3 _).trans p35, (j3 _).trans p41, z8⟩, ?_⟩
      · obtain ⟨y1, y2, y3, y4, y5, -, -⟩ := hr a ha
        exact ⟨(j3 _).trans y1, by omega, y5⟩
      rintro o g4 ⟨rfl, f4, at4, q35, qy, q25, q20, qB, qz, qs⟩
      obtain ⟨p, p4, e11, ok, hp⟩ := at4.pos ((tk2.r f3.1).r f4.1)
      have tk4 := (tk2.r f3.1).r f4.1
      have at5 := at4.mu tk4 p4 e11 (c := 59) (by decide) (by decide) (by decide)
      have f5 : mF2 sd g (nMust 4 p g4) := ((f2.tr f3).tr f4).mu _ _
      have k5 : ∀ c, c ≠ 0 → (nMust 4 p g4).1 c = g4.1 c := fun c hc => (mFw.rf.mu 4 p).2.1 c hc
      have j5 : ∀ j, j ≠ 11 → j ≠ 13 → j ≠ 14 → (nMust 4 p g4).1 0 j = g4.1 0 j := fun j h1 h2 h3 => by
        unfold nMust nGo
        split
        · split
          · exact nFail_j h2 h3
          · rw [xg_in, if_neg h1]
        · exact nFail_j h2 h3
      have hw' : W = pBn (pBn r' (pEx k)) (fun e => pLe k (e.1, bs, e.2)) := by
        rw [hw]
        cases r' with
        | inl q => rfl
        | inr a => rw [pBn_r, pBn_r]; cases pEx k a <;> rfl
      rw [pFs_mu] at at5
      -- the answer as the sign decides
      cases h5 : pBn (pBn r' (pEx k)) (fun u => pMu k 59 u.1) with
      | inl q =>
        rw [h5] at at5
        have fl : mFl q.1 q.2 (nMust 4 p g4) := at5
        have hWq : W = .inl q := by
          rw [hw']
          cases h6 : pBn r' (pEx k) with
          | inl q' => rw [h6] at h5; rw [pBn_l] at h5 ⊢; cases h5; rfl
          | inr u =>
            rw [h6, pBn_r] at h5
            rw [pBn_r]
            unfold pLe
            rw [show pMu k 59 (u.1, bs, u.2).1 = .inl q from h5, pBn_l]
        have fin := hQ none (nMust 4 p g4) ⟨rfl, f5, (fun q' h => by rw [hWq] at h; cases h; exact fl), (fun a' bs' e h => by rw [hWq] at h; cases h)⟩
        have gt : ¬ (nMust 4 p g4).1 0 13 ≤ 0 := by
          rw [fl.1]; rcases fl.2.1 with w | w <;> rw [w] <;> decide
        exact ⟨(4, p), ⟨rfl, p4, e11, ok⟩, ⟨fun w => absurd w gt, fun _ => fin⟩⟩
      | inr a5 =>
        rw [h5] at at5
        obtain ⟨⟨a4, e⟩, h6, h7⟩ := pBn_i.mp h5
        obtain ⟨-, a4l, e5⟩ := pMu_i.mp h7
        obtain ⟨a, ra, hx⟩ := pBn_i.mp h6
        obtain ⟨y1, y2, y3, y4, y5, y6, y7⟩ := hr a ra
        have aN : a ≤ N := by rw [ra] at at2; exact at2.2.2
        obtain ⟨-, x2, x3, x4⟩ := pEx_i hx (by omega)
        have x5 := pEx_lt hx (by omega)
        obtain ⟨s1, s2, s3, s4⟩ := qs a4 e h6
        have hWr : W = .inr (a5, bs, e) := by
          rw [hw', h6, pBn_r]
          unfold pLe
          rw [show pMu k 59 (a4, bs, e).1 = .inr a5 from h7]; rfl
        obtain ⟨t13, t11, tN⟩ := id at5
        dsimp only at a4l e5
        subst y2
        have t35 : (nMust 4 p g4).1 0 35 = nI (130 * sd + (b + bs.length + 1)) := by rw [j5 35 (by decide) (by decide) (by decide), q35]; congr 1; omega
        have ix : 4 * (nMust 4 p g4).1 0 19 + nI l = nI (4 * sd + l) := by rw [j5 19 (by decide) (by decide) (by decide), f4.2.2.2 19 (by decide), j3, f2.2.2.2 19 (by decide), e19, xn_4]
        have b20 : mBz 20 * sd ≤ 4 * sd + l ∧ 4 * sd + l < mBz 20 * sd + mBz 20 := by rw [show mBz 20 = 4 from rfl]; omega
        generalize hg6 : xm_sI (nMust 4 p g4) 20 (4 * sd + l) (nI (130 * sd + b)) = g6
        have f6 : mF2 sd g g6 := by rw [← hg6]; exact f5.pu _ ⟨by decide, by decide⟩ b20
        have ix' : 4 * g6.1 0 19 + nI l = nI (4 * sd + l) := by rw [← hg6, xg_off _ _ _ (by decide)]; exact ix
        have t35' : g6.1 0 35 = nI (130 * sd + (b + bs.length + 1)) := by rw [← hg6, xg_off _ _ _ (by decide)]; exact t35
        generalize hg7 : xm_sI g6 21 (4 * sd + l) (g6.1 0 35) = g7
        have f7 : mF2 sd g g7 := by rw [← hg7]; exact f6.pu _ ⟨by decide, by decide⟩ b20
        have j7 : ∀ j, g7.1 0 j = (nMust 4 p g4).1 0 j := fun j => by rw [← hg7, xg_off _ _ _ (by decide), ← hg6, xg_off _ _ _ (by decide)]
        have k7 : ∀ c, 22 ≤ c → g7.1 c = g4.1 c := fun c hc => by rw [← hg7, xg_off _ _ _ (by omega), ← hg6, xg_off _ _ _ (by omega), k5 c (by omega)]
        have c20 : ∀ i, g7.1 20 i = if i = 4 * sd + l then nI (130 * sd + b) else g2.1 20 i := fun i => by
          rw [← hg7, xg_off _ _ _ (by decide), ← hg6, xg_in, k5 20 (by decide), q20 20 (by decide) (by decide), xg_off _ _ _ (by decide)]
        have c21 : ∀ i, g7.1 21 i = if i = 4 * sd + l then nI (130 * sd + (b + bs.length + 1)) else g2.1 21 i := fun i => by
          rw [← hg7, xg_in, t35', ← hg6, xg_off _ _ _ (by decide), k5 21 (by decide), q20 21 (by decide) (by decide), xg_off _ _ _ (by decide)]
        have br : ∀ c j, 22 ≤ c → c ≤ 26 → j < 130 * sd + b + bs.length → g7.1 c j = g2.1 c j := fun c j h1 h2 h3 => by
          rw [k7 c h1]
          by_cases h4 : c ≤ 24
          · rw [q20 c (by omega) h4]
            by_cases h5 : c = 22
            · subst h5; rw [xg_in, if_neg (by omega)]
            · rw [xg_off _ _ _ h5]
          · have h5 : c = 25 ∨ c = 26 := by omega
            rcases h5 with h5 | h5 <;> subst h5
            · rw [(qB j (by omega)).1, xg_off _ _ _ (by decide)]
            · rw [(qB j (by omega)).2, xg_off _ _ _ (by decide)]
        have cd : ∀ j, j < z → g7.1 27 j = g2.1 27 j ∧ g7.1 28 j = g2.1 28 j := fun j hj => by
          have := qz j hj
          rw [xg_off _ _ _ (by decide), xg_off _ _ _ (by decide)] at this
          rw [k7 27 (by decide), k7 28 (by decide)]; exact this
        have fin := hQ none g7 ⟨rfl, f7, (fun q' h => by rw [hWr] at h; cases h), (fun a' bs' e' h => by
          rw [hWr] at h
          cases h
          refine ⟨⟨(j7 13).trans t13, (j7 11).trans t11, tN⟩, by rw [j7, j5 12 (by decide) (by decide) (by decide)]; exact s1, b + bs.length + 1, z + e.length - 420 * sd, by omega, by omega, (j7 35).trans t35, by rw [j7, j5 41 (by decide) (by decide) (by decide), s2]; congr 1; omega, fun i hi => ?_⟩
          by_cases il : i = l
          · subst il
            rw [if_pos rfl]
            show mLy g7 sd i (130 * sd + (b + bs.length + 1)) (420 * sd + (z + e.length - 420 * sd)) bs e
            refine Or.inr ⟨130 * sd + b, ⟨by omega, by omega⟩, by rw [c20, if_pos rfl], by rw [c21, if_pos rfl]; congr 1; omega, fun j q hq => ?_, ?_⟩
            · have jl := (List.getElem?_eq_some_iff.mp hq).1
              exact (y6 j q hq).k (fun c h1 h2 => br c _ h1 h2 (by omega)) cd (by omega)
            · have xl : z + e.length ≤ 420 * sd + a4 := by omega
              exact ⟨z, by omega, by omega, by rw [k7 22 (by decide), q20 22 (by decide) (by decide), xg_in, if_pos rfl], by rw [k7 25 (by decide)]; exact q25, by rw [k7 26 (by decide)]; exact s4, by omega, fun i q hq => by rw [k7 27 (by decide), k7 28 (by decide)]; exact s3 i q hq⟩
          · rw [if_neg il]
            exact (y7 i hi).k (by rw [c20, if_neg (by omega)]) (by rw [c21, if_neg (by omega)]) (fun c j h1 h2 h3 => br c j h1 h2 (by omega)) (fun j hj => cd j (by omega)) (by omega) (by omega))⟩
        have le : (nMust 4 p g4).1 0 13 ≤ 0 := by rw [show (nMust 4 p g4).1 0 13 = 0 from t13]; decide
        rw [← hg7] at fin
        rw [← hg6] at fin ix'
        exact ⟨(4, p), ⟨rfl, p4, e11, ok⟩, ⟨fun _ => ⟨4 * sd + l, ⟨by omega, ix⟩, 4 * sd + l, ⟨by omega, ix'⟩, fin⟩, fun w => absurd le (Int32.not_le.mpr w)⟩⟩
    -- no further branch
    have com : ∀ (m : Nat) (r' : pF ⊕ Nat) (bs : List (vX × vX × vX)) (z : Nat) (g2 : xG) (x3 : Int32), m + bs.length = 4 → mF2 sd g g2 → mAt N r' g2 → g2.1 0 35 = nI (130 * sd + b + bs.length) → g2.1 0 41 = nI z → z ≤ 840 →
        (∀ a, r' = .inr a → g2.1 0 12 = 0 ∧ 4 * (b + bs.length) + 2 ≤ a ∧ 420 * sd + c ≤ z ∧ z ≤ 420 * sd + a ∧ (∀ j q, bs[j]? = some q → mBr g2 sd z (130 * sd + b + j) q) ∧ ∀ i, i < 4 → mLy g2 sd i (130 * sd + b) (420 * sd + c) (X i).1 (X i).2) →
        (W = pBn r' fun a => pBn (pIfs k m a bs) (pLe k)) → (∀ a, r' = .inr a → k.1 a ≠ 136) → xm_go xs_M xk_X9_tellLaw [xt_X9_must, xt_X9_is, xt_X9_fail, xt_X9_goesOn, xt_X9_expression, xt_X9_term] xc_X9_tellLaw Q (xm_drop 8 xc_X9_tellLaw) [.ref 0, .int (nI l), .int (nI (130 * sd + b)), .int x3] [] g2 := by
      intro m r' bs z g2 x3 ml f2 at2 p35 p41 z8 hr hw no
      have go := at67 r' bs (130 * sd + b + bs.length) z g2 f2 at2 p35 (by omega) (by omega) p41 z8 (fun a ha => by obtain ⟨y1, y2, y3, y4, y5, y6⟩ := hr a ha; exact ⟨y1, rfl, y2, y3, y4, y5, y6⟩) (by
        rw [hw]
        cases r' with
        | inl q => rfl
        | inr a =>
          rw [pBn_r, pBn_r]
          cases m <;> (unfold pIfs; rw [if_neg (no a rfl)])) x3
      cases r' with
      | inl q =>
        have fl : mFl q.1 q.2 g2 := at2
        exact xm_run_go hm 3 ⟨fun _ => go, fun w => absurd w fl.n0⟩
      | inr a =>
        obtain ⟨h13, h11, aN⟩ := at2
        have tk2 := tk.r f2.1
        have is0 : (if g2.1 0 13 = 0 ∧ g2.1 3 a = 28 then (1 : Int32) else 0) = 0 := by rw [if_neg (fun w => no a rfl ((nI_lit tk2 aN (c := 136) (by decide) (by decide)).mp w.2))]
        exact xm_run_go hm 7 ⟨fun w => absurd h13 w, fun _ => ⟨(28, a), ⟨rfl, by omega, h11⟩, ⟨fun _ => go, fun w => absurd is0 w⟩⟩⟩
    have at8 : ∀ (m : Nat) (r' : pF ⊕ Nat) (bs : List (vX × vX × vX)) (z : Nat) (g2 : xG) (x3 : Int32), m + bs.length = 4 → mF2 sd g g2 → mAt N r' g2 → g2.1 0 35 = nI (130 * sd + b + bs.length) → g2.1 0 41 = nI z → z ≤ 840 →
        (∀ a, r' = .inr a → g2.1 0 12 = 0 ∧ 4 * (b + bs.length) + 2 ≤ a ∧ 420 * sd + c ≤ z ∧ z ≤ 420 * sd + a ∧ (∀ j q, bs[j]? = some q → mBr g2 sd z (130 * sd + b + j) q) ∧ ∀ i, i < 4 → mLy g2 sd i (130 * sd + b) (420 * sd + c) (X i).1 (X i).2) →
        (W = pBn r' fun a => pBn (pIfs k m a bs) (pLe k)) → x3 = nI bs.length → xm_go xs_M xk_X9_tellLaw [xt_X9_must, xt_X9_is, xt_X9_fail, xt_X9_goesOn, xt_X9_expression, xt_X9_term] xc_X9_tellLaw Q (xm_drop 8 xc_X9_tellLaw) [.ref 0, .int (nI l), .int (nI (130 * sd + b)), .int x3] [] g2 := by
      intro m
      induction m with
      | zero =>
        intro r' bs z g2 x3 ml f2 at2 p35 p41 z8 hr hw hx
        by_cases no : ∀ a, r' = .inr a → k.1 a ≠ 136
        · exact com 0 r' bs z g2 x3 ml f2 at2 p35 p41 z8 hr hw no
        · obtain ⟨a, rfl, ka⟩ : ∃ a, r' = .inr a ∧ k.1 a = 136 := Classical.byContradiction fun h => no fun a ha kk => h ⟨a, ha, kk⟩
          obtain ⟨h13, h11, aN⟩ := at2
          have tk2 := tk.r f2.1
          have t2 := (tk2.2.2 a aN).2.1
          have bl : bs.length = 4 := by omega
          have hx4 : x3 = 4 := by rw [hx, bl]; rfl
          have is1 : ¬ (if g2.1 0 13 = 0 ∧ g2.1 3 a = 28 then (1 : Int32) else 0) = 0 := by rw [if_pos ⟨h13, (nI_lit tk2 aN (c := 136) (by decide) (by decide)).mpr ka⟩]; decide
          have fl : mFl 2 (k.2.1 a) (nFail 2 a g2) := nFail_fl (f := 2) h13 (Or.inr rfl) (by omega) h11 t2
          have gt : ¬ (nFail 2 a g2).1 0 13 ≤ 0 := by rw [fl.1]; decide
          have hWq : W = .inl (2, k.2.1 a) := by
            rw [hw, pBn_r]
            unfold pIfs
            rw [if_pos ka, pBn_l]
          have fin := hQ none (nFail 2 a g2) ⟨rfl, f2.fl _ _, (fun q' h => by rw [hWq] at h; cases h; exact fl), (fun a' bs' e h => by rw [hWq] at h; cases h)⟩
          exact xm_run_go hm 40 ⟨fun w => absurd h13 w, fun _ => ⟨(28, a), ⟨rfl, by omega, h11⟩, ⟨fun w => absurd w is1, fun _ => ⟨fun w => absurd hx4 w, fun _ => ⟨(2, a), ⟨rfl, by omega, h11, Or.inl h13⟩, ⟨fun w => absurd w gt, fun _ => fin⟩⟩⟩⟩⟩⟩
      | succ m ih =>
        intro r' bs z g2 x3 ml f2 at2 p35 p41 z8 hr hw hx
        by_cases no : ∀ a, r' = .inr a → k.1 a ≠ 136
        · exact com (m + 1) r' bs z g2 x3 ml f2 at2 p35 p41 z8 hr hw no
        · obtain ⟨a, rfl, ka⟩ : ∃ a, r' = .inr a ∧ k.1 a = 136 := Classical.byContradiction fun h => no fun a ha kk => h ⟨a, ha, kk⟩
          obtain ⟨h13, h11, aN⟩ := id at2
          obtain ⟨y1, y2, y3, y4, y5, y6⟩ := hr a rfl
          have tk2 := tk.r f2.1
          have a4 : a ≤ 400 := by omega
          have bl : bs.length < 4 := by omega
          generalize hB : 130 * sd + b + bs.length = B at p35
          obtain ⟨r1, hr1⟩ : ∃ r, pBn (.inr a) (pGo k) = r := ⟨_, rfl⟩
          obtain ⟨r2, hr2⟩ : ∃ r, pBn r1 (pEx k) = r := ⟨_, rfl⟩
          obtain ⟨r3, hr3⟩ : ∃ r, pBn (pFs r2) (pMu k 60) = r := ⟨_, rfl⟩
          obtain ⟨r4, hr4⟩ : ∃ r, pBn r3 (pEx k) = r := ⟨_, rfl⟩
          obtain ⟨r5, hr5⟩ : ∃ r, pBn (pFs r4) (pMu k 137) = r := ⟨_, rfl⟩
          obtain ⟨r6, hr6⟩ : ∃ r, pBn r5 (pEx k) = r := ⟨_, rfl⟩
          obtain ⟨r7, hr7⟩ : ∃ r, pBn (pFs r6) (pMu k 138) = r := ⟨_, rfl⟩
          obtain ⟨d1, d3, d5⟩ := pIf_d a4 hr1 hr2 hr3 hr4 hr5
          obtain ⟨ibad, igood⟩ := pIf_c k a r1 r2 r3 r4 r5 r6 r7 hr1 hr2 hr3 hr4 hr5 hr6 hr7
          -- the term, and back to the head
          have at58 : ∀ (g8 : xG), mF2 sd g g8 → mLo B z g2 g8 → mAt N (pFs r4) g8 → g8.1 0 35 = nI B → g8.1 22 B = 1 → g8.1 23 B = nI z → (∃ y, y ≤ 840 ∧ g8.1 0 41 = nI y) → (∀ a2 u a4 v, r2 = .inr (a2, u) → r4 = .inr (a4, v) → g8.1 0 12 = 0 ∧ g8.1 24 B = nI (z + u.length) ∧ g8.1 0 41 = nI (z + u.length + v.length) ∧ mCz g8 z u ∧ mCz g8 (z + u.length) v) → xm_go xs_M xk_X9_tellLaw [xt_X9_must, xt_X9_is, xt_X9_fail, xt_X9_goesOn, xt_X9_expression, xt_X9_term] xc_X9_tellLaw Q (xm_drop 58 xc_X9_tellLaw) [.ref 0, .int (nI l), .int (nI (130 * sd + b)), .int (x3 + 1)] [] g8 := by
            intro g8 f8 lo8 at8 p35 p22 p23 hy hs
            have tk8 := tk.r f8.1
            obtain ⟨p, p4, e11, ok, -⟩ := at8.pos tk8
            have at9 := at8.mu tk8 p4 e11 (c := 137) (by decide) (by decide) (by decide)
            rw [hr5] at at9
            generalize hg9 : nMust 29 p g8 = g9
            have f9 : mF2 sd g g9 := by rw [← hg9]; exact f8.mu _ _
            have k9 : ∀ c, c ≠ 0 → g9.1 c = g8.1 c := fun c hc => by rw [← hg9]; exact (mFw.rf.mu 29 p).2.1 c hc
            have j9 : ∀ j, j ≠ 11 → j ≠ 13 → j ≠ 14 → g9.1 0 j = g8.1 0 j := fun j h1 h2 h3 => by
              rw [← hg9]
              unfold nMust nGo
              split
              · split
                · exact nFail_j h2 h3
                · rw [xg_in, if_neg h1]
              · exact nFail_j h2 h3
            have at9 : mAt N r5 g9 := by rw [← hg9]; exact at9
            have tk9 := tk.r f9.1
            have p35' : g9.1 0 35 = nI B := by rw [j9 35 (by decide) (by decide) (by decide)]; exact p35
            obtain ⟨y, y8, hy⟩ := hy
            have p41' : g9.1 0 41 = nI y := by rw [j9 41 (by decide) (by decide) (by decide)]; exact hy
            have yeq : ∀ a5, r5 = .inr a5 → ∃ a2 u a4 v, r2 = .inr (a2, u) ∧ r4 = .inr (a4, v) ∧ a5 ≤ 400 ∧ a + u.length + v.length + 3 ≤ a5 ∧ y = z + u.length + v.length ∧ g8.1 0 12 = 0 ∧ g8.1 24 B = nI (z + u.length) ∧ mCz g8 z u ∧ mCz g8 (z + u.length) v := fun a5 h => by
              obtain ⟨a2, u, a4', v, e2, e4, x1, x2⟩ := d5 a5 h
              obtain ⟨s1, s2, s3, s4, s5⟩ := hs a2 u a4' v e2 e4
              rw [hy] at s3
              exact ⟨a2, u, a4', v, e2, e4, x1, x2, nI_inj (by omega) (by omega) s3, s1, s2, s4, s5⟩
            have pre : ∀ a5, r5 = .inr a5 → g9.1 0 12 = 0 ∧ 420 * sd ≤ y ∧ y ≤ 420 * sd + a5 := fun a5 h => by
              obtain ⟨a2, u, a4', v, e2, e4, x1, x2, x3, x4, -⟩ := yeq a5 h
              exact ⟨by rw [j9 12 (by decide) (by decide) (by decide)]; exact x4, by omega, by omega⟩
            have next : ∀ (o : Option Value) (g10 : xG), (o = none ∧ mF2 sd g9 g10 ∧ mAt N (pFs (pBn r5 (pEx k))) g10 ∧ g10.1 0 35 = nI (B + 1) ∧ (∃ y, y ≤ 840 ∧ g10.1 0 41 = nI y) ∧ g10.1 25 B = nI y ∧ (∀ c, 20 ≤ c → c ≤ 24 → g10.1 c = g9.1 c) ∧ (∀ j, j ≠ B → g10.1 25 j = g9.1 25 j ∧ g10.1 26 j = g9.1 26 j) ∧ (∀ j, j < y → g10.1 27 j = g9.1 27 j ∧ g10.1 28 j = g9.1 28 j) ∧
                ∀ a' e, pBn r5 (pEx k) = .inr (a', e) → g10.1 0 12 = 0 ∧ g10.1 0 41 = nI (y + e.length) ∧ mCz g10 y e ∧ g10.1 26 B = nI (y + e.length)) → o = none ∧ ∃ p, p ≤ 400 ∧ g10.1 0 11 = nI p ∧ mOk g10 ∧ xm_go xs_M xk_X9_tellLaw [xt_X9_must, xt_X9_is, xt_X9_fail, xt_X9_goesOn, xt_X9_expression, xt_X9_term] xc_X9_tellLaw Q (xm_drop 8 xc_X9_tellLaw) [.ref 0, .int (nI l), .int (nI (130 * sd + b)), .int (x3 + 1)] [] (nMust 30 p g10) := by
              rintro o g10 ⟨rfl, f10, at10, q35, ⟨y', y8', q41⟩, q25, q20, qB, qz, qs⟩
              rw [hr6] at at10 qs
              have f10' := f9.tr f10
              have tk10 := tk.r f10'.1
              obtain ⟨p', p4', e11', ok', -⟩ := at10.pos tk10
              have at11 := at10.mu tk10 p4' e11' (c := 138) (by decide) (by decide) (by decide)
              rw [hr7] at at11
              refine ⟨rfl, p', p4', e11', ok', ?_⟩
              generalize hg11 : nMust 30 p' g10 = g11
              have at11 : mAt N r7 g11 := by rw [← hg11]; exact at11
              have f11 : mF2 sd g g11 := by rw [← hg11]; exact f10'.mu _ _
              have k11 : ∀ c, c ≠ 0 → g11.1 c = g10.1 c := fun c hc => by rw [← hg11]; exact (mFw.rf.mu 30 p').2.1 c hc
              have j11 : ∀ j, j ≠ 11 → j ≠ 13 → j ≠ 14 → g11.1 0 j = g10.1 0 j := fun j h1 h2 h3 => by
                rw [← hg11]
                unfold nMust nGo
                split
                · split
                  · exact nFail_j h2 h3
                  · rw [xg_in, if_neg h1]
                · exact nFail_j h2 h3
              have r35 : g11.1 0 35 = nI (B + 1) := by rw [j11 35 (by decide) (by decide) (by decide)]; exact q35
              have r41 : g11.1 0 41 = nI y' := by rw [j11 41 (by decide) (by decide) (by decide)]; exact q41
              cases h7 : r7 with
              | inl q =>
                rw [h7] at at11
                refine ih (.inl q) (bs ++ [([], [], [])]) y' g11 (x3 + 1) (by rw [List.length_append, List.length_singleton]; omega) f11 at11 (by rw [r35, List.length_append, List.length_singleton, ← hB]; congr 1) r41 y8' (fun a h => by cases h) ?_ (by rw [hx, nI_1, List.length_append, List.length_singleton])
                rw [hw, pBn_r, pBn_l]
                unfold pIfs
                rw [if_pos ka, ibad q h7, pBn_l, pBn_l]
              | inr a7 =>
                rw [h7] at at11
                obtain ⟨a2, u, a4', v, a6, w, e1, e2, e3, e4, e5, e6, e7, eI⟩ := igood a7 h7
                obtain ⟨-, -, -, i4, i5⟩ := pIf_i eI
                obtain ⟨s1, s2, s3, s4⟩ := qs a6 w e6
                obtain ⟨a2', u', a4'', v', e2', e4', x1, x2, yy, -, x24, xu, xv⟩ := yeq (a4' + 1) e5
                rw [e2] at e2'
                cases e2'
                rw [e4] at e4'
                cases e4'
                have y'eq : y' = y + w.length := nI_inj (by omega) (by omega) (q41.symm.trans s2)
                -- what lies below is as it was
                have br : ∀ c j, 22 ≤ c → c ≤ 26 → j ≠ B → g11.1 c j = g2.1 c j := fun c j h1 h2 h3 => by
                  rw [k11 c (by omega)]
                  have e9 : g9.1 c j = g2.1 c j := by rw [k9 c (by omega)]; exact lo8.1 c j h1 h2 h3
                  by_cases h4 : c ≤ 24
                  · rw [q20 c (by omega) h4]; exact e9
                  · have h5 : c = 25 ∨ c = 26 := by omega
                    rcases h5 with h5 | h5 <;> subst h5
                    · rw [(qB j h3).1]; exact e9
                    · rw [(qB j h3).2]; exact e9
                have cd8 : ∀ j, j < y → g11.1 27 j = g8.1 27 j ∧ g11.1 28 j = g8.1 28 j := fun j hj => by
                  rw [k11 27 (by decide), k11 28 (by decide), (qz j hj).1, (qz j hj).2, k9 27 (by decide), k9 28 (by decide)]; exact ⟨rfl, rfl⟩
                have cd : ∀ j, j < z → g11.1 27 j = g2.1 27 j ∧ g11.1 28 j = g2.1 28 j := fun j hj => by
                  rw [(cd8 j (by omega)).1, (cd8 j (by omega)).2]; exact lo8.2.1 j hj
                have nb : mBr g11 sd (y + w.length) B (u, v, w) := by
                  refine ⟨z, by omega, by show z + u.length + v.length + w.length ≤ _; omega, by rw [k11 22 (by decide), q20 22 (by decide) (by decide), k9 22 (by decide)]; exact p22, by rw [k11 23 (by decide), q20 23 (by decide) (by decide), k9 23 (by decide)]; exact p23, by rw [k11 24 (by decide), q20 24 (by decide) (by decide), k9 24 (by decide)]; exact x24, by rw [k11 25 (by decide), q25, yy], by rw [k11 26 (by decide), s4, yy], ?_, ?_, ?_⟩
                  · exact ⟨by show z + u.length ≤ 840; omega, fun i q hq => by
                      have := (List.getElem?_eq_some_iff.mp hq).1
                      dsimp only at this
                      rw [(cd8 (z + i) (by omega)).1, (cd8 (z + i) (by omega)).2]; exact xu i q hq⟩
                  · exact ⟨by show z + u.length + v.length ≤ 840; omega, fun i q hq => by
                      have := (List.getElem?_eq_some_iff.mp hq).1
                      dsimp only at this ⊢
                      rw [(cd8 (z + u.length + i) (by omega)).1, (cd8 (z + u.length + i) (by omega)).2]; exact xv i q hq⟩
                  · refine ⟨by show z + u.length + v.length + w.length ≤ 840; omega, fun i q hq => ?_⟩
                    have := s3 i q hq
                    rw [yy] at this
                    rw [k11 27 (by decide), k11 28 (by decide)]; exact this
                refine ih (.inr a7) (bs ++ [(u, v, w)]) y' g11 (x3 + 1) (by rw [List.length_append, List.length_singleton]; omega) f11 at11 (by rw [r35, List.length_append, List.length_singleton, ← hB]; congr 1) r41 y8' (fun a' h => ?_) ?_ (by rw [hx, nI_1, List.length_append, List.length_singleton])
                · cases h
                  refine ⟨by rw [j11 12 (by decide) (by decide) (by decide)]; exact s1, by rw [List.length_append, List.length_singleton]; omega, by omega, by omega, fun j q hq => ?_, fun i hi => ?_⟩
                  · rcases app_get hq with ⟨h1, h2⟩ | ⟨h1, h2⟩
                    · exact (y5 j q h2).k (fun c h3 h4 => br c _ h3 h4 (by omega)) cd (by omega)
                    · subst h1 h2
                      rw [y'eq, hB]
                      exact nb
                  · exact (y6 i hi).k (by rw [k11 20 (by decide), q20 20 (by decide) (by decide), k9 20 (by decide), lo8.2.2.1]) (by rw [k11 21 (by decide), q20 21 (by decide) (by decide), k9 21 (by decide), lo8.2.2.2]) (fun c j h1 h2 h3 => br c j h1 h2 (by omega)) (fun j hj => cd j (by omega)) (Nat.le_refl _) (Nat.le_refl _)
                · rw [hw, pBn_r, pBn_r]
                  show pBn (if k.1 a = 136 then pBn (pIf k a) fun q => pIfs k m q.1 (bs ++ [q.2]) else pBn (pEx k a) fun e => .inr (e.1, bs, e.2)) (pLe k) = _
                  rw [if_pos ka, eI, pBn_r]
            rw [← hg9] at next at9 p35' p41' tk9
            rw [← hg9] at pre
            refine xm_run_go hm 40 ⟨(29, p), ⟨rfl, p4, e11, ok⟩, (k, N, r5, sd, B, y), ⟨rfl, tk9, at9, pre, sd2, by omega, by omega, p35', p41', y8⟩, ?_⟩
            intro o g10 h10
            obtain ⟨rfl, p', x1, x2, x3', x4⟩ := next o g10 h10
            exact ⟨(30, p'), ⟨rfl, x1, x2, x3'⟩, xm_cut hm x4⟩
          have at43 : ∀ (g5 : xG), mF2 sd g g5 → mLo B z g2 g5 → mAt N (pFs r2) g5 → g5.1 0 35 = nI B → g5.1 22 B = 1 → g5.1 23 B = nI z → (∃ y, y ≤ 840 ∧ g5.1 0 41 = nI y) → (∀ a2 u, r2 = .inr (a2, u) → g5.1 0 12 = 0 ∧ g5.1 0 41 = nI (z + u.length) ∧ mCz g5 z u) → xm_go xs_M xk_X9_tellLaw [xt_X9_must, xt_X9_is, xt_X9_fail, xt_X9_goesOn, xt_X9_expression, xt_X9_term] xc_X9_tellLaw Q (xm_drop 43 xc_X9_tellLaw) [.ref 0, .int (nI l), .int (nI (130 * sd + b)), .int (x3 + 1)] [] g5 := by
            intro g5 f5 lo5 at5 p35 p22 p23 hy hs
            have tk5 := tk.r f5.1
            obtain ⟨p, p4, e11, ok, -⟩ := at5.pos tk5
            have at6 := at5.mu tk5 p4 e11 (c := 60) (by decide) (by decide) (by decide)
            rw [hr3] at at6
            generalize hg6 : nMust 13 p g5 = g6
            have at6 : mAt N r3 g6 := by rw [← hg6]; exact at6
            have f6 : mF2 sd g g6 := by rw [← hg6]; exact f5.mu _ _
            have k6 : ∀ c, c ≠ 0 → g6.1 c = g5.1 c := fun c hc => by rw [← hg6]; exact (mFw.rf.mu 13 p).2.1 c hc
            have j6 : ∀ j, j ≠ 11 → j ≠ 13 → j ≠ 14 → g6.1 0 j = g5.1 0 j := fun j h1 h2 h3 => by
              rw [← hg6]
              unfold nMust nGo
              split
              · split
                · exact nFail_j h2 h3
                · rw [xg_in, if_neg h1]
              · exact nFail_j h2 h3
            obtain ⟨y, y8, hy⟩ := hy
            have p41 : g6.1 0 41 = nI y := by rw [j6 41 (by decide) (by decide) (by decide)]; exact hy
            have p35' : g6.1 0 35 = nI B := by rw [j6 35 (by decide) (by decide) (by decide)]; exact p35
            have b24 : mBz 24 * sd ≤ B ∧ B < mBz 24 * sd + mBz 24 := by rw [show mBz 24 = 130 from rfl]; omega
            generalize hg7 : xm_sI g6 24 B (g6.1 0 41) = g7
            have f7 : mF2 sd g g7 := by rw [← hg7]; exact f6.pu _ ⟨by decide, by decide⟩ b24
            have k7 : ∀ c, c ≠ 24 → g7.1 c = g6.1 c := fun c hc => by rw [← hg7, xg_off _ _ _ hc]
            have lo7 : mLo B z g2 g7 := by rw [← hg7]; exact (lo5.w k6).pu _ ⟨by decide, by decide⟩
            have at7 : mAt N r3 g7 := by
              cases r3 with
              | inl q => exact mFl.k at6 (by rw [k7 0 (by decide)]) (by rw [k7 0 (by decide)]) (by rw [k7 0 (by decide)])
              | inr a => exact ⟨by rw [k7 0 (by decide)]; exact at6.1, by rw [k7 0 (by decide)]; exact at6.2.1, at6.2.2⟩
            have q24 : g7.1 24 B = nI y := by rw [← hg7, xg_in, if_pos rfl]; exact p41
            have q22 : g7.1 22 B = 1 := by rw [k7 22 (by decide), k6 22 (by decide)]; exact p22
            have q23 : g7.1 23 B = nI z := by rw [k7 23 (by decide), k6 23 (by decide)]; exact p23
            have q35 : g7.1 0 35 = nI B := by rw [k7 0 (by decide)]; exact p35'
            have q41 : g7.1 0 41 = nI y := by rw [k7 0 (by decide)]; exact p41
            have tk7 := tk.r f7.1
            have yeq : ∀ a3, r3 = .inr a3 → ∃ a2 u, r2 = .inr (a2, u) ∧ a3 ≤ 400 ∧ a + u.length + 2 ≤ a3 ∧ y = z + u.length ∧ g7.1 0 12 = 0 ∧ mCz g7 z u := fun a3 h => by
              obtain ⟨a2, u, e2, x1, x2, x3⟩ := d3 a3 h
              obtain ⟨s1, s2, s3⟩ := hs a2 u e2
              rw [hy] at s2
              refine ⟨a2, u, e2, x2, x3, nI_inj (by omega) (by omega) s2, by rw [k7 0 (by decide), j6 12 (by decide) (by decide) (by decide)]; exact s1, fun i q hq => ?_⟩
              rw [k7 27 (by decide), k7 28 (by decide), k6 27 (by decide), k6 28 (by decide)]; exact s3 i q hq
            cases h3 : r3 with
            | inl q =>
              rw [h3] at at7 hr4
              have fl : mFl q.1 q.2 g7 := at7
              have n0 : ¬ g7.1 0 13 = 0 := fl.n0
              have go := at58 g7 f7 lo7 (by rw [← hr4]; exact fl) q35 q22 q23 ⟨y, y8, q41⟩ (fun a2 u a4 v _ e4 => by rw [← hr4] at e4; cases e4)
              rw [← hg7] at go n0
              rw [← hg6] at go n0 p35'
              exact xm_run_go hm 13 ⟨(13, p), ⟨rfl, p4, e11, ok⟩, B, ⟨by omega, p35'⟩, ⟨fun _ => go, fun w => absurd w n0⟩⟩
            | inr a3 =>
              obtain ⟨a2, u, e2, x1, x2, yy, x4, x5⟩ := yeq a3 h3
              rw [h3] at at7 hr4
              have h13 : g7.1 0 13 = 0 := at7.1
              have pre := mEx_pre (z := y) tk7 at7 (fun b' hb => by cases hb; exact ⟨x4, by omega⟩)
              have next : ∀ (o : Option Value) (g8 : xG), (o = none ∧ mFs g7 g8 ∧ (∀ j, (j < y ∨ y + (401 - pAa (.inr a3)) ≤ j) → g8.1 27 j = g7.1 27 j ∧ g8.1 28 j = g7.1 28 j) ∧ (∃ y, y ≤ 840 ∧ g8.1 0 41 = nI y) ∧ (∀ f p, mFl f p g7 → mFl f p g8) ∧ (g7.1 0 13 = 0 → (∀ f p, pE k (401 - pAa (.inr a3)) (pAa (.inr a3)) 0 [] [] true = .inl (f, p) → mFl f p g8) ∧ ∀ a' e, pE k (401 - pAa (.inr a3)) (pAa (.inr a3)) 0 [] [] true = .inr (a', e) → g8.1 0 13 = 0 ∧ g8.1 0 11 = nI a' ∧ g8.1 0 12 = 0 ∧ g8.1 0 41 = nI (y + e.length) ∧ mCz g8 y e)) → o = none ∧ xm_go xs_M xk_X9_tellLaw [xt_X9_must, xt_X9_is, xt_X9_fail, xt_X9_goesOn, xt_X9_expression, xt_X9_term] xc_X9_tellLaw Q (xm_drop 58 xc_X9_tellLaw) [.ref 0, .int (nI l), .int (nI (130 * sd + b)), .int (x3 + 1)] [] g8 := by
                rintro o g8 ⟨rfl, h8⟩
                obtain ⟨m1, m2⟩ := mEx tk7 at7 h8
                obtain ⟨f8, lo8, hy8, -, -⟩ := h8
                rw [hr4] at m1 m2
                have pa : pAa (.inr a3) = a3 := rfl
                rw [pa] at lo8
                have k8 : ∀ c, 22 ≤ c → c ≤ 26 → g8.1 c = g7.1 c := fun c h1 h2 => f8.2.1 c (by omega) (by omega) (by omega) (by omega)
                refine ⟨rfl, at58 g8 (f7.tr (f8.f2 (fun j hj => lo8 j (by omega)))) (lo7.s f8 (fun j hj => lo8 j (by omega))) m1 (by rw [f8.2.2 35 (by decide) (by decide) (by decide) (by decide) (by decide) (by decide)]; exact q35) (by rw [k8 22 (by decide) (by decide)]; exact q22) (by rw [k8 23 (by decide) (by decide)]; exact q23) hy8 (fun a2' u' a4' v e2' e4 => ?_)⟩
                rw [e2] at e2'
                cases e2'
                obtain ⟨t1, t2, t3⟩ := m2 a4' v e4
                refine ⟨t1, by rw [k8 24 (by decide) (by decide), q24, yy], by rw [t2, yy], fun i q hq => ?_, by rw [← yy]; exact t3⟩
                have := (List.getElem?_eq_some_iff.mp hq).1
                rw [(lo8 (z + i) (by omega)).1, (lo8 (z + i) (by omega)).2]; exact x5 i q hq
              rw [← hg7] at next pre h13 q41
              rw [← hg6] at next pre h13 q41 p35'
              refine xm_run_go hm 15 ⟨(13, p), ⟨rfl, p4, e11, ok⟩, B, ⟨by omega, p35'⟩, ⟨fun w => absurd h13 w, fun _ => ⟨(k, N, y, pAa (.inr a3)), ⟨rfl, q41, y8, pre⟩, ?_⟩⟩⟩
              intro o g8 h8
              obtain ⟨rfl, go⟩ := next o g8 h8
              exact go
          -- from the head to the first term
          have at3 := mAt.go at2 tk2 a4 h11 (fun b' hb => by cases hb; omega)
          rw [hr1] at at3
          generalize hg3 : nGo a g2 = g3
          have at3 : mAt N r1 g3 := by rw [← hg3]; exact at3
          have f3 : mF2 sd g g3 := by rw [← hg3]; exact f2.go _
          have k3 : ∀ c, c ≠ 0 → g3.1 c = g2.1 c := fun c hc => by rw [← hg3]; exact (mFw.rf.go a).2.1 c hc
          have j3 : ∀ j, j ≠ 11 → j ≠ 13 → j ≠ 14 → g3.1 0 j = g2.1 0 j := fun j h1 h2 h3 => by
            rw [← hg3]
            unfold nGo
            split
            · exact nFail_j h2 h3
            · rw [xg_in, if_neg h1]
          have s35 : g3.1 0 35 = nI B := by rw [j3 35 (by decide) (by decide) (by decide)]; exact p35
          have b22 : mBz 22 * sd ≤ B ∧ B < mBz 22 * sd + mBz 22 := by rw [show mBz 22 = 130 from rfl]; omega
          have b23 : mBz 23 * sd ≤ B ∧ B < mBz 23 * sd + mBz 23 := by rw [show mBz 23 = 130 from rfl]; omega
          generalize hg4 : xm_sI g3 22 B 1 = g4
          have f4 : mF2 sd g g4 := by rw [← hg4]; exact f3.pu _ ⟨by decide, by decide⟩ b22
          have lo4 : mLo B z g2 g4 := by rw [← hg4]; exact (mLo.rf.w k3).pu _ ⟨by decide, by decide⟩
          have k4 : ∀ c, c ≠ 22 → g4.1 c = g3.1 c := fun c hc => by rw [← hg4, xg_off _ _ _ hc]
          have t35 : g4.1 0 35 = nI B := by rw [k4 0 (by decide)]; exact s35
          have t41 : g4.1 0 41 = nI z := by rw [k4 0 (by decide), j3 41 (by decide) (by decide) (by decide)]; exact p41
          have t22 : g4.1 22 B = 1 := by rw [← hg4, xg_in, if_pos rfl]
          generalize hg5 : xm_sI g4 23 B (g4.1 0 41) = g5
          have f5 : mF2 sd g g5 := by rw [← hg5]; exact f4.pu _ ⟨by decide, by decide⟩ b23
          have lo5 : mLo B z g2 g5 := by rw [← hg5]; exact lo4.pu _ ⟨by decide, by decide⟩
          have k5 : ∀ c, c ≠ 23 → g5.1 c = g4.1 c := fun c hc => by rw [← hg5, xg_off _ _ _ hc]
          have u0 : ∀ j, g5.1 0 j = g3.1 0 j := fun j => by rw [k5 0 (by decide), k4 0 (by decide)]
          have at5 : mAt N r1 g5 := by
            cases r1 with
            | inl q => exact mFl.k at3 (u0 _) (u0 _) (u0 _)
            | inr a => exact ⟨(u0 _).trans at3.1, (u0 _).trans at3.2.1, at3.2.2⟩
          have u22 : g5.1 22 B = 1 := by rw [k5 22 (by decide)]; exact t22
          have u23 : g5.1 23 B = nI z := by rw [← hg5, xg_in, if_pos rfl]; exact t41
          have u41 : g5.1 0 41 = nI z := by rw [k5 0 (by decide)]; exact t41
          have u35 : g5.1 0 35 = nI B := by rw [k5 0 (by decide)]; exact t35
          have u12 : g5.1 0 12 = 0 := by rw [u0, j3 12 (by decide) (by decide) (by decide)]; exact y1
          have tk5 := tk.r f5.1
          have pre := mEx_pre (z := z) tk5 at5 (fun b' hb => by have := d1 b' hb; exact ⟨u12, by omega⟩)
          have next : ∀ (o : Option Value) (g6 : xG), (o = none ∧ mFs g5 g6 ∧ (∀ j, (j < z ∨ z + (401 - pAa r1) ≤ j) → g6.1 27 j = g5.1 27 j ∧ g6.1 28 j = g5.1 28 j) ∧ (∃ y, y ≤ 840 ∧ g6.1 0 41 = nI y) ∧ (∀ f p, mFl f p g5 → mFl f p g6) ∧ (g5.1 0 13 = 0 → (∀ f p, pE k (401 - pAa r1) (pAa r1) 0 [] [] true = .inl (f, p) → mFl f p g6) ∧ ∀ a' e, pE k (401 - pAa r1) (pAa r1) 0 [] [] true = .inr (a', e) → g6.1 0 13 = 0 ∧ g6.1 0 11 = nI a' ∧ g6.1 0 12 = 0 ∧ g6.1 0 41 = nI (z + e.length) ∧ mCz g6 z e)) → o = none ∧ xm_go xs_M xk_X9_tellLaw [xt_X9_must, xt_X9_is, xt_X9_fail, xt_X9_goesOn, xt_X9_expression, xt_X9_term] xc_X9_tellLaw Q (xm_drop 43 xc_X9_tellLaw) [.ref 0, .int (nI l), .int (nI (130 * sd + b)), .int (x3 + 1)] [] g6 := by
            rintro o g6 ⟨rfl, h6⟩
            obtain ⟨m1, m2⟩ := mEx tk5 at5 h6
            obtain ⟨f6, lo6, hy6, -, -⟩ := h6
            rw [hr2] at m1 m2
            have pa : pAa r1 = 401 ∨ pAa r1 = a + 1 := by
              cases h1 : r1 with
              | inl q => exact Or.inl rfl
              | inr a1 => right; exact d1 a1 h1
            have k6 : ∀ c, 22 ≤ c → c ≤ 26 → g6.1 c = g5.1 c := fun c h1 h2 => f6.2.1 c (by omega) (by omega) (by omega) (by omega)
            exact ⟨rfl, at43 g6 (f5.tr (f6.f2 (fun j hj => lo6 j (by omega)))) (lo5.s f6 (fun j hj => lo6 j (Or.inl hj))) m1 (by rw [f6.2.2 35 (by decide) (by decide) (by decide) (by decide) (by decide) (by decide)]; exact u35) (by rw [k6 22 (by decide) (by decide)]; exact u22) (by rw [k6 23 (by decide) (by decide)]; exact u23) hy6 m2⟩
          have is1 : ¬ (if g2.1 0 13 = 0 ∧ g2.1 3 a = 28 then (1 : Int32) else 0) = 0 := by rw [if_pos ⟨h13, (nI_lit tk2 aN (c := 136) (by decide) (by decide)).mpr ka⟩]; decide
          have nx4 : ¬ x3 = 4 := by
            rw [hx]
            exact fun w => absurd (nI_inj (b := 4) (by omega) (by decide) w) (by omega)
          have le : g2.1 0 13 ≤ 0 := by rw [h13]; decide
          rw [← hg5] at next pre u41
          rw [← hg4] at next pre u41 t35
          rw [← hg3] at next pre u41 t35 s35
          refine xm_run_go hm 31 ⟨fun w => absurd h13 w, fun _ => ⟨(28, a), ⟨rfl, a4, h11⟩, ⟨fun w => absurd w is1, fun _ => ⟨fun _ => ⟨fun _ => ⟨a, ⟨rfl, a4, h11, Or.inl h13⟩, B, ⟨by omega, s35, Or.inr rfl⟩, B, ⟨by omega, t35⟩, (k, N, z, pAa r1), ⟨rfl, u41, z8, pre⟩, ?_⟩, fun w => absurd le (Int32.not_le.mpr w)⟩, fun w => absurd w nx4⟩⟩⟩⟩
          intro o g6 h6
          obtain ⟨rfl, go⟩ := next o g6 h6
          exact go
    -- the sign, and the head
    obtain ⟨p, p4, e11, ok, -⟩ := hat.pos tk
    have at1 := hat.mu tk p4 e11 (c := 61) (by decide) (by decide) (by decide)
    generalize hg1 : nMust 5 p g = g1
    have at1 : mAt N (pBn r (pMu k 61)) g1 := by rw [← hg1]; exact at1
    have f1 : mF2 sd g g1 := by rw [← hg1]; exact mF2.rf.mu _ _
    have k1 : ∀ c, c ≠ 0 → g1.1 c = g.1 c := fun c hc => by rw [← hg1]; exact (mFw.rf.mu 5 p).2.1 c hc
    have j1 : ∀ j, j ≠ 11 → j ≠ 13 → j ≠ 14 → g1.1 0 j = g.1 0 j := fun j h1 h2 h3 => by
      rw [← hg1]
      unfold nMust nGo
      split
      · split
        · exact nFail_j h2 h3
        · rw [xg_in, if_neg h1]
      · exact nFail_j h2 h3
    have p35 : g1.1 0 35 = nI (130 * sd + b) := by rw [j1 35 (by decide) (by decide) (by decide)]; exact e35
    have go := at8 4 (pBn r (pMu k 61)) [] (420 * sd + c) g1 0 rfl f1 at1 p35 (by rw [j1 41 (by decide) (by decide) (by decide)]; exact e41) (by omega) (fun a ha => by
      obtain ⟨a0, h0, -, h2, h3⟩ := pCi ha
      have := hbc a0 h0
      refine ⟨by rw [j1 12 (by decide) (by decide) (by decide)]; exact e12, by show 4 * (b + 0) + 2 ≤ a; omega, Nat.le_refl _, by omega, (fun j q hq => by cases hq), fun i hi => (old i hi).k (by rw [k1 20 (by decide)]) (by rw [k1 21 (by decide)]) (fun c j _ _ _ => by rw [k1 c (by omega)]) (fun j _ => by rw [k1 27 (by decide), k1 28 (by decide)]; exact ⟨rfl, rfl⟩) (Nat.le_refl _) (Nat.le_refl _)⟩) (by rw [← hW]; rfl) rfl
    rw [← p35, ← hg1] at go
    exact xm_run_go hm 20 ⟨(5, p), ⟨rfl, p4, e11, ok⟩, xm_cut hm go⟩
