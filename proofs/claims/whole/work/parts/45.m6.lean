-- the whole state of the reference
def mRow (b o : Nat) (c : vSc) (g : xG) : Prop := (∀ i, i < 30 → g.1 b (o + i) = cG c i) ∧ (∀ k, k < 6 → g.1 b (o + (30 + k)) = nI (cR c k)) ∧ g.1 b (o + 36) = cK c ∧ g.1 b (o + 37) = cP c
theorem mRow.cp {b o b' o' : Nat} {c : vSc} {g g' : xG} (h : mRow b o c g) (e : ∀ j, j < 38 → g'.1 b' (o' + j) = g.1 b (o + j)) : mRow b' o' c g' :=
  ⟨fun i hi => by rw [e i (by omega)]; exact h.1 i hi, fun k hk => by rw [e (30 + k) (by omega)]; exact h.2.1 k hk, by rw [e 36 (by omega)]; exact h.2.2.1, by rw [e 37 (by omega)]; exact h.2.2.2⟩
theorem mRaw.row {b : Nat} {c : vSc} {g : xG} (h : mRaw b c g) : mRow b 0 c g := by
  unfold mRow; simp only [Nat.zero_add]; exact h
theorem mRow.raw {b : Nat} {c : vSc} {g : xG} (h : mRow b 0 c g) : mRaw b c g := by
  unfold mRow at h; simp only [Nat.zero_add] at h; exact h
def mTape (n : Nat) (tb : Nat → Int32) (g : xG) : Prop := g.1 0 2 = nI n ∧ ∀ i, i < n → g.1 1 i = tb i
def mHis (k : Nat) (hs : Nat → vSc) (g : xG) : Prop := g.1 0 54 = nI k ∧ ∀ i, i < k → mRow 35 (38 * i) (hs i) g
def mTold (d : vTold) (g : xG) : Prop := g.1 0 59 = nI d.1 ∧ ∀ i, i < d.1 → g.1 39 i = nI (d.2.1 i) ∧ d.2.1 i < 4 ∧ g.1 40 i = d.2.2.1 i ∧ g.1 41 i = if d.2.2.2 i then 1 else 0
/-- the words, as letters -/
def pWl : List (List Nat) := [[19, 12, 9, 4, 5], [16, 5, 18, 19, 15, 14], [19, 8, 15, 23, 14], [20, 1, 11, 5, 19], [6, 1, 4, 5, 19], [16, 1, 25, 19], [23, 1, 19, 8, 5, 19], [19, 5, 5, 4], [9, 6], [20, 8, 5, 14], [5, 12, 19, 5], [7, 12, 15, 23], [23, 1, 18, 13], [2, 18, 9, 7, 8, 20], [23, 5, 5, 11], [19, 5, 1, 20], [10, 15, 9, 14, 19], [23, 8, 9, 3, 8], [15, 20, 8, 5, 18, 19], [19, 12, 9, 4, 5, 19]]
def mKey (g : xG) : Prop := ∀ i, i < 20 → g.2.1 7 i = ((pWl[i]?).getD []).foldl (fun n x => n * 27 + lN x) 0
def mHeld (sl : Nat → Option vSc) (g : xG) : Prop := (∀ s, s < 3 → (g.1 42 s = if (sl s).isSome then 1 else 0) ∧ ∀ c, sl s = some c → mRow 43 (38 * s) c g) ∧ mKey g
def mTp (lv : Nat) (σ : vS) (g : xG) : Prop := vOk σ ∧ mSto lv (sT σ) g ∧ mRaw 32 (sC σ) g ∧ mTape (sN σ) (sB σ) g ∧ g.1 0 17 = sP σ ∧ mHis (sK σ) (sH σ) g ∧ mTold (sD σ) g ∧ mHeld (sL σ) g
def mFq (g g' : xG) : Prop := (∀ k, k ≠ 0 → k ≠ 30 → k ≠ 31 → k ≠ 33 → k ≠ 34 → k ≠ 36 → k ≠ 37 → k ≠ 38 → g'.1 k = g.1 k) ∧ (∀ j, j ≠ 48 → j ≠ 51 → j ≠ 52 → g'.1 0 j = g.1 0 j) ∧ g'.2 = g.2
theorem mFq.rf {g : xG} : mFq g g := ⟨fun _ _ _ _ _ _ _ _ _ => rfl, fun _ _ _ _ => rfl, rfl⟩
theorem mFq.tr {g g1 g2 : xG} (h : mFq g g1) (h2 : mFq g1 g2) : mFq g g2 := ⟨fun k a1 a2 a3 a4 a5 a6 a7 a8 => (h2.1 k a1 a2 a3 a4 a5 a6 a7 a8).trans (h.1 k a1 a2 a3 a4 a5 a6 a7 a8), fun j a b c => (h2.2.1 j a b c).trans (h.2.1 j a b c), h2.2.2.trans h.2.2⟩
theorem mFb.q {g g' : xG} (h : mFb g g') : mFq g g' := ⟨fun k a1 a2 a3 a4 a5 _ _ _ => h.1 k a1 a2 a3 a4 a5, fun j a _ _ => h.2.1 j a, h.2.2⟩
theorem mFa.q {g g' : xG} (h : mFa g g') : mFq g g' := h.b'.q
theorem mFq.p {g g1 : xG} (h : mFq g g1) {k : Nat} (j : Nat) (v : Int32) (hk : k = 33 ∨ k = 36 ∨ k = 37 ∨ k = 38) : mFq g (xm_sI g1 k j v) := ⟨fun a a1 a2 a3 a4 a5 a6 a7 a8 => (xg_off g1 j v (by omega)).trans (h.1 a a1 a2 a3 a4 a5 a6 a7 a8), fun i a b c => by rw [xg_off g1 j v (by omega)]; exact h.2.1 i a b c, h.2.2⟩
theorem mFq.f {g g1 : xG} (h : mFq g g1) {j : Nat} (v : Int32) (hj : j = 51 ∨ j = 52) : mFq g (xm_sI g1 0 j v) := ⟨fun a a1 a2 a3 a4 a5 a6 a7 a8 => (xg_off g1 j v a1).trans (h.1 a a1 a2 a3 a4 a5 a6 a7 a8), fun i a b c => by rw [xg_in, if_neg (by omega)]; exact h.2.1 i a b c, h.2.2⟩
theorem mSto.q {lv : Nat} {t : vSt} {g g' : xG} (h : mSto lv t g) (f : mFq g g') : mSto lv t g' := h.fr (f.2.1 18 (by omega) (by omega) (by omega)) (fun k h1 h2 => f.1 k (by omega) (by omega) (by omega) (by omega) (by omega) (by omega) (by omega) (by omega))
theorem mTape.fr {n : Nat} {tb : Nat → Int32} {g g' : xG} (h : mTape n tb g) (e0 : g'.1 0 2 = g.1 0 2) (e1 : g'.1 1 = g.1 1) : mTape n tb g' := ⟨e0.trans h.1, fun i hi => by rw [e1]; exact h.2 i hi⟩
theorem mHis.fr {k : Nat} {hs : Nat → vSc} {g g' : xG} (h : mHis k hs g) (e0 : g'.1 0 54 = g.1 0 54) (e1 : g'.1 35 = g.1 35) : mHis k hs g' := ⟨e0.trans h.1, fun i hi => (h.2 i hi).cp (fun j _ => by rw [e1])⟩
theorem mTold.fr {d : vTold} {g g' : xG} (h : mTold d g) (e0 : g'.1 0 59 = g.1 0 59) (e : ∀ k, 39 ≤ k → k ≤ 41 → g'.1 k = g.1 k) : mTold d g' := ⟨e0.trans h.1, fun i hi => by rw [e 39 (by omega) (by omega), e 40 (by omega) (by omega), e 41 (by omega) (by omega)]; exact h.2 i hi⟩
theorem mHeld.fr {sl : Nat → Option vSc} {g g' : xG} (h : mHeld sl g) (e2 : g'.1 42 = g.1 42) (e3 : g'.1 43 = g.1 43) (e : g'.2.1 7 = g.2.1 7) : mHeld sl g' := ⟨fun s hs => ⟨by rw [e2]; exact (h.1 s hs).1, fun c hc => ((h.1 s hs).2 c hc).cp (fun j _ => by rw [e3])⟩, fun i hi => by rw [e]; exact h.2 i hi⟩
theorem mTp.q {lv : Nat} {σ : vS} {g g' : xG} (h : mTp lv σ g) (f : mFq g g') : mTp lv σ g' := by
  obtain ⟨h1, h2, h3, h4, h5, h6, h7, h8⟩ := h
  have e : ∀ k, (k = 1 ∨ k = 32 ∨ k = 35 ∨ 39 ≤ k) → g'.1 k = g.1 k := fun k hk => f.1 k (by omega) (by omega) (by omega) (by omega) (by omega) (by omega) (by omega) (by omega)
  have e0 : ∀ j, j < 48 ∨ 53 ≤ j → g'.1 0 j = g.1 0 j := fun j hj => f.2.1 j (by omega) (by omega) (by omega)
  exact ⟨h1, h2.q f, h3.fr (e 32 (by omega)), h4.fr (e0 2 (by omega)) (e 1 (by omega)), (e0 17 (by omega)).trans h5, h6.fr (e0 54 (by omega)) (e 35 (by omega)), h7.fr (e0 59 (by omega)) (fun k _ _ => e k (by omega)), h8.fr (e 42 (by omega)) (e 43 (by omega)) (by rw [f.2.2])⟩
theorem mTp.l {lv : Nat} {σ : vS} {g : xG} (h : mTp lv σ g) : g.1 0 18 = nI lv := h.2.1.2.1
theorem mTp.lv {lv : Nat} {σ : vS} {g : xG} (h : mTp lv σ g) : lv < 2 := h.2.1.1
theorem mTp.n {lv : Nat} {σ : vS} {g : xG} (h : mTp lv σ g) : g.1 10 lv = nI (tN (sT σ)) := h.2.1.2.2.1
theorem mTp.m {lv : Nat} {σ : vS} {g : xG} (h : mTp lv σ g) : g.1 14 lv = nI (tM (sT σ)) := h.2.1.2.2.2.1
theorem mTp.m6 {lv : Nat} {σ : vS} {g : xG} (h : mTp lv σ g) : tM (sT σ) ≤ 6 := h.1.1.2.1
theorem mTp.n5 {lv : Nat} {σ : vS} {g : xG} (h : mTp lv σ g) : tN (sT σ) ≤ 5 := h.1.1.1
theorem mTp.c {lv : Nat} {σ : vS} {g : xG} (h : mTp lv σ g) : vCok (sT σ) (sC σ) := h.1.2.1
def xt_X9_copies : xT := xm_rl (Z := Nat × vS) (fun (lv, σ) av g => av = [.ref 0] ∧ mTp lv σ g) (fun (lv, σ) g o g' => o = none ∧ mIn lv (sT σ) (sC σ) g' ∧ mFq g g' ∧ g'.1 0 51 = tS (sT σ) ∧ g'.1 0 52 = 0)
set_option maxRecDepth 100000 in
set_option maxHeartbeats 400000 in
theorem xp_X9_copies {l : Launch} {D : va_G} {cA : Nat → ClassId} {B : List (Nat × Cell)} : xm_Met l D cA B xs_M 0 yX9_copies cX9_copies 2 none xt_X9_copies := by
  have hm : xm_monos [] := xm_m0
  refine xm_meth (own := RX9) (ks := xk_X9_copies) (C := xc_X9_copies) (Ts := []) (by decide +kernel) rfl xm_clsok xs_M_ok xf_X9_ok xi_X9_ok xj_X9_ok xm_lk0 xo_X9_copies ?_ ?_
  · rintro av g Q ⟨z, ⟨rfl, -⟩, -⟩
    exact Nat.le_of_ble_eq_true rfl
  · rintro av g Q ⟨⟨lv, σ⟩, ⟨rfl, h⟩, hQ⟩
    dsimp only at h hQ
    have hl := h.lv
    have loop : ∀ d k, k + d = 38 → ∀ g1, mFq g g1 → (∀ j, j < k → g1.1 33 j = g.1 32 j) → xm_go xs_M xk_X9_copies [] xc_X9_copies Q (xm_drop 2 xc_X9_copies) [.ref 0, .int (nI k)] [] g1 := by
      intro d
      induction d with
      | zero =>
        intro k hk g1 f1 e1
        have hk : k = 38 := by omega
        subst hk
        have h1 := h.q f1
        refine xm_run_go hm 30 ⟨fun _ => ⟨lv, ⟨hl, h1.l⟩, Or.inl rfl, hQ _ _ ⟨rfl, ⟨h.1.1, h.c, h1.2.1.q ((mFq.rf.f _ (by omega)).f _ (by omega)), ?_⟩, (f1.f _ (by omega)).f _ (by omega), ?_, ?_⟩⟩, fun z => absurd z (by decide)⟩
        · refine (h.2.2.1.row.cp (fun j hj => ?_)).raw
          rw [xg_off _ _ _ (by decide), xg_off _ _ _ (by decide), Nat.zero_add]; exact e1 j hj
        · rw [xg_in, if_neg (by decide), xg_in, if_pos rfl]; exact h1.2.1.2.2.2.2.2.2.1
        · rw [xg_in, if_pos rfl]
      | succ d ih =>
        intro k hk g1 f1 e1
        have nx := ih (k + 1) (by omega)
        rw [nI_succ] at nx
        refine xm_run_go hm 30 ⟨fun z => absurd z (nI_ge (b := 38) (by omega) (by omega)), fun _ => ⟨k, ⟨by omega, rfl⟩, k, ⟨by omega, rfl⟩, xm_cut hm (nx _ (f1.p _ _ (by omega)) (fun j hj => ?_))⟩⟩
        rw [xg_in]
        by_cases z : j = k
        · rw [if_pos z, f1.1 32 (by decide) (by decide) (by decide) (by decide) (by decide) (by decide) (by decide) (by decide), z]
        · rw [if_neg z]; exact e1 j (by omega)
    exact xm_run_go hm 20 (xm_cut hm (loop 38 0 rfl g mFq.rf (fun j hj => absurd hj (by omega))))
def xt_X9_copiesStill : xT := xm_rl (Z := Nat × vS) (fun (lv, σ) av g => av = [.ref 0] ∧ mTp lv σ g) (fun (lv, σ) g o g' => o = none ∧ mIn lv (sT σ) (sC σ) g' ∧ mFq g g' ∧ g'.1 0 51 = tS (sT σ) ∧ g'.1 0 52 = 1)
set_option maxRecDepth 100000 in
set_option maxHeartbeats 400000 in
theorem xp_X9_copiesStill {l : Launch} {D : va_G} {cA : Nat → ClassId} {B : List (Nat × Cell)} : xm_Met l D cA B xs_M 1 yX9_copiesStill cX9_copiesStill 1 none xt_X9_copiesStill := by
  have hm : xm_monos [xt_X9_copies] := ⟨(by first | exact xm_fn_mono _ _ _ | exact xm_rl_mono _ _), trivial⟩
  refine xm_meth (own := RX9) (ks := xk_X9_copiesStill) (C := xc_X9_copiesStill) (Ts := [xt_X9_copies]) (by decide +kernel) rfl xm_clsok xs_M_ok xf_X9_ok xi_X9_ok xj_X9_ok (xm_lk xl_X9_320 xp_X9_copies (by decide) xm_lk0) xo_X9_copiesStill ?_ ?_
  · rintro av g Q ⟨z, ⟨rfl, -⟩, -⟩
    exact Nat.le_of_ble_eq_true rfl
  · rintro av g Q ⟨⟨lv, σ⟩, ⟨rfl, h⟩, hQ⟩
    dsimp only at h hQ
    refine xm_run_go hm 20 ⟨(lv, σ), ⟨rfl, h⟩, ?_⟩
    rintro o g1 ⟨rfl, i1, f1, e1, e2⟩
    refine ⟨Or.inr rfl, hQ _ _ ⟨rfl, ⟨i1.1, i1.2.1, i1.2.2.1.q (mFq.rf.f _ (by omega)), i1.2.2.2.fr (xg_off _ _ _ (by decide))⟩, f1.f _ (by omega), ?_, ?_⟩⟩
    · rw [xg_in, if_neg (by decide)]; exact e1
    · rw [xg_in, if_pos rfl]
/-- the row becomes what is now -/
def mF32 (g g' : xG) : Prop := (∀ k, k ≠ 32 → g'.1 k = g.1 k) ∧ g'.2 = g.2
theorem mF32.rf {g : xG} : mF32 g g := ⟨fun _ _ => rfl, rfl⟩
theorem mF32.p {g g1 : xG} (h : mF32 g g1) (j : Nat) (v : Int32) : mF32 g (xm_sI g1 32 j v) := ⟨fun a h1 => (xg_off g1 j v h1).trans (h.1 a h1), h.2⟩
def xt_X9_keepsRow : xT := xm_rl (Z := Unit) (fun _ av g => av = [.ref 0] ∧ True) (fun _ g o g' => o = none ∧ mF32 g g' ∧ ∀ j, j < 38 → g'.1 32 j = g.1 33 j)
set_option maxRecDepth 100000 in
set_option maxHeartbeats 400000 in
theorem xp_X9_keepsRow {l : Launch} {D : va_G} {cA : Nat → ClassId} {B : List (Nat × Cell)} : xm_Met l D cA B xs_M 0 yX9_keepsRow cX9_keepsRow 2 none xt_X9_keepsRow := by
  have hm : xm_monos [] := xm_m0
  refine xm_meth (own := RX9) (ks := xk_X9_keepsRow) (C := xc_X9_keepsRow) (Ts := []) (by decide +kernel) rfl xm_clsok xs_M_ok xf_X9_ok xi_X9_ok xj_X9_ok xm_lk0 xo_X9_keepsRow ?_ ?_
  · rintro av g Q ⟨z, ⟨rfl, -⟩, -⟩
    exact Nat.le_of_ble_eq_true rfl
  · rintro av g Q ⟨_, ⟨rfl, -⟩, hQ⟩
    dsimp only at hQ
    have loop : ∀ d k, k + d = 38 → ∀ g1, mF32 g g1 → (∀ j, j < k → g1.1 32 j = g.1 33 j) → xm_go xs_M xk_X9_keepsRow [] xc_X9_keepsRow Q (xm_drop 2 xc_X9_keepsRow) [.ref 0, .int (nI k)] [] g1 := by
      intro d
      induction d with
      | zero =>
        intro k hk g1 f1 e1
        have hk : k = 38 := by omega
        subst hk
        exact xm_run_go hm 30 ⟨fun _ => hQ _ _ ⟨rfl, f1, e1⟩, fun z => absurd z (by decide)⟩
      | succ d ih =>
        intro k hk g1 f1 e1
        have nx := ih (k + 1) (by omega)
        rw [nI_succ] at nx
        refine xm_run_go hm 30 ⟨fun z => absurd z (nI_ge (b := 38) (by omega) (by omega)), fun _ => ⟨k, ⟨by omega, rfl⟩, k, ⟨by omega, rfl⟩, xm_cut hm (nx _ (f1.p _ _) (fun j hj => ?_))⟩⟩
        rw [xg_in]
        by_cases z : j = k
        · rw [if_pos z, f1.1 33 (by decide), z]
        · rw [if_neg z]; exact e1 j (by omega)
    exact xm_run_go hm 20 (xm_cut hm (loop 38 0 rfl g mF32.rf (fun j hj => absurd hj (by omega))))
/-- what was is put by -/
def mFh (g g' : xG) : Prop := (∀ k, k ≠ 0 → k ≠ 35 → g'.1 k = g.1 k) ∧ (∀ j, j ≠ 54 → g'.1 0 j = g.1 0 j) ∧ g'.2 = g.2
theorem mFh.rf {g : xG} : mFh g g := ⟨fun _ _ _ => rfl, fun _ _ => rfl, rfl⟩
theorem mFh.p {g g1 : xG} (h : mFh g g1) (j : Nat) (v : Int32) : mFh g (xm_sI g1 35 j v) := ⟨fun a h0 h1 => (xg_off g1 j v h1).trans (h.1 a h0 h1), fun i hi => by rw [xg_off _ _ _ (by decide)]; exact h.2.1 i hi, h.2.2⟩
theorem mFh.u {g g1 : xG} (h : mFh g g1) (v : Int32) : mFh g (xm_sI g1 0 54 v) := ⟨fun a h0 h1 => (xg_off g1 54 v h0).trans (h.1 a h0 h1), fun i hi => by rw [xg_in, if_neg hi]; exact h.2.1 i hi, h.2.2⟩
theorem xn_38k (a b : Nat) : 38 * nI a + nI b = nI (38 * a + b) := by rw [show (38 : Int32) = nI 38 from rfl, pk_mul, nI_add]
def xt_X9_records : xT := xm_rl (Z := Nat × vS × vSc) (fun (lv, σ, c) av g => av = [.ref 0] ∧ mTp lv σ g ∧ mIn lv (sT σ) c g) (fun (lv, σ, c) g o g' => o = none ∧ mTp lv (uP σ c) g' ∧ mIn lv (sT σ) c g')
set_option maxRecDepth 100000 in
set_option maxHeartbeats 400000 in
theorem xp_X9_records {l : Launch} {D : va_G} {cA : Nat → ClassId} {B : List (Nat × Cell)} : xm_Met l D cA B xs_M 1 yX9_records cX9_records 2 none xt_X9_records := by
  have hm : xm_monos [xt_X9_keepsRow] := ⟨(by first | exact xm_fn_mono _ _ _ | exact xm_rl_mono _ _), trivial⟩
  refine xm_meth (own := RX9) (ks := xk_X9_records) (C := xc_X9_records) (Ts := [xt_X9_keepsRow]) (by decide +kernel) rfl xm_clsok xs_M_ok xf_X9_ok xi_X9_ok xj_X9_ok (xm_lk xl_X9_160 xp_X9_keepsRow (by decide) xm_lk0) xo_X9_records ?_ ?_
  · rintro av g Q ⟨z, ⟨rfl, -⟩, -⟩
    exact Nat.le_of_ble_eq_true rfl
  · rintro av g Q ⟨⟨lv, σ, c⟩, ⟨rfl, h, hi⟩, hQ⟩
    dsimp only at h hi hQ
    obtain ⟨h1, h2, h3, h4, h5, h6, h7, h8⟩ := id h
    have k40 := h1.2.2.2.1
    -- the second loop: what is now goes behind the others
    have tail : ∀ g1 u, mFh g g1 → u < 40 → u + 1 = vPushN (sK σ) → g1.1 0 54 = nI u → (∀ i, i < u → mRow 35 (38 * i) (vPush (sK σ) (sH σ) (sC σ) i) g1) → vPush (sK σ) (sH σ) (sC σ) u = sC σ → xm_go xs_M xk_X9_records [xt_X9_keepsRow] xc_X9_records Q (xm_drop 29 xc_X9_records) [.ref 0, .int (nI 0)] [] g1 := by
      intro g1 u f1 hu hu2 e54 rows lastc
      have loop : ∀ d k, k + d = 38 → ∀ g2, mFh g g2 → g2.1 0 54 = nI u → (∀ i, i < 38 * u → g2.1 35 i = g1.1 35 i) → (∀ j, j < k → g2.1 35 (38 * u + j) = g.1 32 j) → xm_go xs_M xk_X9_records [xt_X9_keepsRow] xc_X9_records Q (xm_drop 29 xc_X9_records) [.ref 0, .int (nI k)] [] g2 := by
        intro d
        induction d with
        | zero =>
          intro k hk g2 f2 e2 a1 a2
          have hk : k = 38 := by omega
          subst hk
          refine xm_run_go hm 40 ⟨fun _ => ⟨(), ⟨rfl, trivial⟩, ?_⟩, fun z => absurd z (by decide)⟩
          rintro o g3 ⟨rfl, f3, e3⟩
          have k3 : ∀ k, k ≠ 0 → k ≠ 35 → k ≠ 32 → g3.1 k = g.1 k := fun k q0 q1 q2 => by rw [f3.1 k q2, xg_off _ _ _ q0]; exact f2.1 k q0 q1
          have j3 : ∀ j, j ≠ 54 → g3.1 0 j = g.1 0 j := fun j q => by rw [f3.1 0 (by decide), xg_in, if_neg q]; exact f2.2.1 j q
          have e35 : g3.1 35 = g2.1 35 := by rw [f3.1 35 (by decide), xg_off _ _ _ (by decide)]
          have sto3 : mSto lv (sT σ) g3 := h2.fr (j3 18 (by decide)) (fun k q1 q2 => k3 k (by omega) (by omega) (by omega))
          have raw3 : mRaw 33 c g3 := hi.2.2.2.fr (k3 33 (by decide) (by decide) (by decide))
          refine hQ _ _ ⟨rfl, ⟨vOk_put h1 hi.2.1, sto3, ?_, h4.fr (j3 2 (by decide)) (k3 1 (by decide) (by decide) (by decide)), (j3 17 (by decide)).trans h5, ⟨?_, fun i hi2 => ?_⟩, h7.fr (j3 59 (by decide)) (fun k q1 q2 => k3 k (by omega) (by omega) (by omega)), h8.fr (k3 42 (by decide) (by decide) (by decide)) (k3 43 (by decide) (by decide) (by decide)) (by rw [f3.2]; exact congrArg (fun q => q.1 7) f2.2.2)⟩, hi.1, hi.2.1, sto3, raw3⟩
          · refine (raw3.row.cp (fun j hj => ?_)).raw
            rw [Nat.zero_add, e3 j hj, xg_off _ _ _ (by decide), k3 33 (by decide) (by decide) (by decide)]
            exact congrFun (f2.1 33 (by decide) (by decide)) j
          · rw [f3.1 0 (by decide), xg_in, if_pos rfl, e2, nI_1, hu2]; rfl
          · have hi2 : i < vPushN (sK σ) := hi2
            by_cases z : i = u
            · subst z
              show mRow 35 (38 * i) (vPush (sK σ) (sH σ) (sC σ) i) g3
              rw [lastc]
              refine h3.row.cp (fun j hj => ?_)
              rw [e35, a2 j hj, Nat.zero_add]
            · exact (rows i (by omega)).cp (fun j hj => by rw [e35]; exact a1 _ (by omega))
        | succ d ih =>
          intro k hk g2 f2 e2 a1 a2
          have nx := ih (k + 1) (by omega)
          rw [nI_succ] at nx
          refine xm_run_go hm 40 ⟨fun z => absurd z (nI_ge (b := 38) (by omega) (by omega)), fun _ => ⟨k, ⟨by omega, rfl⟩, 38 * u + k, ⟨by omega, ?_⟩, xm_cut hm (nx _ (f2.p _ _) ?_ (fun i hi2 => ?_) (fun j hj => ?_))⟩⟩
          · rw [e2, xn_38k]
          · rw [xg_off _ _ _ (by decide)]; exact e2
          · rw [xg_in, if_neg (by omega)]; exact a1 i hi2
          · rw [xg_in]
            by_cases z : j = k
            · rw [if_pos (by omega), z]; exact congrFun (f2.1 32 (by decide) (by decide)) k
            · rw [if_neg (by omega)]; exact a2 j (by omega)
      exact loop 38 0 rfl g1 f1 e54 (fun _ _ => rfl) (fun j hj => absurd hj (by omega))
    by_cases hk : sK σ = 40
    · have loop0 : ∀ d k, k + d = 1482 → ∀ g1, mFh g g1 → g1.1 0 54 = g.1 0 54 → (∀ i, i < k → g1.1 35 i = g.1 35 (i + 38)) → (∀ i, k ≤ i → g1.1 35 i = g.1 35 i) → ∀ v, v = nI k → xm_go xs_M xk_X9_records [xt_X9_keepsRow] xc_X9_records Q (xm_drop 6 xc_X9_records) [.ref 0, .int v] [] g1 := by
        intro d
        induction d with
        | zero =>
          intro k hk2 g1 f1 e1 a1 a2 v hv
          have hk2 : k = 1482 := by omega
          subst hk2
          have nx := tail (xm_sI g1 0 54 (g1.1 0 54 - 1)) 39 (f1.u _) (by decide) (by rw [vPushN, if_pos hk]) (by rw [xg_in, if_pos rfl, e1, h6.1, hk]; decide) (fun i hi2 => by
            have : vPush (sK σ) (sH σ) (sC σ) i = sH σ (i + 1) := by
              unfold vPush; rw [if_pos hk]; show (if i < 39 then sH σ (i + 1) else sC σ) = _; rw [if_pos hi2]
            rw [this]
            refine (h6.2 (i + 1) (by omega)).cp (fun j hj => ?_)
            rw [xg_off _ _ _ (by decide), a1 _ (by omega)]
            exact congrArg (g.1 35) (by omega)) (by unfold vPush; rw [if_pos hk]; rfl)
          refine xm_run_go hm 30 ⟨fun _ => xm_cut hm nx, fun z => ?_⟩
          rw [hv] at z
          exact absurd z (nI_nlt (a := 1482) (b := 1482) (Nat.le_refl _) (by decide))
        | succ d ih =>
          intro k hk2 g1 f1 e1 a1 a2 v hv
          refine xm_run_go hm 30 ⟨fun z => ?_, fun _ => ⟨k + 38, ⟨by omega, ?_⟩, k, ⟨by omega, hv⟩, xm_cut hm (ih (k + 1) (by omega) _ (f1.p _ _) ?_ (fun i hi2 => ?_) (fun i hi2 => ?_) _ ?_)⟩⟩
          · rw [hv] at z
            exact absurd z (nI_ge (b := 1482) (by omega) (by decide))
          · rw [hv, show (38 : Int32) = nI 38 from rfl, nI_add]
          · rw [xg_off _ _ _ (by decide)]; exact e1
          · rw [xg_in]
            by_cases z : i = k
            · rw [if_pos z, z]; exact a2 _ (by omega)
            · rw [if_neg z]; exact a1 i (by omega)
          · rw [xg_in, if_neg (by omega)]; exact a2 i (by omega)
          · rw [hv, nI_1]
      refine xm_run_go hm 30 ⟨fun z => ?_, fun _ => xm_cut hm (loop0 1482 0 (by decide) g mFh.rf rfl (fun i hi2 => absurd hi2 (by omega)) (fun _ _ => rfl) _ rfl)⟩
      rw [h6.1, hk] at z
      exact absurd rfl z
    · have nx := tail g (sK σ) mFh.rf (by omega) (by rw [vPushN, if_neg hk]) h6.1 (fun i hi2 => by
        have : vPush (sK σ) (sH σ) (sC σ) i = sH σ i := by
          unfold vPush; rw [if_neg hk]; show (if i < sK σ then sH σ i else sC σ) = _; rw [if_pos hi2]
        rw [this]; exact h6.2 i hi2) (by unfold vPush; rw [if_neg hk]; show (if sK σ < sK σ then sH σ (sK σ) else sC σ) = _; rw [if_neg (by omega)])
      refine xm_run_go hm 30 ⟨fun _ => xm_cut hm nx, fun z => ?_⟩
      rw [h6.1] at z
      exact absurd ((nI_eq (b := 40) (by omega) (by decide)).mp z) hk
