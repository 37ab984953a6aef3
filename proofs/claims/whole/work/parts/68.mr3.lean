-- THE REFERENCE READS: names, numbers, late faults
def mAt (N : Nat) (r : pF ⊕ Nat) (g : xG) : Prop := match r with
  | .inl q => mFl q.1 q.2 g
  | .inr a => g.1 0 13 = 0 ∧ g.1 0 11 = nI a ∧ a ≤ N
/-- only the reader's own fields change -/
def mFw (g g' : xG) : Prop := g'.2 = g.2 ∧ (∀ k, k ≠ 0 → g'.1 k = g.1 k) ∧ ∀ j, j ≠ 11 → j ≠ 13 → j ≠ 14 → j ≠ 15 → j ≠ 16 → g'.1 0 j = g.1 0 j
theorem mFw.rf {g : xG} : mFw g g := ⟨rfl, fun _ _ => rfl, fun _ _ _ _ _ _ => rfl⟩
theorem mFw.tr {g g1 g2 : xG} (h : mFw g g1) (h2 : mFw g1 g2) : mFw g g2 := ⟨h2.1.trans h.1, fun k a => (h2.2.1 k a).trans (h.2.1 k a), fun j a b c d e => (h2.2.2 j a b c d e).trans (h.2.2 j a b c d e)⟩
theorem mFw.p0 {g g1 : xG} (h : mFw g g1) {j : Nat} (v : Int32) (hj : j = 11 ∨ j = 13 ∨ j = 14 ∨ j = 15 ∨ j = 16) : mFw g (xm_sI g1 0 j v) := ⟨h.1, fun k a => (xg_off g1 j v a).trans (h.2.1 k a), fun i a b c d e => by rw [xg_in, if_neg (by omega)]; exact h.2.2 i a b c d e⟩
theorem mFw.fl {g g1 : xG} (h : mFw g g1) (x : Int32) (a : Nat) : mFw g (nFail x a g1) := by
  unfold nFail
  split
  · exact (h.p0 _ (by omega)).p0 _ (by omega)
  · exact h
theorem mFw.go {g g1 : xG} (h : mFw g g1) (a : Nat) : mFw g (nGo a g1) := by
  unfold nGo
  split
  · exact h.fl _ _
  · exact h.p0 _ (by omega)
theorem mFw.mu {g g1 : xG} (h : mFw g g1) (x : Int32) (a : Nat) : mFw g (nMust x a g1) := by
  unfold nMust
  split
  · exact h.go _
  · exact h.fl _ _
theorem mTk.w {k : vTk} {N : Nat} {g g' : xG} (h : mTk k N g) (f : mFw g g') : mTk k N g' := ⟨h.1, h.2.1, fun i hi => by rw [f.2.1 3 (by decide), f.2.1 4 (by decide), f.2.1 5 (by decide), f.1]; exact h.2.2 i hi⟩
theorem mAt.pos {k : vTk} {N : Nat} {r : pF ⊕ Nat} {g : xG} (h : mAt N r g) (tk : mTk k N g) : ∃ a, a ≤ 400 ∧ g.1 0 11 = nI a ∧ mOk g ∧ ∀ b, r = .inr b → b = a ∧ b ≤ N := by
  cases r with
  | inl q =>
    obtain ⟨-, -, -, a, h1, h2⟩ := id h
    exact ⟨a, h1, h2, mFl.ok h, fun b hb => by cases hb⟩
  | inr b =>
    obtain ⟨h1, h2, h3⟩ := h
    have := tk.1
    exact ⟨b, by omega, h2, Or.inl h1, fun c hc => by cases hc; exact ⟨rfl, h3⟩⟩
theorem nI_lit {k : vTk} {N a c : Nat} {g : xG} (tk : mTk k N g) (ha : a ≤ N) (hc : c < 148) (hv : pVk c = true) : g.1 3 a = nI (pMk c) ↔ k.1 a = c := by
  obtain ⟨t1, t2, ⟨t3, tv⟩, -, -⟩ := tk.2.2 a ha
  have h1 := pMk_lt _ t3 tv
  have h2 := pMk_lt c hc hv
  rw [t1, nI_eq (by omega) (by omega)]
  exact pMk_inj _ t3 tv c hc hv
theorem mAt.go {k : vTk} {N a : Nat} {r : pF ⊕ Nat} {g : xG} (h : mAt N r g) (tk : mTk k N g) (ha : a ≤ 400) (e : g.1 0 11 = nI a) (hg : ∀ b, r = .inr b → k.1 b ≠ 0 ∧ k.1 b ≠ 1) : mAt N (pBn r (pGo k)) (nGo a g) := by
  cases r with
  | inl q =>
    show mFl q.1 q.2 (nGo a g)
    have h : mFl q.1 q.2 g := h
    unfold nGo
    split
    · rw [nFail_n h.n0]; exact h
    · obtain ⟨h1, h2, h3, -⟩ := h
      exact ⟨by rw [xg_in, if_neg (by decide)]; exact h1, h2, by rw [xg_in, if_neg (by decide)]; exact h3, a + 1, by omega, by rw [xg_in, if_pos rfl]⟩
  | inr b =>
    obtain ⟨h1, h2, h3⟩ := h
    have ab : a = b := nI_inj (by omega) (by have := tk.1; omega) (e.symm.trans h2)
    subst ab
    have hp := (tk.2.2 a h3).2.1
    rw [pBn_r]
    unfold pGo
    rcases nGo_c h1 ha e hp with ⟨q1, q2, -, -⟩ | ⟨q1, q2⟩
    · rw [if_pos (by omega)]; exact q2
    · rw [if_neg (by omega), q2]
      obtain ⟨n0, n1⟩ := hg a rfl
      exact ⟨by rw [xg_in, if_neg (by decide)]; exact h1, by rw [xg_in, if_pos rfl], tk.lt h3 n0 n1 q1⟩
theorem mAt.fl {k : vTk} {N a f : Nat} {r : pF ⊕ Nat} {g : xG} (h : mAt N r g) (tk : mTk k N g) (ha : a ≤ 400) (e : g.1 0 11 = nI a) (hf : f = 1 ∨ f = 2) : mAt N (pBn r (fun b => (.inl (f, k.2.1 b) : pF ⊕ Nat))) (nFail (nI f) a g) := by
  cases r with
  | inl q =>
    show mFl q.1 q.2 (nFail (nI f) a g)
    have h : mFl q.1 q.2 g := h
    rw [nFail_n h.n0]; exact h
  | inr b =>
    obtain ⟨h1, h2, h3⟩ := h
    have ab : a = b := nI_inj (by omega) (by have := tk.1; omega) (e.symm.trans h2)
    subst ab
    exact nFail_fl h1 hf ha e (tk.2.2 a h3).2.1
theorem mAt.mu {k : vTk} {N a c : Nat} {r : pF ⊕ Nat} {g : xG} (h : mAt N r g) (tk : mTk k N g) (ha : a ≤ 400) (e : g.1 0 11 = nI a) (hc : c < 148) (hv : pVk c = true) (h2 : 2 ≤ c) : mAt N (pBn r (pMu k c)) (nMust (nI (pMk c)) a g) := by
  cases r with
  | inl q =>
    have h : mFl q.1 q.2 g := h
    show mFl q.1 q.2 (nMust (nI (pMk c)) a g)
    unfold nMust
    rw [if_neg (fun z => h.n0 z.1), nFail_n h.n0]; exact h
  | inr b =>
    obtain ⟨h1, h2', h3⟩ := id h
    have ab : a = b := nI_inj (by omega) (by have := tk.1; omega) (e.symm.trans h2')
    subst ab
    rw [pBn_r]
    unfold pMu nMust
    by_cases q : k.1 a = c
    · rw [if_pos q, if_pos ⟨h1, (nI_lit tk h3 hc hv).mpr q⟩]
      exact mAt.go h tk ha e (fun b hb => by cases hb; omega)
    · rw [if_neg q, if_neg (fun z => q ((nI_lit tk h3 hc hv).mp z.2))]
      exact mAt.fl h tk ha e (f := 1) (Or.inl rfl)
/-- a late fault, ahead of a place -/
def mLate (l : Option pF) (p : Nat) (g : xG) : Prop := (l = none ∧ g.1 0 15 = 0) ∨ ∃ n q, l = some (n, q) ∧ 3 ≤ n ∧ n ≤ 5 ∧ q < p ∧ q ≤ 2000 ∧ g.1 0 15 = nI n ∧ g.1 0 16 = nI q
def mLq (k : vTk) (r : pF ⊕ Nat) (l : Option pF) (g : xG) : Prop := ∀ a, r = .inr a → mLate l (k.2.1 a) g
theorem mLate.k {l : Option pF} {p p' : Nat} {g g' : xG} (h : mLate l p g) (hp : p ≤ p') (e1 : g'.1 0 15 = g.1 0 15) (e2 : g'.1 0 16 = g.1 0 16) : mLate l p' g' := by
  rcases h with ⟨h1, h2⟩ | ⟨n, q, h1, h2, h3, h4, h5, h6, h7⟩
  · exact Or.inl ⟨h1, e1.trans h2⟩
  · exact Or.inr ⟨n, q, h1, h2, h3, by omega, h5, e1.trans h6, e2.trans h7⟩
def nWr (n p : Nat) (g : xG) : xG := if g.1 0 13 = 0 ∧ g.1 0 15 = 0 then xm_sI (xm_sI g 0 15 (nI n)) 0 16 (nI p) else g
def xt_X9_wrong : xT := xm_fn (Z := Nat × Nat × Nat) (fun (n, a, p) av g => av = [.ref 0, .int (nI n), .int (nI a)] ∧ a ≤ 400 ∧ g.1 4 a = nI p ∧ p ≤ 2000 ∧ 3 ≤ n ∧ n ≤ 5 ∧ mOk g ∧ (g.1 0 15 = 0 ∨ ∃ m q, 3 ≤ m ∧ m ≤ 5 ∧ q ≤ p ∧ (q = p → m ≤ n) ∧ g.1 0 15 = nI m ∧ g.1 0 16 = nI q)) (fun _ _ => none) (fun (n, _, p) g => nWr n p g)
set_option maxRecDepth 100000 in
set_option maxHeartbeats 400000 in
theorem xp_X9_wrong {l : Launch} {D : va_G} {cA : Nat → ClassId} {B : List (Nat × Cell)} : xm_Met l D cA B xs_M 0 yX9_wrong cX9_wrong 4 none xt_X9_wrong := by
  have hm : xm_monos [] := xm_m0
  refine xm_meth (own := RX9) (ks := xk_X9_wrong) (C := xc_X9_wrong) (Ts := []) (by decide +kernel) rfl xm_clsok xs_M_ok xf_X9_ok xi_X9_ok xj_X9_ok xm_lk0 xo_X9_wrong ?_ ?_
  · rintro av g Q ⟨z, ⟨rfl, -⟩, -⟩
    exact Nat.le_of_ble_eq_true rfl
  · rintro av g Q ⟨⟨n, a, p⟩, ⟨rfl, ha, hp, p2, n3, n5, ok, hw⟩, hQ⟩
    dsimp only at ha hp p2 n3 n5 ok hw hQ
    unfold nWr at hQ
    by_cases h13 : g.1 0 13 = 0
    · have le : g.1 0 13 ≤ 0 := by rw [h13]; decide
      rcases hw with hw | ⟨m, q, m3, m5, qp, qm, w1, w2⟩
      · rw [if_pos ⟨h13, hw⟩, ← hp] at hQ
        exact xm_run_go hm 60 ⟨a, ⟨by omega, rfl⟩, ⟨fun z => absurd le (Int32.not_le.mpr z), fun _ => ⟨fun _ => hQ, fun z => absurd hw z⟩⟩⟩
      · have m0 : ¬ g.1 0 15 = 0 := fun z => by rw [w1] at z; have := nI_inj (b := 0) (by omega) (by omega) z; omega
        rw [if_neg (fun z => m0 z.2)] at hQ
        refine xm_run_go hm 60 ⟨a, ⟨by omega, rfl⟩, ⟨fun z => absurd le (Int32.not_le.mpr z), fun _ => ⟨fun z => absurd z m0, fun _ => ⟨fun _ => hQ, fun z => ⟨fun z2 => ?_, fun z2 => ⟨fun z3 => ?_, fun _ => hQ⟩⟩⟩⟩⟩⟩
        · -- the place is not this one: it was ahead
          exfalso
          rw [hp, w2] at z
          have := (nI_leI (by omega) (by omega)).mp z
          have e : q = p := by omega
          exact z2 (by rw [hp, w2, e])
        · exfalso
          rw [hp, w2] at z2
          have e := nI_inj (by omega) (by omega) z2
          rw [w1] at z3
          have := (nI_ltI (by omega) (by omega)).mp z3
          have := qm e.symm
          omega
    · rw [if_neg (fun z => h13 z.1)] at hQ
      have gt : ¬ g.1 0 13 ≤ 0 := by
        rcases ok with q | q | q
        · exact absurd q h13
        · rw [q]; decide
        · rw [q]; decide
      exact xm_run_go hm 60 ⟨a, ⟨by omega, rfl⟩, ⟨fun _ => hQ, fun z => absurd z gt⟩⟩
theorem nWr_f (n p : Nat) (g : xG) : mFw g (nWr n p g) ∧ (∀ j, j ≠ 15 → j ≠ 16 → (nWr n p g).1 0 j = g.1 0 j) := by
  unfold nWr
  split
  · exact ⟨(mFw.rf.p0 _ (by omega)).p0 _ (by omega), fun j h1 h2 => by rw [xg_in, if_neg h2, xg_in, if_neg h1]⟩
  · exact ⟨mFw.rf, fun _ _ _ => rfl⟩
theorem nWr_l {n p : Nat} {g : xG} {l : Option pF} (h13 : g.1 0 13 = 0) (hn : 3 ≤ n ∧ n ≤ 5) (hp : p ≤ 2000) (h : mLate l p g) : mLate (pLt l true n p) (p + 1) (nWr n p g) := by
  unfold nWr
  rcases h with ⟨rfl, h2⟩ | ⟨m, q, rfl, h2, h3, h4, h5, h6, h7⟩
  · rw [if_pos ⟨h13, h2⟩]
    exact Or.inr ⟨n, p, rfl, hn.1, hn.2, by omega, hp, by rw [xg_in, if_neg (by decide), xg_in, if_pos rfl], by rw [xg_in, if_pos rfl]⟩
  · rw [if_neg (fun z => by have := z.2; rw [h6] at this; have := nI_inj (b := 0) (by omega) (by omega) this; omega)]
    exact Or.inr ⟨m, q, rfl, h2, h3, by omega, h5, h6, h7⟩
theorem mLate.pre {n p : Nat} {g : xG} {l : Option pF} (h : mLate l p g) : g.1 0 15 = 0 ∨ ∃ m q, 3 ≤ m ∧ m ≤ 5 ∧ q ≤ p ∧ (q = p → m ≤ n) ∧ g.1 0 15 = nI m ∧ g.1 0 16 = nI q := by
  rcases h with ⟨-, h2⟩ | ⟨m, q, -, h2, h3, h4, h5, h6, h7⟩
  · exact Or.inl h2
  · exact Or.inr ⟨m, q, h2, h3, by omega, fun z => by omega, h6, h7⟩
def xt_X9_roomFor : xT := xm_fn (Z := Nat × Nat × Nat) (fun (n, m, a) av g => av = [.ref 0, .int (nI n), .int (nI m)] ∧ n ≤ 100 ∧ m ≤ 100 ∧ a ≤ 400 ∧ g.1 0 11 = nI a ∧ g.1 0 13 = 0) (fun _ _ => none) (fun (n, m, a) g => if n = m then nFail 2 a g else nGo a g)
set_option maxRecDepth 100000 in
set_option maxHeartbeats 400000 in
theorem xp_X9_roomFor {l : Launch} {D : va_G} {cA : Nat → ClassId} {B : List (Nat × Cell)} : xm_Met l D cA B xs_M 2 yX9_roomFor cX9_roomFor 3 none xt_X9_roomFor := by
  have hm : xm_monos [xt_X9_fail, xt_X9_goesOn] := ⟨(by first | exact xm_fn_mono _ _ _ | exact xm_rl_mono _ _), (by first | exact xm_fn_mono _ _ _ | exact xm_rl_mono _ _), trivial⟩
  refine xm_meth (own := RX9) (ks := xk_X9_roomFor) (C := xc_X9_roomFor) (Ts := [xt_X9_fail, xt_X9_goesOn]) (by decide +kernel) rfl xm_clsok xs_M_ok xf_X9_ok xi_X9_ok xj_X9_ok (xm_lk xl_X9_215 xp_X9_fail (by decide) (xm_lk xl_X9_221 xp_X9_goesOn (by decide) xm_lk0)) xo_X9_roomFor ?_ ?_
  · rintro av g Q ⟨z, ⟨rfl, -⟩, -⟩
    exact Nat.le_of_ble_eq_true rfl
  · rintro av g Q ⟨⟨n, m, a⟩, ⟨rfl, hn, hm1, ha, h11, h13⟩, hQ⟩
    dsimp only at hn hm1 ha h11 h13 hQ
    by_cases c : n = m
    · rw [if_pos c] at hQ
      have e : nI n = nI m := by rw [c]
      have n0 : ¬ (nFail 2 a g).1 0 13 = 0 := by rw [nFail_y h13, xg_in, if_neg (by decide), xg_in, if_pos rfl]; decide
      exact xm_run_go hm 40 ⟨fun z => absurd e z, fun _ => ⟨(2, a), ⟨rfl, ha, h11, Or.inl h13⟩, ⟨fun _ => hQ, fun z => absurd z n0⟩⟩⟩
    · rw [if_neg c] at hQ
      exact xm_run_go hm 40 ⟨fun _ => ⟨fun z => absurd h13 z, fun _ => ⟨a, ⟨rfl, ha, h11, Or.inl h13⟩, hQ⟩⟩, fun z => absurd (nI_inj (by omega) (by omega) z) c⟩
def xt_X9_bounded : xT := xm_rl (Z := vTk × Nat × (pF ⊕ Nat) × Option pF × Nat × Nat) (fun (k, N, r, l, lo, hi) av g => av = [.ref 0, .int (nI lo), .int (nI hi)] ∧ lo ≤ 10000 ∧ hi ≤ 10000 ∧ mTk k N g ∧ pKk k N ∧ mAt N r g ∧ mLq k r l g)
  (fun (k, N, r, l, lo, hi) g o g' => ∃ v, o = some (.int v) ∧ mFw g g' ∧ mAt N (pBn r (pMu k 3)) g' ∧ ∀ b, pBn r (pMu k 3) = .inr (b + 1) → v = nI (k.2.2.1 b) ∧ mLate (pLt l (pOut (k.2.2.1 b) lo hi) 5 (k.2.1 b)) (k.2.1 (b + 1)) g')
set_option maxRecDepth 100000 in
set_option maxHeartbeats 400000 in
theorem xp_X9_bounded {l : Launch} {D : va_G} {cA : Nat → ClassId} {B : List (Nat × Cell)} : xm_Met l D cA B xs_M 2 yX9_bounded cX9_bounded 4 (some .int) xt_X9_bounded := by
  have hm : xm_monos [xt_X9_is, xt_X9_fail, xt_X9_wrong, xt_X9_goesOn] := ⟨(by first | exact xm_fn_mono _ _ _ | exact xm_rl_mono _ _), (by first | exact xm_fn_mono _ _ _ | exact xm_rl_mono _ _), (by first | exact xm_fn_mono _ _ _ | exact xm_rl_mono _ _), (by first | exact xm_fn_mono _ _ _ | exact xm_rl_mono _ _), trivial⟩
  refine xm_meth (own := RX9) (ks := xk_X9_bounded) (C := xc_X9_bounded) (Ts := [xt_X9_is, xt_X9_fail, xt_X9_wrong, xt_X9_goesOn]) (by decide +kernel) rfl xm_clsok xs_M_ok xf_X9_ok xi_X9_ok xj_X9_ok (xm_lk xl_X9_218 xp_X9_is (by decide) (xm_lk xl_X9_215 xp_X9_fail (by decide) (xm_lk xl_X9_281 xp_X9_wrong (by decide) (xm_lk xl_X9_221 xp_X9_goesOn (by decide) xm_lk0)))) xo_X9_bounded ?_ ?_
  · rintro av g Q ⟨z, ⟨rfl, -⟩, -⟩
    exact Nat.le_of_ble_eq_true rfl
  · rintro av g Q ⟨⟨k, N, r, l, lo, hi⟩, ⟨rfl, hlo, hhi, tk, kk, hat, hla⟩, hQ⟩
    dsimp only at hlo hhi tk kk hat hla hQ
    obtain ⟨a, a4, e11, ok, hr⟩ := hat.pos tk
    -- out with a fault
    have bad : (∀ b, pBn r (pMu k 3) = .inr b → False) → mAt N (pBn r (pMu k 3)) (nFail 1 a g) → Q (some (.int (nI lo))) (nFail 1 a g) := fun h1 h2 => hQ _ _ ⟨nI lo, rfl, mFw.rf.fl _ _, h2, fun b hb => (h1 _ hb).elim⟩
    cases r with
    | inl q =>
      have fl : mFl q.1 q.2 g := hat
      have b1 := bad (fun b hb => by cases hb) (by show mFl q.1 q.2 _; rw [nFail_n fl.n0]; exact fl)
      have gt : ¬ g.1 0 13 ≤ 0 := by
        rcases ok with z | z | z
        · exact absurd z fl.n0
        · rw [z]; decide
        · rw [z]; decide
      exact xm_run_go hm 60 ⟨fun _ => ⟨(1, a), ⟨rfl, a4, e11, ok⟩, b1⟩, fun z => absurd z gt⟩
    | inr b =>
      obtain ⟨rfl, bN⟩ := hr b rfl
      obtain ⟨h13, -, -⟩ := id hat
      have le : g.1 0 13 ≤ 0 := by rw [h13]; decide
      obtain ⟨t1, t2, ⟨t3, tv⟩, t4, t5⟩ := tk.2.2 b bN
      by_cases c : k.1 b = 3
      · have g2 : g.1 3 b = 2 := (nI_lit tk bN (c := 3) (by decide) (by decide)).mpr c
        have is1 : ¬ (if g.1 0 13 = 0 ∧ g.1 3 b = 2 then (1 : Int32) else 0) = 0 := by rw [if_pos ⟨h13, g2⟩]; decide
        obtain ⟨v1, v2⟩ := t5 c
        have lt0 := hla b rfl
        have p2 := (kk.1 b bN).2
        -- on, in a state whose late fault is known
        have fin : ∀ g1 l', mFw g g1 → (∀ j, j ≠ 15 → j ≠ 16 → g1.1 0 j = g.1 0 j) → mLate l' (k.2.1 b + 1) g1 → l' = pLt l (pOut (k.2.2.1 b) lo hi) 5 (k.2.1 b) → g1.1 0 11 = nI b ∧ mOk g1 ∧ Q (some (.int (g.1 5 b))) (nGo b g1) := fun g1 l' f1 k1 lt1 el => by
          have e13 : g1.1 0 13 = 0 := by rw [k1 13 (by decide) (by decide)]; exact h13
          have e11' : g1.1 0 11 = nI b := by rw [k1 11 (by decide) (by decide)]; exact e11
          refine ⟨e11', Or.inl e13, hQ _ _ ⟨_, rfl, f1.go b, ?_, fun b' hb => ?_⟩⟩
          · have := mAt.go (r := .inr b) (g := g1) ⟨e13, e11', bN⟩ (tk.w f1) a4 e11' (fun c hc => by cases hc; omega)
            rw [pBn_r] at this ⊢
            unfold pMu; rw [if_pos c]; exact this
          · rw [pBn_r] at hb
            obtain ⟨-, b4, hb⟩ := pMu_i.mp hb
            have hb : b' = b := by omega
            subst hb
            refine ⟨v1, ?_⟩
            rw [← el]
            have aN' := tk.lt bN (by omega) (by omega) b4
            have pp := kk.2 b' (b' + 1) (by omega) aN'
            have en : nGo b' g1 = xm_sI g1 0 11 (nI (b' + 1)) := by unfold nGo; rw [if_neg (by omega)]
            exact lt1.k (by omega) (by rw [en, xg_in, if_neg (by decide)]) (by rw [en, xg_in, if_neg (by decide)])
        have wr := nWr_f 5 (k.2.1 b) g
        have f1 := fin (nWr 5 (k.2.1 b) g) _ wr.1 wr.2 (nWr_l h13 ⟨by decide, by decide⟩ p2 lt0)
        have f2 := fin g _ mFw.rf (fun _ _ _ => rfl) (lt0.k (Nat.le_succ _) rfl rfl)
        have pre := lt0.pre (n := 5)
        have eb : g.1 0 11 = nI b := e11
        have ew : [Value.ref 0, .int 5, .int (g.1 0 11)] = [Value.ref 0, .int (nI 5), .int (nI b)] := by rw [eb]; rfl
        refine xm_run_go hm 80 ⟨fun z => absurd le (Int32.not_le.mpr z), fun _ => ⟨(2, b), ⟨rfl, a4, e11⟩, ⟨fun _ => ⟨b, ⟨by omega, e11⟩, ⟨fun z => ?_, fun z => ⟨fun z2 => ?_, fun z2 => ?_⟩⟩⟩, fun z => absurd z is1⟩⟩⟩
        · rw [v1] at z
          have := (nI_ltI (by omega) (by omega)).mp z
          obtain ⟨y1, y2, y3⟩ := f1 (by rw [show pOut (k.2.2.1 b) lo hi = true by unfold pOut; rw [decide_eq_true this]; rfl])
          exact ⟨(5, b, k.2.1 b), ⟨ew, a4, t2, p2, by decide, by decide, ok, pre⟩, b, ⟨rfl, a4, y1, y2⟩, y3⟩
        · rw [v1] at z z2
          have h1 := (nI_leI (by omega) (by omega)).mp z
          have h2 := (nI_leI (by omega) (by omega)).mp z2
          obtain ⟨y1, y2, y3⟩ := f2 (by rw [show pOut (k.2.2.1 b) lo hi = false by unfold pOut; rw [decide_eq_false (by omega), decide_eq_false (by omega)]; rfl]; unfold pLt; cases l <;> rfl)
          exact ⟨b, ⟨rfl, a4, y1, y2⟩, y3⟩
        · rw [v1] at z2
          have := (nI_ltI (by omega) (by omega)).mp z2
          obtain ⟨y1, y2, y3⟩ := f1 (by rw [show pOut (k.2.2.1 b) lo hi = true by unfold pOut; rw [decide_eq_true this, Bool.or_true]])
          exact ⟨(5, b, k.2.1 b), ⟨ew, a4, t2, p2, by decide, by decide, ok, pre⟩, b, ⟨rfl, a4, y1, y2⟩, y3⟩
      · have g2 : ¬ g.1 3 b = 2 := fun z => c ((nI_lit tk bN (c := 3) (by decide) (by decide)).mp z)
        have is0 : (if g.1 0 13 = 0 ∧ g.1 3 b = 2 then (1 : Int32) else 0) = 0 := by rw [if_neg (fun z => g2 z.2)]
        have e : pMu k 3 b = .inl (1, k.2.1 b) := by unfold pMu; rw [if_neg c]
        have b1 := bad (fun b' hb => by rw [pBn_r, e] at hb; cases hb) (by rw [pBn_r, e]; exact nFail_fl h13 (Or.inl rfl) a4 e11 t2)
        exact xm_run_go hm 60 ⟨fun z => absurd le (Int32.not_le.mpr z), fun _ => ⟨(2, b), ⟨rfl, a4, e11⟩, ⟨fun z => absurd is0 z, fun _ => ⟨(1, b), ⟨rfl, a4, e11, ok⟩, b1⟩⟩⟩⟩
