-- THE CLASS READS: names, numbers, late faults
def xAt (N : Nat) (r : pF ⊕ Nat) (g : xG) : Prop := match r with
  | .inl q => xFt q.1 q.2 g
  | .inr a => g.1 3 8 = 0 ∧ g.1 3 7 = nI a ∧ a ≤ N
/-- only the reader's own fields change -/
def xFw (g g' : xG) : Prop := g'.2 = g.2 ∧ (∀ k, k ≠ 3 → g'.1 k = g.1 k) ∧ ∀ j, (j < 7 ∨ 11 < j) → g'.1 3 j = g.1 3 j
theorem xFw.rf {g : xG} : xFw g g := ⟨rfl, fun _ _ => rfl, fun _ _ => rfl⟩
theorem xFw.tr {g g1 g2 : xG} (h : xFw g g1) (h2 : xFw g1 g2) : xFw g g2 := ⟨h2.1.trans h.1, fun k a => (h2.2.1 k a).trans (h.2.1 k a), fun j a => (h2.2.2 j a).trans (h.2.2 j a)⟩
theorem xFw.p3 {g g1 : xG} (h : xFw g g1) {j : Nat} (v : Int32) (hj : 7 ≤ j ∧ j ≤ 11) : xFw g (xm_sI g1 3 j v) := ⟨h.1, fun k a => (xg_off g1 j v a).trans (h.2.1 k a), fun i a => by rw [xg_in, if_neg (by omega)]; exact h.2.2 i a⟩
theorem xFw.fl {g g1 : xG} (h : xFw g g1) (x : Int32) (a : Nat) : xFw g (uFail x a g1) := by
  unfold uFail
  split
  · exact (h.p3 _ (by omega)).p3 _ (by omega)
  · exact h
theorem xFw.tk {g g1 : xG} (h : xFw g g1) (b : Bool) (a : Nat) : xFw g (uTake b a g1) := by
  have h1 : xFw g (uTk1 b a g1) := by
    unfold uTk1
    split
    · split
      · exact h
      · exact h.fl _ _
    · exact h.fl _ _
  unfold uTake
  split
  · exact h1.p3 _ (by omega)
  · exact h1
theorem xTk.w {k : vTk} {N : Nat} {g g' : xG} (h : xTk k N g) (f : xFw g g') : xTk k N g' := ⟨h.1, h.2.1, fun i hi => by rw [f.2.1 8 (by decide), f.2.1 9 (by decide), f.1]; exact h.2.2 i hi⟩
theorem uTake_late (b : Bool) (a : Nat) (g : xG) : ∀ j, 10 ≤ j → (uTake b a g).1 3 j = g.1 3 j := fun j hj => by
  have fl : ∀ x, (uFail x a g).1 3 j = g.1 3 j := fun x => by
    unfold uFail
    split
    · rw [xg_in, if_neg (by omega), xg_in, if_neg (by omega)]
    · rfl
  have h1 : (uTk1 b a g).1 3 j = g.1 3 j := by
    unfold uTk1
    split
    · split
      · rfl
      · exact fl _
    · exact fl _
  unfold uTake
  split
  · rw [xg_in, if_neg (by omega)]; exact h1
  · exact h1
theorem xAt.pos {k : vTk} {N : Nat} {r : pF ⊕ Nat} {g : xG} (h : xAt N r g) (tk : xTk k N g) : ∃ a, a ≤ 400 ∧ g.1 3 7 = nI a ∧ ∀ b, r = .inr b → b = a ∧ b ≤ N := by
  cases r with
  | inl q =>
    obtain ⟨-, -, -, a, h1, h2⟩ := h
    exact ⟨a, h1, h2, fun b hb => by cases hb⟩
  | inr b =>
    obtain ⟨h1, h2, h3⟩ := h
    have := tk.1
    exact ⟨b, by omega, h2, fun c hc => by cases hc; exact ⟨rfl, h3⟩⟩
theorem uTake_bad {b : Bool} {a : Nat} {g : xG} (h : ¬ g.1 3 8 = 0) : uTake b a g = g ∧ oTake b a g = 0 := by
  have e : uTk1 b a g = g := by
    unfold uTk1
    split
    · split
      · rfl
      · exact uFail_n h
    · exact uFail_n h
  unfold uTake oTake
  rw [e, if_neg h, if_neg h]
  exact ⟨rfl, rfl⟩
theorem xAt.go {k : vTk} {N a : Nat} {r : pF ⊕ Nat} {g : xG} (h : xAt N r g) (tk : xTk k N g) (ha : a ≤ 400) (e : g.1 3 7 = nI a) (hg : ∀ b, r = .inr b → k.1 b ≠ 0 ∧ k.1 b ≠ 1) : xAt N (pBn r (pGo k)) (uTake true a g) ∧ ((∃ b, pBn r (pGo k) = .inr b ∧ oTake true a g = 1) ∨ (∃ q, pBn r (pGo k) = .inl q ∧ oTake true a g = 0)) := by
  cases r with
  | inl q =>
    have h : xFt q.1 q.2 g := h
    obtain ⟨e1, e2⟩ := uTake_bad (b := true) (a := a) h.n0
    rw [e1]
    exact ⟨h, Or.inr ⟨q, rfl, e2⟩⟩
  | inr b =>
    obtain ⟨h1, h2, h3⟩ := h
    have ab : a = b := nI_inj (by omega) (by have := tk.1; omega) (e.symm.trans h2)
    subst ab
    have hp := (tk.2.2 a h3).2.1
    rw [pBn_r]
    unfold pGo
    by_cases c : 400 ≤ a
    · rw [if_pos c]
      obtain ⟨f, -, -, f2, e1, e2⟩ := uTake_n (b := true) (a := a) h1 (Or.inr c)
      have : f = 2 := f2 rfl
      subst this
      rw [e1]
      exact ⟨uFail_ft h1 (Or.inr rfl) ha e hp, Or.inr ⟨_, rfl, e2⟩⟩
    · rw [if_neg c]
      obtain ⟨e1, e2⟩ := uTake_y (a := a) h1 (by omega)
      rw [e1]
      obtain ⟨n0, n1⟩ := hg a rfl
      exact ⟨⟨by rw [xg_in, if_neg (by decide)]; exact h1, by rw [xg_in, if_pos rfl], tk.lt h3 n0 n1 (by omega)⟩, Or.inl ⟨_, rfl, e2⟩⟩
theorem xAt.mu {k : vTk} {N a c : Nat} {r : pF ⊕ Nat} {g : xG} (h : xAt N r g) (tk : xTk k N g) (ha : a ≤ 400) (e : g.1 3 7 = nI a) (hc : c < 148) (h2c : 2 ≤ c) : ∃ b : Bool, (b = true ↔ g.1 8 a = nI c) ∧ xAt N (pBn r (pMu k c)) (uTake b a g) ∧ ((∃ y, pBn r (pMu k c) = .inr y ∧ oTake b a g = 1) ∨ (∃ q, pBn r (pMu k c) = .inl q ∧ oTake b a g = 0)) := by
  cases r with
  | inl q =>
    have h : xFt q.1 q.2 g := h
    obtain ⟨e1, e2⟩ := uTake_bad (b := decide (g.1 8 a = nI c)) (a := a) h.n0
    refine ⟨decide (g.1 8 a = nI c), decide_eq_true_iff, ?_⟩
    rw [e1]
    exact ⟨h, Or.inr ⟨q, rfl, e2⟩⟩
  | inr b =>
    obtain ⟨h1, h2, h3⟩ := id h
    have ab : a = b := nI_inj (by omega) (by have := tk.1; omega) (e.symm.trans h2)
    subst ab
    obtain ⟨t1, t2, t3, -, -⟩ := tk.2.2 a h3
    have iff : g.1 8 a = nI c ↔ k.1 a = c := by rw [t1]; exact nI_eq (by omega) (by omega)
    rw [pBn_r]
    unfold pMu
    by_cases q : k.1 a = c
    · rw [if_pos q]
      refine ⟨true, ⟨fun _ => iff.mpr q, fun _ => rfl⟩, ?_⟩
      have := xAt.go h tk ha e (fun b hb => by cases hb; omega)
      rw [pBn_r] at this
      exact this
    · rw [if_neg q]
      refine ⟨false, ⟨(fun w => by cases w), fun w => absurd (iff.mp w) q⟩, ?_⟩
      obtain ⟨f, -, f1, -, e1, e2⟩ := uTake_n (b := false) (a := a) h1 (Or.inl rfl)
      have : f = 1 := f1 rfl
      subst this
      rw [e1]
      exact ⟨uFail_ft h1 (Or.inl rfl) ha e t2, Or.inr ⟨_, rfl, e2⟩⟩
/-- a late fault -/
def xLate (l : Option pF) (g : xG) : Prop := (l = none ∧ g.1 3 10 = 0 ∧ g.1 3 11 = -1) ∨ ∃ n q, l = some (n, q) ∧ 3 ≤ n ∧ n ≤ 5 ∧ g.1 3 10 = nI n ∧ g.1 3 11 = nI q
theorem xLate.k {l : Option pF} {g g' : xG} (h : xLate l g) (e1 : g'.1 3 10 = g.1 3 10) (e2 : g'.1 3 11 = g.1 3 11) : xLate l g' := by
  unfold xLate
  rw [e1, e2]; exact h
def xLq (r : pF ⊕ Nat) (l : Option pF) (g : xG) : Prop := ∀ a, r = .inr a → xLate l g
def uLate (x : Int32) (a : Nat) (g : xG) : xG := if g.1 3 10 = 0 then xm_sI (xm_sI g 3 10 x) 3 11 (g.1 9 (a - 1)) else g
theorem uLate_f (x : Int32) (a : Nat) (g : xG) : xFw g (uLate x a g) ∧ ∀ j, j < 10 → (uLate x a g).1 3 j = g.1 3 j := by
  unfold uLate
  split
  · exact ⟨(xFw.rf.p3 _ (by omega)).p3 _ (by omega), fun j hj => by rw [xg_in, if_neg (by omega), xg_in, if_neg (by omega)]⟩
  · exact ⟨xFw.rf, fun _ _ => rfl⟩
theorem uLate_l {n a p : Nat} {g : xG} {l : Option pF} (hn : 3 ≤ n ∧ n ≤ 5) (hp : g.1 9 (a - 1) = nI p) (h : xLate l g) : xLate (pLt l true n p) (uLate (nI n) a g) := by
  unfold uLate
  rcases h with ⟨rfl, h2, h3⟩ | ⟨m, q, rfl, h2, h3, h4, h5⟩
  · rw [if_pos h2]
    exact Or.inr ⟨n, p, rfl, hn.1, hn.2, by rw [xg_in, if_neg (by decide), xg_in, if_pos rfl], by rw [xg_in, if_pos rfl]; exact hp⟩
  · rw [if_neg (fun z => by rw [h4] at z; have := nI_inj (b := 0) (by omega) (by omega) z; omega)]
    exact Or.inr ⟨m, q, rfl, h2, h3, h4, h5⟩
theorem pLt_f (l : Option pF) (n p : Nat) : pLt l false n p = l := by unfold pLt; cases l <;> rfl
theorem xAt.k {N : Nat} {r : pF ⊕ Nat} {g g' : xG} (h : xAt N r g) (e : ∀ j, 7 ≤ j → j ≤ 9 → g'.1 3 j = g.1 3 j) : xAt N r g' := by
  cases r with
  | inl q => exact xFt.k h e
  | inr a => exact ⟨(e 8 (by decide) (by decide)).trans h.1, (e 7 (by decide) (by decide)).trans h.2.1, h.2.2⟩
theorem bI_t {b : Bool} : bI b = if b = true then 1 else 0 := rfl
def xt_X1_number : xT := xm_rl (Z := vTk × Nat × (pF ⊕ Nat) × Option pF × Nat × Nat) (fun (k, N, r, l, lo, hi) av g => av = [.ref 3, .int (nI lo), .int (nI hi)] ∧ lo ≤ 10000 ∧ hi ≤ 10000 ∧ xTk k N g ∧ xAt N r g ∧ xLq r l g)
  (fun (k, N, r, l, lo, hi) g o g' => ∃ v, o = some (.int v) ∧ xFw g g' ∧ xAt N (pBn r (pMu k 3)) g' ∧ ∀ b, pBn r (pMu k 3) = .inr (b + 1) → v = nI (k.2.2.1 b) ∧ xLate (pLt l (pOut (k.2.2.1 b) lo hi) 5 (k.2.1 b)) g')
set_option maxRecDepth 100000 in
set_option maxHeartbeats 400000 in
theorem xp_X1_number {l : Launch} {D : va_G} {cA : Nat → ClassId} {B : List (Nat × Cell)} : xm_Met l D cA B xs_X 2 yX1_number cX1_number 4 (some .int) xt_X1_number := by
  have hm : xm_monos [xt_X1_kind, xt_X1_take, xt_X1_failLate] := ⟨(by first | exact xm_fn_mono _ _ _ | exact xm_rl_mono _ _), (by first | exact xm_fn_mono _ _ _ | exact xm_rl_mono _ _), (by first | exact xm_fn_mono _ _ _ | exact xm_rl_mono _ _), trivial⟩
  refine xm_meth (own := RX1) (ks := xk_X1_number) (C := xc_X1_number) (Ts := [xt_X1_kind, xt_X1_take, xt_X1_failLate]) (by decide +kernel) rfl xm_clsok xs_X_ok xf_X1_ok xi_X1_ok xj_X1_ok (xm_lk xl_X1_60 xp_X1_kind (by decide) (xm_lk xl_X1_77 xp_X1_take (by decide) (xm_lk xl_X1_126 xp_X1_failLate (by decide) xm_lk0))) xo_X1_number ?_ ?_
  · rintro av g Q ⟨z, ⟨rfl, -⟩, -⟩
    exact Nat.le_of_ble_eq_true rfl
  · rintro av g Q ⟨⟨k, N, r, l, lo, hi⟩, ⟨rfl, hlo, hhi, tk, hat, hla⟩, hQ⟩
    dsimp only at hlo hhi tk hat hla hQ
    obtain ⟨a, a4, e7, hr⟩ := hat.pos tk
    obtain ⟨b, hb, at1, ho⟩ := hat.mu tk a4 e7 (c := 3) (by decide) (by decide)
    have f1 : xFw g (uTake b a g) := xFw.rf.tk b a
    -- on, once it is taken
    have at8 : xm_go xs_X xk_X1_number [xt_X1_kind, xt_X1_take, xt_X1_failLate] xc_X1_number Q (xm_drop 8 xc_X1_number) [.ref 3, .int (nI lo), .int (nI hi), .retAddr 0] [.int (if b = true then 1 else 0), .ref 3] g := by
      rcases ho with ⟨y, hy, o1⟩ | ⟨q, hq, o0⟩
      · obtain ⟨b0, hb0, k3, b4, ey⟩ := pCi hy
        subst ey
        obtain ⟨ea, bN⟩ := hr b0 hb0
        subst ea
        have lt0 := (hla b0 hb0).k (uTake_late b b0 g 10 (by decide)) (uTake_late b b0 g 11 (by decide))
        have tk1 := tk.w f1
        rw [hy] at at1
        obtain ⟨p8, p7, pN⟩ := id at1
        obtain ⟨t1, t2, t3, -, t5⟩ := tk1.2.2 b0 bN
        obtain ⟨v1, v2⟩ := t5 k3
        have ix : (uTake b b0 g).1 3 7 - 1 = nI b0 := by rw [p7, ← nI_1]; exact Int32.add_sub_cancel _ _
        have ev : ((uTake b b0 g).2.1 10 b0).toInt32 = nI (k.2.2.1 b0) := by rw [v1]; exact lN_i32
        have fin : ∀ g', xFw g g' → xAt N (.inr (b0 + 1)) g' → xLate (pLt l (pOut (k.2.2.1 b0) lo hi) 5 (k.2.1 b0)) g' → Q (some (.int ((uTake b b0 g).2.1 10 b0).toInt32)) g' := fun g' f at' lt => hQ _ _ ⟨_, rfl, f, by rw [hy]; exact at', fun b' hb' => by rw [hy] at hb'; cases hb'; exact ⟨ev, lt⟩⟩
        have on : ¬ oTake b b0 g = 0 := by rw [o1]; decide
        have lf := uLate_f 5 (b0 + 1) (uTake b b0 g)
        have late := fun (ho : pOut (k.2.2.1 b0) lo hi = true) => fin (uLate 5 (b0 + 1) (uTake b b0 g)) (f1.tr lf.1) (at1.k (fun j _ h => lf.2 j (by omega))) (by rw [ho]; exact uLate_l ⟨by decide, by decide⟩ (by rw [Nat.add_sub_cancel]; exact t2) lt0)
        have same := fun (ho : pOut (k.2.2.1 b0) lo hi = false) => fin (uTake b b0 g) f1 at1 (by rw [ho, pLt_f]; exact lt0)
        refine xm_run_go hm 40 ⟨(b, b0), ⟨rfl, a4, e7⟩, ⟨fun _ => ⟨b0, ⟨by omega, ix⟩, ⟨fun z => ⟨(5, b0 + 1), ⟨rfl, by show 0 < b0 + 1; omega, by show b0 + 1 ≤ 400; omega, p7⟩, late ?_⟩, fun z => ⟨fun z2 => same ?_, fun z2 => ⟨(5, b0 + 1), ⟨rfl, by show 0 < b0 + 1; omega, by show b0 + 1 ≤ 400; omega, p7⟩, late ?_⟩⟩⟩⟩, fun z => absurd z on⟩⟩
        · rw [ev] at z
          have := (nI_ltI (by omega) (by omega)).mp z
          unfold pOut; rw [decide_eq_true this]; rfl
        · rw [ev] at z z2
          have h1 := (nI_leI (by omega) (by omega)).mp z
          have h2 := (nI_leI (by omega) (by omega)).mp z2
          unfold pOut; rw [decide_eq_false (by omega), decide_eq_false (by omega)]; rfl
        · rw [ev] at z2
          have := (nI_ltI (by omega) (by omega)).mp z2
          unfold pOut; rw [decide_eq_true this, Bool.or_true]
      · have fin := hQ (some (.int (nI lo))) (uTake b a g) ⟨_, rfl, f1, at1, fun b' hb' => by rw [hq] at hb'; cases hb'⟩
        exact xm_run_go hm 40 ⟨(b, a), ⟨rfl, a4, e7⟩, ⟨fun z => absurd o0 z, fun _ => fin⟩⟩
    cases b with
    | true => exact xm_run_go hm 7 ⟨a, ⟨rfl, a4, e7⟩, ⟨fun z => absurd (hb.mp rfl) z, fun _ => at8⟩⟩
    | false => exact xm_run_go hm 6 ⟨a, ⟨rfl, a4, e7⟩, ⟨fun _ => at8, fun z => absurd (hb.mpr z) (by decide)⟩⟩
-- names
def xNl (c : Nat) (L : List (List Nat)) (g : xG) : Prop := ∀ i q, L[i]? = some q → g.2.1 c i = pNm 32 q ∧ pNok q
def oFind (n : List Nat) (L : List (List Nat)) : Int32 := match pFd n L with
  | some i => nI i
  | none => -1
def xt_X1_find : xT := xm_fn (Z := Bool × List Nat × List (List Nat)) (fun (b, n, L) av g => av = [.long (pNm 32 n), .ref (if b then 4 else 5), .int (nI L.length)] ∧ L.length ≤ (if b then 5 else 6) ∧ pNok n ∧ xNl (if b then 4 else 5) L g) (fun (_, n, L) _ => some (.int (oFind n L))) (fun _ g => g)
set_option maxRecDepth 100000 in
set_option maxHeartbeats 400000 in
theorem xp_X1_find {l : Launch} {D : va_G} {cA : Nat → ClassId} {B : List (Nat × Cell)} : xm_Met l D cA B xs_X 0 yX1_find cX1_find 5 (some .int) xt_X1_find := by
  have hm : xm_monos [] := xm_m0
  refine xm_meth (own := RX1) (ks := xk_X1_find) (C := xc_X1_find) (Ts := []) (by decide +kernel) rfl xm_clsok xs_X_ok xf_X1_ok xi_X1_ok xj_X1_ok xm_lk0 xo_X1_find ?_ ?_
  · rintro av g Q ⟨z, ⟨rfl, -⟩, -⟩
    exact Nat.le_of_ble_eq_true rfl
  · rintro av g Q ⟨⟨b, n, L⟩, ⟨rfl, hl, hn, hL⟩, hQ⟩
    dsimp only at hl hn hL hQ
    have l6 : L.length ≤ 6 := by cases b; exact hl; exact Nat.le_trans hl (by decide)
    have loop : ∀ d i, i + d = L.length → (∀ j, j < i → ¬ (L[j]?).getD [] = n) → xm_go xs_X xk_X1_find [] xc_X1_find Q (xm_drop 2 xc_X1_find) [.long (pNm 32 n), .retAddr 0, .ref (if b then 4 else 5), .int (nI L.length), .int (nI i)] [] g := by
      intro d
      induction d with
      | zero =>
        intro i hi hj
        have hi : i = L.length := by omega
        subst hi
        unfold oFind at hQ
        rw [pFd_no hj] at hQ
        cases b
        · exact xm_run_go hm 20 ⟨fun _ => hQ, fun z => absurd z (nI_nlt (Nat.le_refl _) (by omega))⟩
        · exact xm_run_go hm 20 ⟨fun _ => hQ, fun z => absurd z (nI_nlt (Nat.le_refl _) (by omega))⟩
      | succ d ih =>
        intro i hi hj
        have nx := ih (i + 1) (by omega)
        rw [nI_succ] at nx
        have hi' : i < L.length := by omega
        have e : L[i]? = some L[i] := List.getElem?_eq_getElem hi'
        obtain ⟨n1, n2⟩ := hL i _ e
        have same : g.2.1 (if b then 4 else 5) i = pNm 32 n ↔ L[i] = n := by rw [n1]; exact pNm_inj (b := 32) ⟨by decide, by decide⟩ n2 hn
        by_cases c : L[i] = n
        · unfold oFind at hQ
          rw [pFd_at hj (by rw [e, c])] at hQ
          cases b
          · exact xm_run_go hm 30 ⟨fun z => absurd z (nI_ge hi' (by omega)), fun _ => ⟨fun z => absurd z (nI_ge (b := 6) (by omega) (by decide)), fun _ => ⟨i, ⟨by omega, rfl⟩, ⟨fun z => absurd ((lg_cmp_eq _ _).mpr (same.mpr c)) z, fun _ => hQ⟩⟩⟩⟩
          · exact xm_run_go hm 30 ⟨fun z => absurd z (nI_ge hi' (by omega)), fun _ => ⟨fun z => absurd z (nI_ge (b := 5) (Nat.lt_of_lt_of_le hi' hl) (by decide)), fun _ => ⟨i, ⟨Nat.lt_of_lt_of_le hi' hl, rfl⟩, ⟨fun z => absurd ((lg_cmp_eq _ _).mpr (same.mpr c)) z, fun _ => hQ⟩⟩⟩⟩
        · have go := nx (fun j hj' => by
            by_cases ej : j = i
            · subst ej; rw [e]; exact c
            · exact hj j (by omega))
          cases b
          · exact xm_run_go hm 30 ⟨fun z => absurd z (nI_ge hi' (by omega)), fun _ => ⟨fun z => absurd z (nI_ge (b := 6) (by omega) (by decide)), fun _ => ⟨i, ⟨by omega, rfl⟩, ⟨fun _ => xm_cut hm go, fun z => absurd (same.mp ((lg_cmp_eq _ _).mp z)) c⟩⟩⟩⟩
          · exact xm_run_go hm 30 ⟨fun z => absurd z (nI_ge hi' (by omega)), fun _ => ⟨fun z => absurd z (nI_ge (b := 5) (Nat.lt_of_lt_of_le hi' hl) (by decide)), fun _ => ⟨i, ⟨Nat.lt_of_lt_of_le hi' hl, rfl⟩, ⟨fun _ => xm_cut hm go, fun z => absurd (same.mp ((lg_cmp_eq _ _).mp z)) c⟩⟩⟩⟩
    exact xm_run_go hm 10 (xm_cut hm (loop L.length 0 (by omega) (fun j hj => absurd hj (by omega))))
def xNs (s : pSt) (g : xG) : Prop := (xNl 4 (pNs s) g ∧ g.1 38 8 = nI (pNs s).length ∧ (pNs s).length ≤ 5) ∧ xNl 5 (pNp s) g ∧ g.1 38 9 = nI (pNp s).length ∧ (pNp s).length ≤ 6
theorem xNs.k {s : pSt} {g g' : xG} (h : xNs s g) (e2 : g'.2 = g.2) (e8 : g'.1 38 8 = g.1 38 8) (e9 : g'.1 38 9 = g.1 38 9) : xNs s g' := ⟨⟨fun i q hq => by rw [e2]; exact h.1.1 i q hq, e8.trans h.1.2.1, h.1.2.2⟩, fun i q hq => by rw [e2]; exact h.2.1 i q hq, e9.trans h.2.2.1, h.2.2.2⟩
theorem xNs.w {s : pSt} {g g' : xG} (h : xNs s g) (f : xFw g g') : xNs s g' := h.k f.1 (by rw [f.2.1 38 (by decide)]) (by rw [f.2.1 38 (by decide)])
theorem oFind_n {n : List Nat} {L : List (List Nat)} (hl : L.length ≤ 6) : (oFind n L < 0 ↔ pFd n L = none) ∧ ∀ i, pFd n L = some i → oFind n L = nI i := by
  unfold oFind
  cases h : pFd n L with
  | none => exact ⟨⟨fun _ => rfl, fun _ => by decide⟩, fun i hi => by cases hi⟩
  | some i =>
    have := pFd_lt h
    exact ⟨⟨fun z => absurd z (nI_pos (by omega)), fun z => by cases z⟩, fun j hj => by cases hj; rfl⟩
def xt_X1_newName : xT := xm_rl (Z := vTk × Nat × (pF ⊕ Nat) × Option pF × pSt) (fun (k, N, r, l, s) av g => av = [.ref 3] ∧ xTk k N g ∧ pKk k N ∧ xAt N r g ∧ xLq r l g ∧ xNs s g)
  (fun (k, N, r, l, s) g o g' => ∃ x, o = some (.long x) ∧ xFw g g' ∧ xAt N (pBn r (pMu k 2)) g' ∧ ∀ b, pBn r (pMu k 2) = .inr (b + 1) → x = pNm 32 (k.2.2.2 b) ∧ xLate (pLt l (pDp s (k.2.2.2 b)) 3 (k.2.1 b)) g')
set_option maxRecDepth 100000 in
set_option maxHeartbeats 400000 in
theorem xp_X1_newName {l : Launch} {D : va_G} {cA : Nat → ClassId} {B : List (Nat × Cell)} : xm_Met l D cA B xs_X 2 yX1_newName cX1_newName 3 (some .long) xt_X1_newName := by
  have hm : xm_monos [xt_X1_kind, xt_X1_take, xt_X1_find, xt_X1_failLate] := ⟨(by first | exact xm_fn_mono _ _ _ | exact xm_rl_mono _ _), (by first | exact xm_fn_mono _ _ _ | exact xm_rl_mono _ _), (by first | exact xm_fn_mono _ _ _ | exact xm_rl_mono _ _), (by first | exact xm_fn_mono _ _ _ | exact xm_rl_mono _ _), trivial⟩
  refine xm_meth (own := RX1) (ks := xk_X1_newName) (C := xc_X1_newName) (Ts := [xt_X1_kind, xt_X1_take, xt_X1_find, xt_X1_failLate]) (by decide +kernel) rfl xm_clsok xs_X_ok xf_X1_ok xi_X1_ok xj_X1_ok (xm_lk xl_X1_60 xp_X1_kind (by decide) (xm_lk xl_X1_77 xp_X1_take (by decide) (xm_lk xl_X1_122 xp_X1_find (by decide) (xm_lk xl_X1_126 xp_X1_failLate (by decide) xm_lk0)))) xo_X1_newName ?_ ?_
  · rintro av g Q ⟨z, ⟨rfl, -⟩, -⟩
    exact Nat.le_of_ble_eq_true rfl
  · rintro av g Q ⟨⟨k, N, r, l, s⟩, ⟨rfl, tk, kk, hat, hla, ns⟩, hQ⟩
    dsimp only at tk kk hat hla ns hQ
    obtain ⟨a, a4, e7, hr⟩ := hat.pos tk
    obtain ⟨b, hb, at1, ho⟩ := hat.mu tk a4 e7 (c := 2) (by decide) (by decide)
    have f1 : xFw g (uTake b a g) := xFw.rf.tk b a
    have at8 : xm_go xs_X xk_X1_newName [xt_X1_kind, xt_X1_take, xt_X1_find, xt_X1_failLate] xc_X1_newName Q (xm_drop 8 xc_X1_newName) [.ref 3, .retAddr 0, .retAddr 0] [.int (if b = true then 1 else 0), .ref 3] g := by
      rcases ho with ⟨y, hy, o1⟩ | ⟨q, hq, o0⟩
      · obtain ⟨b0, hb0, k3, b4, ey⟩ := pCi hy
        subst ey
        obtain ⟨ea, bN⟩ := hr b0 hb0
        subst ea
        have lt0 := (hla b0 hb0).k (uTake_late b b0 g 10 (by decide)) (uTake_late b b0 g 11 (by decide))
        have tk1 := tk.w f1
        have ns1 := ns.w f1
        rw [hy] at at1
        obtain ⟨p8, p7, pN⟩ := id at1
        obtain ⟨t1, t2, t3, t4, -⟩ := tk1.2.2 b0 bN
        have v1 := t4 k3
        have nok := (kk.1 b0 bN).1 k3
        have ix : (uTake b b0 g).1 3 7 - 1 = nI b0 := by rw [p7, ← nI_1]; exact Int32.add_sub_cancel _ _
        have on : ¬ oTake b b0 g = 0 := by rw [o1]; decide
        have fin : ∀ g', xFw g g' → xAt N (.inr (b0 + 1)) g' → xLate (pLt l (pDp s (k.2.2.2 b0)) 3 (k.2.1 b0)) g' → Q (some (.long ((uTake b b0 g).2.1 10 b0))) g' := fun g' f at' lt => hQ _ _ ⟨_, rfl, f, by rw [hy]; exact at', fun b' hb' => by rw [hy] at hb'; cases hb'; exact ⟨v1, lt⟩⟩
        have lf := uLate_f 3 (b0 + 1) (uTake b b0 g)
        have late := fun (ho : pDp s (k.2.2.2 b0) = true) => fin (uLate 3 (b0 + 1) (uTake b b0 g)) (f1.tr lf.1) (at1.k (fun j _ h => lf.2 j (by omega))) (by rw [ho]; exact uLate_l ⟨by decide, by decide⟩ (by rw [Nat.add_sub_cancel]; exact t2) lt0)
        have same := fun (ho : pDp s (k.2.2.2 b0) = false) => fin (uTake b b0 g) f1 at1 (by rw [ho, pLt_f]; exact lt0)
        obtain ⟨⟨n1, n2, n3⟩, n4, n5, n6⟩ := ns1
        obtain ⟨i1, -⟩ := oFind_n (n := k.2.2.2 b0) (L := pNs s) (by omega)
        obtain ⟨i2, -⟩ := oFind_n (n := k.2.2.2 b0) (L := pNp s) n6
        have e1 : [Value.long ((uTake b b0 g).2.1 10 b0), .ref 4, .int ((uTake b b0 g).1 38 8)] = [Value.long (pNm 32 (k.2.2.2 b0)), .ref 4, .int (nI (pNs s).length)] := by rw [v1, n2]
        have e2 : [Value.long ((uTake b b0 g).2.1 10 b0), .ref 5, .int ((uTake b b0 g).1 38 9)] = [Value.long (pNm 32 (k.2.2.2 b0)), .ref 5, .int (nI (pNp s).length)] := by rw [v1, n5]
        refine xm_run_go hm 60 ⟨(b, b0), ⟨rfl, a4, e7⟩, ⟨fun _ => ⟨b0, ⟨by omega, ix⟩, (true, k.2.2.2 b0, pNs s), ⟨e1, n3, nok, n1⟩, ⟨fun z => ⟨(3, b0 + 1), ⟨rfl, by show 0 < b0 + 1; omega, by show b0 + 1 ≤ 400; omega, p7⟩, late ?_⟩, fun z => ⟨(false, k.2.2.2 b0, pNp s), ⟨e2, n6, nok, n4⟩, ⟨fun z2 => same ?_, fun z2 => ⟨(3, b0 + 1), ⟨rfl, by show 0 < b0 + 1; omega, by show b0 + 1 ≤ 400; omega, p7⟩, late ?_⟩⟩⟩⟩⟩, fun z => absurd z on⟩⟩
        · unfold pDp
          cases hh : pFd (k.2.2.2 b0) (pNs s) with
          | none => exact absurd (i1.mpr hh) (Int32.not_lt.mpr z)
          | some x => rfl
        · unfold pDp
          rw [i1.mp z, i2.mp z2]; rfl
        · unfold pDp
          cases hh : pFd (k.2.2.2 b0) (pNp s) with
          | none => exact absurd (i2.mpr hh) (Int32.not_lt.mpr z2)
          | some x => rw [Option.isSome_some, Bool.or_true]
      · have fin := hQ (some (.long 0)) (uTake b a g) ⟨_, rfl, f1, at1, fun b' hb' => by rw [hq] at hb'; cases hb'⟩
        exact xm_run_go hm 40 ⟨(b, a), ⟨rfl, a4, e7⟩, ⟨fun z => absurd o0 z, fun _ => fin⟩⟩
    cases b with
    | true => exact xm_run_go hm 7 ⟨a, ⟨rfl, a4, e7⟩, ⟨fun z => absurd (hb.mp rfl) z, fun _ => at8⟩⟩
    | false => exact xm_run_go hm 6 ⟨a, ⟨rfl, a4, e7⟩, ⟨fun _ => at8, fun z => absurd (hb.mpr z) (by decide)⟩⟩
def xt_X1_knownName : xT := xm_rl (Z := vTk × Nat × (pF ⊕ Nat) × Option pF × Bool × List (List Nat)) (fun (k, N, r, l, d, L) av g => av = [.ref 3, .ref (if d then 4 else 5), .int (nI L.length)] ∧ xTk k N g ∧ pKk k N ∧ xAt N r g ∧ xLq r l g ∧ L.length ≤ (if d then 5 else 6) ∧ xNl (if d then 4 else 5) L g)
  (fun (k, N, r, l, d, L) g o g' => ∃ v, o = some (.int v) ∧ xFw g g' ∧ xAt N (pBn r (pMu k 2)) g' ∧ ∀ b, pBn r (pMu k 2) = .inr (b + 1) → (∀ x, pFd (k.2.2.2 b) L = some x → v = nI x) ∧ xLate (pLt l (pFd (k.2.2.2 b) L).isNone 4 (k.2.1 b)) g')
set_option maxRecDepth 100000 in
set_option maxHeartbeats 400000 in
theorem xp_X1_knownName {l : Launch} {D : va_G} {cA : Nat → ClassId} {B : List (Nat × Cell)} : xm_Met l D cA B xs_X 2 yX1_knownName cX1_knownName 4 (some .int) xt_X1_knownName := by
  have hm : xm_monos [xt_X1_kind, xt_X1_take, xt_X1_find, xt_X1_failLate] := ⟨(by first | exact xm_fn_mono _ _ _ | exact xm_rl_mono _ _), (by first | exact xm_fn_mono _ _ _ | exact xm_rl_mono _ _), (by first | exact xm_fn_mono _ _ _ | exact xm_rl_mono _ _), (by first | exact xm_fn_mono _ _ _ | exact xm_rl_mono _ _), trivial⟩
  refine xm_meth (own := RX1) (ks := xk_X1_knownName) (C := xc_X1_knownName) (Ts := [xt_X1_kind, xt_X1_take, xt_X1_find, xt_X1_failLate]) (by decide +kernel) rfl xm_clsok xs_X_ok xf_X1_ok xi_X1_ok xj_X1_ok (xm_lk xl_X1_60 xp_X1_kind (by decide) (xm_lk xl_X1_77 xp_X1_take (by decide) (xm_lk xl_X1_122 xp_X1_find (by decide) (xm_lk xl_X1_126 xp_X1_failLate (by decide) xm_lk0)))) xo_X1_knownName ?_ ?_
  · rintro av g Q ⟨z, ⟨rfl, -⟩, -⟩
    exact Nat.le_of_ble_eq_true rfl
  · rintro av g Q ⟨⟨k, N, r, l, d, L⟩, ⟨rfl, tk, kk, hat, hla, hl, hL⟩, hQ⟩
    dsimp only at tk kk hat hla hl hL hQ
    obtain ⟨a, a4, e7, hr⟩ := hat.pos tk
    obtain ⟨b, hb, at1, ho⟩ := hat.mu tk a4 e7 (c := 2) (by decide) (by decide)
    have f1 : xFw g (uTake b a g) := xFw.rf.tk b a
    have l6 : L.length ≤ 6 := by cases d; exact hl; exact Nat.le_trans hl (by decide)
    have at8 : xm_go xs_X xk_X1_knownName [xt_X1_kind, xt_X1_take, xt_X1_find, xt_X1_failLate] xc_X1_knownName Q (xm_drop 8 xc_X1_knownName) [.ref 3, .ref (if d then 4 else 5), .int (nI L.length), .retAddr 0] [.int (if b = true then 1 else 0), .ref 3] g := by
      rcases ho with ⟨y, hy, o1⟩ | ⟨q, hq, o0⟩
      · obtain ⟨b0, hb0, k3, b4, ey⟩ := pCi hy
        subst ey
        obtain ⟨ea, bN⟩ := hr b0 hb0
        subst ea
        have lt0 := (hla b0 hb0).k (uTake_late b b0 g 10 (by decide)) (uTake_late b b0 g 11 (by decide))
        have tk1 := tk.w f1
        rw [hy] at at1
        obtain ⟨p8, p7, pN⟩ := id at1
        obtain ⟨t1, t2, t3, t4, -⟩ := tk1.2.2 b0 bN
        have v1 := t4 k3
        have nok := (kk.1 b0 bN).1 k3
        have ix : (uTake b b0 g).1 3 7 - 1 = nI b0 := by rw [p7, ← nI_1]; exact Int32.add_sub_cancel _ _
        have on : ¬ oTake b b0 g = 0 := by rw [o1]; decide
        obtain ⟨i1, i2⟩ := oFind_n (n := k.2.2.2 b0) (L := L) l6
        have hL1 : xNl (if d then 4 else 5) L (uTake b b0 g) := fun i q hq => by rw [f1.1]; exact hL i q hq
        have fin : ∀ g', xFw g g' → xAt N (.inr (b0 + 1)) g' → xLate (pLt l (pFd (k.2.2.2 b0) L).isNone 4 (k.2.1 b0)) g' → Q (some (.int (oFind (k.2.2.2 b0) L))) g' := fun g' f at' lt => hQ _ _ ⟨_, rfl, f, by rw [hy]; exact at', fun b' hb' => by rw [hy] at hb'; cases hb'; exact ⟨i2, lt⟩⟩
        have lf := uLate_f 4 (b0 + 1) (uTake b b0 g)
        have late := fun (ho : pFd (k.2.2.2 b0) L = none) => fin (uLate 4 (b0 + 1) (uTake b b0 g)) (f1.tr lf.1) (at1.k (fun j _ h => lf.2 j (by omega))) (by rw [ho]; exact uLate_l ⟨by decide, by decide⟩ (by rw [Nat.add_sub_cancel]; exact t2) lt0)
        have same := fun (ho : (pFd (k.2.2.2 b0) L).isNone = false) => fin (uTake b b0 g) f1 at1 (by rw [ho, pLt_f]; exact lt0)
        have e1 : [Value.long ((uTake b b0 g).2.1 10 b0), .ref (if d then 4 else 5), .int (nI L.length)] = [Value.long (pNm 32 (k.2.2.2 b0)), .ref (if d then 4 else 5), .int (nI L.length)] := by rw [v1]
        refine xm_run_go hm 60 ⟨(b, b0), ⟨rfl, a4, e7⟩, ⟨fun _ => ⟨b0, ⟨by omega, ix⟩, (d, k.2.2.2 b0, L), ⟨e1, hl, nok, hL1⟩, ⟨fun z => same ?_, fun z => ⟨(4, b0 + 1), ⟨rfl, by show 0 < b0 + 1; omega, by show b0 + 1 ≤ 400; omega, p7⟩, late (i1.mp z)⟩⟩⟩, fun z => absurd z on⟩⟩
        cases hh : pFd (k.2.2.2 b0) L with
        | none => exact absurd (i1.mpr hh) (Int32.not_lt.mpr z)
        | some x => rfl
      · have fin := hQ (some (.int (-1))) (uTake b a g) ⟨_, rfl, f1, at1, fun b' hb' => by rw [hq] at hb'; cases hb'⟩
        exact xm_run_go hm 40 ⟨(b, a), ⟨rfl, a4, e7⟩, ⟨fun z => absurd o0 z, fun _ => fin⟩⟩
    cases b with
    | true => exact xm_run_go hm 7 ⟨a, ⟨rfl, a4, e7⟩, ⟨fun z => absurd (hb.mp rfl) z, fun _ => at8⟩⟩
    | false => exact xm_run_go hm 6 ⟨a, ⟨rfl, a4, e7⟩, ⟨fun _ => at8, fun z => absurd (hb.mpr z) (by decide)⟩⟩
