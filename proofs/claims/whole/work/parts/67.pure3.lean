-- READING: the tells
abbrev pF : Type := Nat × Nat
def pBn {α β : Type} (r : pF ⊕ α) (f : α → pF ⊕ β) : pF ⊕ β := match r with
  | .inl e => .inl e
  | .inr a => f a
theorem pBn_i {α β : Type} {r : pF ⊕ α} {f : α → pF ⊕ β} {b : β} : pBn r f = .inr b ↔ ∃ a, r = .inr a ∧ f a = .inr b := by
  cases r with
  | inl e => exact ⟨(fun h => by cases h), fun ⟨a, h, _⟩ => by cases h⟩
  | inr a => exact ⟨fun h => ⟨a, rfl, h⟩, fun ⟨a', h, h2⟩ => by cases h; exact h2⟩
theorem pBn_r {α β : Type} (a : α) (f : α → pF ⊕ β) : pBn (.inr a) f = f a := rfl
theorem pBn_l {α β : Type} (e : pF) (f : α → pF ⊕ β) : pBn (.inl e) f = .inl e := rfl
def pGo (k : vTk) (a : Nat) : pF ⊕ Nat := if 400 ≤ a then .inl (2, k.2.1 a) else .inr (a + 1)
def pMu (k : vTk) (c a : Nat) : pF ⊕ Nat := if k.1 a = c then pGo k a else .inl (1, k.2.1 a)
def pRo (k : vTk) (n m a : Nat) : pF ⊕ Nat := if n = m then .inl (2, k.2.1 a) else pGo k a
def pEx (k : vTk) (a : Nat) : pF ⊕ (Nat × vX) := pE k (401 - a) a 0 [] [] true
theorem pGo_i {k : vTk} {a b : Nat} : pGo k a = .inr b ↔ a < 400 ∧ b = a + 1 := by
  unfold pGo
  by_cases h : 400 ≤ a
  · rw [if_pos h]; exact ⟨(fun z => by cases z), fun z => by omega⟩
  · rw [if_neg h]; exact ⟨fun z => by cases z; exact ⟨by omega, rfl⟩, fun z => by rw [z.2]⟩
theorem pMu_i {k : vTk} {c a b : Nat} : pMu k c a = .inr b ↔ k.1 a = c ∧ a < 400 ∧ b = a + 1 := by
  unfold pMu
  by_cases h : k.1 a = c
  · rw [if_pos h]; exact pGo_i.trans ⟨fun z => ⟨h, z⟩, fun z => z.2⟩
  · rw [if_neg h]; exact ⟨(fun z => by cases z), fun z => absurd z.1 h⟩
theorem pRo_i {k : vTk} {n m a b : Nat} : pRo k n m a = .inr b ↔ n ≠ m ∧ a < 400 ∧ b = a + 1 := by
  unfold pRo
  by_cases h : n = m
  · rw [if_pos h]; exact ⟨(fun z => by cases z), fun z => absurd h z.1⟩
  · rw [if_neg h]; exact pGo_i.trans ⟨fun z => ⟨h, z⟩, fun z => z.2⟩
theorem pEx_i {k : vTk} {a a' : Nat} {e : vX} (h : pEx k a = .inr (a', e)) (ha : a ≤ 400) : vDp 15 e 0 ∧ a ≤ a' ∧ a' ≤ 400 ∧ e.length ≤ a' - a := by
  obtain ⟨p1, p2, p3, p4, -⟩ := pE_ok (401 - a) a 0 [] [] true rfl (by omega) rfl ha a' e h
  refine ⟨vDr_dp 15 e 0 p1, p2, p3, ?_⟩
  simp [pBi] at p4
  omega
-- laws
def pIf (k : vTk) (a : Nat) : pF ⊕ (Nat × vX × vX × vX) :=
  pBn (pGo k a) fun a1 => pBn (pEx k a1) fun u => pBn (pMu k 60 u.1) fun a3 => pBn (pEx k a3) fun v => pBn (pMu k 137 v.1) fun a5 => pBn (pEx k a5) fun w => pBn (pMu k 138 w.1) fun a7 => .inr (a7, u.2, v.2, w.2)
def pIfs (k : vTk) : Nat → Nat → List (vX × vX × vX) → pF ⊕ (Nat × List (vX × vX × vX) × vX)
  | 0, a, bs => if k.1 a = 136 then .inl (2, k.2.1 a) else pBn (pEx k a) fun e => .inr (e.1, bs, e.2)
  | m + 1, a, bs => if k.1 a = 136 then pBn (pIf k a) fun q => pIfs k m q.1 (bs ++ [q.2]) else pBn (pEx k a) fun e => .inr (e.1, bs, e.2)
def pLaw (k : vTk) (a : Nat) : pF ⊕ (Nat × List (vX × vX × vX) × vX) :=
  pBn (pGo k a) fun a1 => pBn (pMu k 61 a1) fun a2 => pBn (pIfs k 4 a2 []) fun q => pBn (pMu k 59 q.1) fun a4 => .inr (a4, q.2)
theorem pIf_i {k : vTk} {a a' : Nat} {u v w : vX} (h : pIf k a = .inr (a', u, v, w)) : vDp 15 u 0 ∧ vDp 15 v 0 ∧ vDp 15 w 0 ∧ a' ≤ 400 ∧ a + u.length + v.length + w.length + 4 ≤ a' := by
  unfold pIf at h
  obtain ⟨a1, h1, h⟩ := pBn_i.mp h
  obtain ⟨⟨a2, u'⟩, h2, h⟩ := pBn_i.mp h
  obtain ⟨a3, h3, h⟩ := pBn_i.mp h
  obtain ⟨⟨a4, v'⟩, h4, h⟩ := pBn_i.mp h
  obtain ⟨a5, h5, h⟩ := pBn_i.mp h
  obtain ⟨⟨a6, w'⟩, h6, h⟩ := pBn_i.mp h
  obtain ⟨a7, h7, h⟩ := pBn_i.mp h
  cases h
  obtain ⟨q1, rfl⟩ := pGo_i.mp h1
  obtain ⟨x1, x2, x3, x4⟩ := pEx_i h2 (by omega)
  obtain ⟨-, q3, rfl⟩ := pMu_i.mp h3
  dsimp only at q3 h4
  obtain ⟨y1, y2, y3, y4⟩ := pEx_i h4 (by omega)
  obtain ⟨-, q5, rfl⟩ := pMu_i.mp h5
  dsimp only at q5 h6
  obtain ⟨z1, z2, z3, z4⟩ := pEx_i h6 (by omega)
  obtain ⟨-, q7, rfl⟩ := pMu_i.mp h7
  dsimp only at q7 ⊢
  exact ⟨x1, y1, z1, by omega, by omega⟩
theorem pIfs_i {k : vTk} : ∀ (m a : Nat) (bs : List (vX × vX × vX)) (a' : Nat) (bs' : List (vX × vX × vX)) (e : vX), pIfs k m a bs = .inr (a', bs', e) → a ≤ 400 → (∀ q, q ∈ bs → vDp 15 q.1 0 ∧ vDp 15 q.2.1 0 ∧ vDp 15 q.2.2 0) → vLf bs' e ∧ a ≤ a' ∧ a' ≤ 400
  | 0, a, bs, a', bs', e, h, ha, hb => by
    unfold pIfs at h
    by_cases c : k.1 a = 136
    · rw [if_pos c] at h; cases h
    · rw [if_neg c] at h
      obtain ⟨⟨a2, e'⟩, h2, h⟩ := pBn_i.mp h
      cases h
      obtain ⟨x1, x2, x3, x4⟩ := pEx_i h2 ha
      exact ⟨⟨x1, hb⟩, x2, x3⟩
  | m + 1, a, bs, a', bs', e, h, ha, hb => by
    unfold pIfs at h
    by_cases c : k.1 a = 136
    · rw [if_pos c] at h
      obtain ⟨⟨a2, u, v, w⟩, h2, h⟩ := pBn_i.mp h
      obtain ⟨x1, x2, x3, x4, x5⟩ := pIf_i h2
      have := pIfs_i m a2 _ a' bs' e h x4 (fun q hq => by
        rcases List.mem_append.mp hq with hq | hq
        · exact hb q hq
        · rw [List.mem_singleton] at hq; subst hq; exact ⟨x1, x2, x3⟩)
      exact ⟨this.1, by omega, this.2.2⟩
    · rw [if_neg c] at h
      obtain ⟨⟨a2, e'⟩, h2, h⟩ := pBn_i.mp h
      cases h
      obtain ⟨x1, x2, x3, x4⟩ := pEx_i h2 ha
      exact ⟨⟨x1, hb⟩, x2, x3⟩
theorem pLaw_i {k : vTk} {a a' : Nat} {bs : List (vX × vX × vX)} {e : vX} (h : pLaw k a = .inr (a', bs, e)) : vLf bs e ∧ a < a' ∧ a' ≤ 400 := by
  unfold pLaw at h
  obtain ⟨a1, h1, h⟩ := pBn_i.mp h
  obtain ⟨a2, h2, h⟩ := pBn_i.mp h
  obtain ⟨⟨a3, bs', e'⟩, h3, h⟩ := pBn_i.mp h
  obtain ⟨a4, h4, h⟩ := pBn_i.mp h
  cases h
  obtain ⟨q1, rfl⟩ := pGo_i.mp h1
  obtain ⟨-, q2, rfl⟩ := pMu_i.mp h2
  obtain ⟨x1, x2, x3⟩ := pIfs_i 4 _ _ _ _ _ h3 (by omega) (fun q hq => by cases hq)
  obtain ⟨-, q3, rfl⟩ := pMu_i.mp h4
  exact ⟨x1, by dsimp only; omega, by dsimp only at q3 ⊢; omega⟩
-- what a text tells: a late fault, slides, people, who is shown what, the seed, the laws
abbrev pSl : Type := List Nat × Nat × Nat × Nat
abbrev pPe : Type := List Nat × Nat
abbrev pSt : Type := Option pF × List pSl × List pPe × List (Nat × Nat) × Nat × (Nat → List (vX × vX × vX) × vX)
abbrev qL (s : pSt) : Option pF := s.1
abbrev qS (s : pSt) : List pSl := s.2.1
abbrev qP (s : pSt) : List pPe := s.2.2.1
abbrev qH (s : pSt) : List (Nat × Nat) := s.2.2.2.1
abbrev qD (s : pSt) : Nat := s.2.2.2.2.1
abbrev qX (s : pSt) : Nat → List (vX × vX × vX) × vX := s.2.2.2.2.2
def pLt (l : Option pF) (b : Bool) (n p : Nat) : Option pF := match l with
  | some q => some q
  | none => if b then some (n, p) else none
/-- the first of a sort that bears a name -/
def pFd (n : List Nat) : List (List Nat) → Option Nat
  | [] => none
  | m :: r => if m = n then some 0 else (pFd n r).map (· + 1)
def pNs (s : pSt) : List (List Nat) := (qS s).map (·.1)
def pNp (s : pSt) : List (List Nat) := (qP s).map (·.1)
def pDp (s : pSt) (n : List Nat) : Bool := (pFd n (pNs s)).isSome || (pFd n (pNp s)).isSome
def pOut (v lo hi : Nat) : Bool := decide (v < lo) || decide (hi < v)
def pTell (k : vTk) (a : Nat) (s : pSt) : pF ⊕ (Nat × pSt) :=
  if k.1 a = 128 then pBn (pBn (pBn (pBn (pBn (pBn (pRo k (qS s).length 5 a) (pMu k 2)) (pMu k 3)) (pMu k 3)) (pMu k 3)) (pMu k 59)) fun b =>
    .inr (b, pLt (pLt (pLt (pLt (qL s) (pDp s (k.2.2.2 (a + 1))) 3 (k.2.1 (a + 1))) (pOut (k.2.2.1 (a + 2)) 0 5) 5 (k.2.1 (a + 2))) (pOut (k.2.2.1 (a + 3)) 0 5) 5 (k.2.1 (a + 3))) (pOut (k.2.2.1 (a + 4)) 1 20) 5 (k.2.1 (a + 4)),
      qS s ++ [(k.2.2.2 (a + 1), k.2.2.1 (a + 2), k.2.2.1 (a + 3), k.2.2.1 (a + 4))], qP s, qH s, qD s, qX s)
  else if k.1 a = 129 then pBn (pBn (pBn (pBn (pRo k (qP s).length 6 a) (pMu k 2)) (pMu k 3)) (pMu k 59)) fun b =>
    .inr (b, pLt (pLt (qL s) (pDp s (k.2.2.2 (a + 1))) 3 (k.2.1 (a + 1))) (pOut (k.2.2.1 (a + 2)) 0 9) 5 (k.2.1 (a + 2)), qS s, qP s ++ [(k.2.2.2 (a + 1), k.2.2.1 (a + 2))], qH s, qD s, qX s)
  else if k.1 a = 130 then pBn (pBn (pBn (pBn (pRo k (qH s).length 20 a) (pMu k 2)) (pMu k 2)) (pMu k 59)) fun b =>
    .inr (b, pLt (pLt (qL s) (pFd (k.2.2.2 (a + 1)) (pNp s)).isNone 4 (k.2.1 (a + 1))) (pFd (k.2.2.2 (a + 2)) (pNs s)).isNone 4 (k.2.1 (a + 2)), qS s, qP s, qH s ++ [((pFd (k.2.2.2 (a + 1)) (pNp s)).getD 0, (pFd (k.2.2.2 (a + 2)) (pNs s)).getD 0)], qD s, qX s)
  else if 131 ≤ k.1 a ∧ k.1 a ≤ 134 then pBn (pLaw k a) fun q => .inr (q.1, qL s, qS s, qP s, qH s, qD s, fun i => if i = k.1 a - 131 then q.2 else qX s i)
  else if k.1 a = 135 then pBn (pBn (pBn (pGo k a) (pMu k 3)) (pMu k 59)) fun b => .inr (b, pLt (qL s) (pOut (k.2.2.1 (a + 1)) 0 9999) 5 (k.2.1 (a + 1)), qS s, qP s, qH s, k.2.2.1 (a + 1), qX s)
  else .inl (1, k.2.1 a)
def pAll (k : vTk) : Nat → Nat → pSt → pF ⊕ pSt
  | 0, _, _ => .inl (9, 0)
  | f + 1, a, s => if k.1 a = 0 then .inr s else pBn (pTell k a s) fun q => pAll k f q.1 q.2
def pS0 : pSt := (none, [], [], [], 0, fun i => ([], vDf i))
def pTs (s : pSt) : vSt := ((qS s).length, (qP s).length, fun i => nI (((qS s)[i]?).getD ([], 0, 0, 0)).2.1, fun i => nI (((qS s)[i]?).getD ([], 0, 0, 0)).2.2.1, fun i => nI (((qS s)[i]?).getD ([], 0, 0, 0)).2.2.2, fun i => nI (((qP s)[i]?).getD ([], 0)).2, nI (qD s), fun i => vLw (qX s i).1 (qX s i).2)
theorem pLt_n {l : Option pF} {b : Bool} {n p : Nat} (h : pLt l b n p = none) : l = none ∧ b = false := by
  cases l with
  | some q => cases h
  | none =>
    cases b with
    | false => exact ⟨rfl, rfl⟩
    | true => cases h
theorem pFd_lt {n : List Nat} : ∀ {l : List (List Nat)} {i : Nat}, pFd n l = some i → i < l.length
  | [], _, h => by cases h
  | m :: r, i, h => by
    unfold pFd at h
    by_cases c : m = n
    · rw [if_pos c] at h; cases h; simp
    · rw [if_neg c] at h
      cases hf : pFd n r with
      | none => rw [hf] at h; cases h
      | some j =>
        rw [hf] at h
        have := pFd_lt hf
        cases h
        simp only [List.length_cons]; omega
def pInv (s : pSt) : Prop := (qS s).length ≤ 5 ∧ (qP s).length ≤ 6 ∧ (qH s).length ≤ 20 ∧ (∀ i, vLf (qX s i).1 (qX s i).2) ∧ (qL s = none → ∀ q, q ∈ qH s → q.1 < (qP s).length ∧ q.2 < (qS s).length)
theorem vDf_ok (i : Nat) : vLf [] (vDf i) := by
  refine ⟨?_, fun q hq => by cases hq⟩
  unfold vDf
  split
  · exact ⟨fun _ => by decide, by decide, rfl⟩
  · split
    · exact ⟨fun z => absurd z (by decide), by decide, rfl⟩
    · split
      · exact ⟨fun _ => by decide, by decide, rfl⟩
      · exact ⟨fun z => absurd z (by decide), by decide, rfl⟩
theorem pInv0 : pInv pS0 := ⟨by decide, by decide, by decide, fun i => vDf_ok i, fun _ q hq => by cases hq⟩
theorem pTell_i {k : vTk} {a a' : Nat} {s s' : pSt} (h : pTell k a s = .inr (a', s')) (hi : pInv s) : pInv s' ∧ a < a' ∧ a' ≤ 400 := by
  obtain ⟨i1, i2, i3, i4, i5⟩ := hi
  unfold pTell at h
  by_cases c1 : k.1 a = 128
  · rw [if_pos c1] at h
    obtain ⟨b6, h6, h⟩ := pBn_i.mp h
    obtain ⟨b5, h5, h6⟩ := pBn_i.mp h6
    obtain ⟨b4, h4, h5⟩ := pBn_i.mp h5
    obtain ⟨b3, h3, h4⟩ := pBn_i.mp h4
    obtain ⟨b2, h2, h3⟩ := pBn_i.mp h3
    obtain ⟨b1, h1, h2⟩ := pBn_i.mp h2
    cases h
    have := pRo_i.mp h1
    have := pMu_i.mp h2
    have := pMu_i.mp h3
    have := pMu_i.mp h4
    have := pMu_i.mp h5
    have := pMu_i.mp h6
    refine ⟨⟨?_, i2, i3, i4, fun hl q hq => ?_⟩, by omega, by omega⟩
    · show (qS s ++ [_]).length ≤ 5; rw [List.length_append, List.length_singleton]; omega
    · have := i5 (pLt_n (pLt_n (pLt_n (pLt_n hl).1).1).1).1 q hq
      show q.1 < (qP s).length ∧ q.2 < (qS s ++ [_]).length
      rw [List.length_append]; omega
  rw [if_neg c1] at h
  by_cases c2 : k.1 a = 129
  · rw [if_pos c2] at h
    obtain ⟨b4, h4, h⟩ := pBn_i.mp h
    obtain ⟨b3, h3, h4⟩ := pBn_i.mp h4
    obtain ⟨b2, h2, h3⟩ := pBn_i.mp h3
    obtain ⟨b1, h1, h2⟩ := pBn_i.mp h2
    cases h
    have := pRo_i.mp h1
    have := pMu_i.mp h2
    have := pMu_i.mp h3
    have := pMu_i.mp h4
    refine ⟨⟨i1, ?_, i3, i4, fun hl q hq => ?_⟩, by omega, by omega⟩
    · show (qP s ++ [_]).length ≤ 6; rw [List.length_append, List.length_singleton]; omega
    · have := i5 (pLt_n (pLt_n hl).1).1 q hq
      show q.1 < (qP s ++ [_]).length ∧ q.2 < (qS s).length
      rw [List.length_append]; omega
  rw [if_neg c2] at h
  by_cases c3 : k.1 a = 130
  · rw [if_pos c3] at h
    obtain ⟨b4, h4, h⟩ := pBn_i.mp h
    obtain ⟨b3, h3, h4⟩ := pBn_i.mp h4
    obtain ⟨b2, h2, h3⟩ := pBn_i.mp h3
    obtain ⟨b1, h1, h2⟩ := pBn_i.mp h2
    cases h
    have := pRo_i.mp h1
    have := pMu_i.mp h2
    have := pMu_i.mp h3
    have := pMu_i.mp h4
    refine ⟨⟨i1, i2, ?_, i4, fun hl q hq => ?_⟩, by omega, by omega⟩
    · show (qH s ++ [_]).length ≤ 20; rw [List.length_append, List.length_singleton]; omega
    · obtain ⟨l1, l2⟩ := pLt_n hl
      obtain ⟨l3, l4⟩ := pLt_n l1
      rcases List.mem_append.mp hq with hq | hq
      · exact i5 l3 q hq
      · rw [List.mem_singleton] at hq
        subst hq
        cases e1 : pFd (k.2.2.2 (a + 1)) (pNp s) with
        | none => rw [e1] at l4; cases l4
        | some x =>
          cases e2 : pFd (k.2.2.2 (a + 2)) (pNs s) with
          | none => rw [e2] at l2; cases l2
          | some y =>
            have := pFd_lt e1
            have := pFd_lt e2
            unfold pNp at *
            unfold pNs at *
            rw [List.length_map] at *
            exact ⟨by assumption, by assumption⟩
  rw [if_neg c3] at h
  by_cases c4 : 131 ≤ k.1 a ∧ k.1 a ≤ 134
  · rw [if_pos c4] at h
    obtain ⟨⟨b, bs, e⟩, h1, h⟩ := pBn_i.mp h
    cases h
    obtain ⟨x1, x2, x3⟩ := pLaw_i h1
    refine ⟨⟨i1, i2, i3, fun i => ?_, i5⟩, x2, x3⟩
    show vLf (if i = k.1 a - 131 then (bs, e) else qX s i).1 (if i = k.1 a - 131 then (bs, e) else qX s i).2
    split
    · exact x1
    · exact i4 i
  rw [if_neg c4] at h
  by_cases c5 : k.1 a = 135
  · rw [if_pos c5] at h
    obtain ⟨b3, h3, h⟩ := pBn_i.mp h
    obtain ⟨b2, h2, h3⟩ := pBn_i.mp h3
    obtain ⟨b1, h1, h2⟩ := pBn_i.mp h2
    cases h
    have := pGo_i.mp h1
    have := pMu_i.mp h2
    have := pMu_i.mp h3
    exact ⟨⟨i1, i2, i3, i4, fun hl q hq => i5 (pLt_n hl).1 q hq⟩, by omega, by omega⟩
  rw [if_neg c5] at h; cases h
-- names as numbers
def pVr (b : Nat) : List Nat → Nat
  | [] => 0
  | x :: r => pVr b r * b + x
def pNok (l : List Nat) : Prop := l.length ≤ 8 ∧ ∀ x, x ∈ l → 1 ≤ x ∧ x ≤ 26
theorem pNm_r (b : Nat) : ∀ r : List Nat, pNm (lN b) r.reverse = lN (pVr b r)
  | [] => rfl
  | x :: r => by
    have ih := pNm_r b r
    unfold pNm at ih ⊢
    rw [List.reverse_cons, List.foldl_append, ih]
    show lN (pVr b r) * lN b + lN x = lN (pVr b r * b + x)
    rw [lN_mul, lN_add]
theorem pVr_lt {b : Nat} (hb : 27 ≤ b) : ∀ r : List Nat, (∀ x, x ∈ r → 1 ≤ x ∧ x ≤ 26) → pVr b r < b ^ r.length
  | [], _ => by simp [pVr]
  | x :: r, h => by
    have ih := pVr_lt hb r (fun y hy => h y (List.mem_cons_of_mem _ hy))
    have hx := h x (List.mem_cons_self ..)
    show pVr b r * b + x < b ^ (r.length + 1)
    rw [Nat.pow_succ]
    have : (pVr b r + 1) * b ≤ b ^ r.length * b := Nat.mul_le_mul_right b ih
    rw [Nat.add_mul] at this
    omega
theorem pVr_inj {b : Nat} (hb : 27 ≤ b) : ∀ r q : List Nat, (∀ x, x ∈ r → 1 ≤ x ∧ x ≤ 26) → (∀ x, x ∈ q → 1 ≤ x ∧ x ≤ 26) → pVr b r = pVr b q → r = q
  | [], [], _, _, _ => rfl
  | [], y :: q, _, h2, h => by
    have := h2 y (List.mem_cons_self ..)
    simp only [pVr] at h; omega
  | x :: r, [], h1, _, h => by
    have := h1 x (List.mem_cons_self ..)
    simp only [pVr] at h; omega
  | x :: r, y :: q, h1, h2, h => by
    have hx := h1 x (List.mem_cons_self ..)
    have hy := h2 y (List.mem_cons_self ..)
    simp only [pVr] at h
    have m1 : (pVr b r * b + x) % b = x := by rw [Nat.mul_comm, Nat.mul_add_mod]; exact Nat.mod_eq_of_lt (by omega)
    have m2 : (pVr b q * b + y) % b = y := by rw [Nat.mul_comm, Nat.mul_add_mod]; exact Nat.mod_eq_of_lt (by omega)
    have e : x = y := by rw [← m1, ← m2, h]
    subst e
    have e2 : pVr b r = pVr b q := Nat.eq_of_mul_eq_mul_right (by omega : 0 < b) (by omega)
    rw [pVr_inj hb r q (fun z hz => h1 z (List.mem_cons_of_mem _ hz)) (fun z hz => h2 z (List.mem_cons_of_mem _ hz)) e2]
theorem lN_inj {a b : Nat} (ha : a < 2 ^ 63) (hb : b < 2 ^ 63) (h : lN a = lN b) : a = b := by
  have h1 : (lN a).toBitVec.toNat = (lN b).toBitVec.toNat := by rw [h]
  have e : ∀ n, n < 2 ^ 63 → (lN n).toBitVec.toNat = n := fun n hn => by
    show (BitVec.ofNat 64 n).toNat = n
    rw [BitVec.toNat_ofNat]; exact Nat.mod_eq_of_lt (by omega)
  rw [e a ha, e b hb] at h1
  exact h1
theorem pNm_inj {b : Nat} (hb : 27 ≤ b ∧ b ≤ 32) {l m : List Nat} (hl : pNok l) (hm : pNok m) : pNm (lN b) l = pNm (lN b) m ↔ l = m := by
  refine ⟨fun h => ?_, fun h => by rw [h]⟩
  have e1 := pNm_r b l.reverse
  have e2 := pNm_r b m.reverse
  rw [List.reverse_reverse] at e1 e2
  rw [e1, e2] at h
  have cl : ∀ x, x ∈ l.reverse → 1 ≤ x ∧ x ≤ 26 := fun x hx => hl.2 x (List.mem_reverse.mp hx)
  have cm : ∀ x, x ∈ m.reverse → 1 ≤ x ∧ x ≤ 26 := fun x hx => hm.2 x (List.mem_reverse.mp hx)
  have big : ∀ n : Nat, n ≤ 8 → b ^ n < 2 ^ 63 := fun n hn => by
    have h1 : b ^ n ≤ 32 ^ n := Nat.pow_le_pow_left hb.2 n
    have h2 : 32 ^ n ≤ 32 ^ 8 := Nat.pow_le_pow_right (by omega) hn
    have h3 : (32 : Nat) ^ 8 < 2 ^ 63 := by decide
    omega
  have v1 := pVr_lt hb.1 l.reverse cl
  have v2 := pVr_lt hb.1 m.reverse cm
  have b1 := big l.reverse.length (by rw [List.length_reverse]; exact hl.1)
  have b2 := big m.reverse.length (by rw [List.length_reverse]; exact hm.1)
  have := pVr_inj hb.1 _ _ cl cm (lN_inj (by omega) (by omega) h)
  rw [← List.reverse_reverse l, this, List.reverse_reverse]
/-- tokens: places that grow, names of letters -/
def pKk (k : vTk) (N : Nat) : Prop := (∀ i, i ≤ N → (k.1 i = 2 → pNok (k.2.2.2 i)) ∧ k.2.1 i ≤ 2000) ∧ ∀ i j, i < j → j ≤ N → k.2.1 i < k.2.1 j
