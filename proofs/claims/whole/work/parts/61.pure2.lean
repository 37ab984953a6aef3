-- READING: tokens (kind, place, number, letters), kinds as the class has them
abbrev vTk : Type := (Nat → Nat) × (Nat → Nat) × (Nat → Nat) × (Nat → List Nat)
def pStr (k : Nat) : Nat := if k = 43 ∨ k = 45 then 1 else if k = 42 ∨ k = 47 then 2 else 0
def pOp (k : Nat) : Nat := if k = 43 then 2 else if k = 45 then 3 else if k = 42 then 4 else 5
/-- what comes out of the waiting signs, and what stays -/
def pRel (s : Nat) : List Nat → vX × List Nat
  | [] => ([], [])
  | w :: r => if s ≤ pStr w then ((pOp w, 0) :: (pRel s r).1, (pRel s r).2) else ([], w :: r)
def pUn (k : vTk) (a : Nat) : Bool := decide (k.1 a = 3) || (decide (139 ≤ k.1 a) && decide (k.1 a ≤ 147))
theorem pUn_i {k : vTk} {a : Nat} : pUn k a = true ↔ k.1 a = 3 ∨ (139 ≤ k.1 a ∧ k.1 a ≤ 147) := by
  unfold pUn
  rw [Bool.or_eq_true, Bool.and_eq_true, decide_eq_true_eq, decide_eq_true_eq, decide_eq_true_eq]
def pU (k : vTk) (a : Nat) : Nat × Nat := if k.1 a = 3 then (0, k.2.2.1 a) else (1, k.1 a - 139)
/-- an expression from a token on: fuel, place, open brackets, waiting signs, what came out, whether a unit is wanted -/
def pE (k : vTk) : Nat → Nat → Nat → List Nat → vX → Bool → (Nat × Nat) ⊕ (Nat × vX)
  | 0, _, _, _, _, _ => .inl (9, 0)
  | f + 1, a, o, w, e, true => if k.1 a = 40 then (if 6 ≤ o then .inl (2, k.2.1 a) else if 400 ≤ a then .inl (2, k.2.1 a) else pE k f (a + 1) (o + 1) (40 :: w) e true)
      else if pUn k a then (if 400 ≤ a then .inl (2, k.2.1 a) else pE k f (a + 1) o w (e ++ [pU k a]) false) else .inl (1, k.2.1 a)
  | f + 1, a, o, w, e, false => if k.1 a = 41 ∧ 0 < o then (if 400 ≤ a then .inl (2, k.2.1 a) else pE k f (a + 1) (o - 1) (pRel 1 w).2.tail (e ++ (pRel 1 w).1) false)
      else if 0 < pStr (k.1 a) then (if 400 ≤ a then .inl (2, k.2.1 a) else pE k f (a + 1) o (k.1 a :: (pRel (pStr (k.1 a)) w).2) (e ++ (pRel (pStr (k.1 a)) w).1) true)
      else if 0 < o then .inl (1, k.2.1 a) else .inr (a, e ++ (pRel 1 w).1)
-- the stack of what came out
def vDr (b : Nat) : vX → Nat → Nat → Prop
  | [], d, h => d = h
  | q :: r, d, h => if q.1 < 2 then (q.1 = 1 → q.2 < 9) ∧ d + 1 ≤ b ∧ vDr b r (d + 1) h else q.1 < 6 ∧ 2 ≤ d ∧ vDr b r (d - 1) h
theorem vDr_dp (b : Nat) : ∀ (e : vX) (d : Nat), vDr b e d 1 → vDp b e d
  | [], _, h => h
  | q :: r, d, h => by
    unfold vDr at h
    unfold vDp
    split
    · rename_i z; rw [if_pos z] at h; exact ⟨h.1, h.2.1, vDr_dp b r _ h.2.2⟩
    · rename_i z; rw [if_neg z] at h; exact ⟨h.1, h.2.1, vDr_dp b r _ h.2.2⟩
theorem vDr_app (b : Nat) : ∀ (e e' : vX) (d m h : Nat), vDr b e d m → vDr b e' m h → vDr b (e ++ e') d h
  | [], _, d, m, h, h1, h2 => by cases h1; exact h2
  | q :: r, e', d, m, h, h1, h2 => by
    rw [List.cons_append]
    unfold vDr at h1 ⊢
    split
    · rename_i z; rw [if_pos z] at h1; exact ⟨h1.1, h1.2.1, vDr_app b r e' _ m h h1.2.2 h2⟩
    · rename_i z; rw [if_neg z] at h1; exact ⟨h1.1, h1.2.1, vDr_app b r e' _ m h h1.2.2 h2⟩
/-- how many binding signs wait -/
def pBi : List Nat → Nat
  | [] => 0
  | w :: r => (if 0 < pStr w then 1 else 0) + pBi r
theorem pOp_in (k : Nat) : 2 ≤ pOp k ∧ pOp k < 6 := by
  unfold pOp
  split
  · omega
  · split
    · omega
    · split <;> omega
theorem pRel_dr {s : Nat} (hs : 0 < s) : ∀ w : List Nat, vDr 15 (pRel s w).1 (pBi w + 1) (pBi (pRel s w).2 + 1)
  | [] => rfl
  | x :: r => by
    unfold pRel
    by_cases h : s ≤ pStr x
    · rw [if_pos h]
      have := pOp_in x
      have ih := pRel_dr hs r
      unfold vDr
      rw [if_neg (by dsimp only; omega)]
      have eb : pBi (x :: r) = pBi r + 1 := by
        show (if 0 < pStr x then 1 else 0) + pBi r = _
        rw [if_pos (show 0 < pStr x by omega)]; omega
      rw [eb]
      refine ⟨by dsimp only; omega, by omega, ?_⟩
      rw [show pBi r + 1 + 1 - 1 = pBi r + 1 by omega]
      exact ih
    · rw [if_neg h]; rfl
/-- the signs that wait: within each bracket one of the weaker, one of the stronger -/
def pWf : Nat → Nat → List Nat → Prop
  | o, _, [] => o = 0
  | o, s, x :: r => (x = 40 ∧ 0 < o ∧ pWf (o - 1) 3 r) ∨ ((x = 43 ∨ x = 45 ∨ x = 42 ∨ x = 47) ∧ pStr x < s ∧ pWf o (pStr x) r)
theorem pWf_up : ∀ {o s s' : Nat} {w : List Nat}, pWf o s w → s ≤ s' → pWf o s' w
  | _, _, _, [], h, _ => h
  | o, s, s', x :: r, h, hs => by
    unfold pWf at h ⊢
    rcases h with h | ⟨h1, h2, h3⟩
    · exact Or.inl h
    · exact Or.inr ⟨h1, by omega, h3⟩
theorem pWf_len : ∀ {o s : Nat} {w : List Nat}, pWf o s w → s ≤ 3 → w.length + 1 ≤ 3 * o + s ∨ (s = 0 ∧ w.length ≤ 3 * o)
  | o, s, [], h, hs => by
    unfold pWf at h
    subst h
    cases s with
    | zero => exact Or.inr ⟨rfl, Nat.le_refl _⟩
    | succ s => left; simp
  | o, s, x :: r, h, hs => by
    unfold pWf at h
    rcases h with ⟨h1, h2, h3⟩ | ⟨h1, h2, h3⟩
    · have := pWf_len h3 (by omega)
      rw [List.length_cons]
      rcases Nat.eq_zero_or_pos s with q | q
      · right; exact ⟨q, by omega⟩
      · left; omega
    · have p1 : 1 ≤ pStr x ∧ pStr x ≤ 2 := by
        rcases h1 with rfl | rfl | rfl | rfl <;> decide
      have := pWf_len h3 (by omega)
      rw [List.length_cons]
      left; omega
theorem pWf_bi : ∀ {o s : Nat} {w : List Nat}, pWf o s w → s ≤ 3 → pBi w + 1 ≤ 2 * o + s ∨ (s = 0 ∧ pBi w ≤ 2 * o)
  | o, s, [], h, hs => by
    unfold pWf at h
    subst h
    cases s with
    | zero => exact Or.inr ⟨rfl, Nat.le_refl _⟩
    | succ s => left; simp only [pBi]; omega
  | o, s, x :: r, h, hs => by
    unfold pWf at h
    unfold pBi
    rcases h with ⟨h1, h2, h3⟩ | ⟨h1, h2, h3⟩
    · have := pWf_bi h3 (by omega)
      rw [h1, if_neg (by decide)]
      rcases Nat.eq_zero_or_pos s with q | q
      · right; exact ⟨q, by omega⟩
      · left; omega
    · have p1 : 1 ≤ pStr x ∧ pStr x ≤ 2 := by
        rcases h1 with rfl | rfl | rfl | rfl <;> decide
      have := pWf_bi h3 (by omega)
      rw [if_pos (by omega)]
      left; omega
theorem pRel_wf : ∀ {o s t : Nat} {w : List Nat}, 0 < t → pWf o s w → pWf o t (pRel t w).2 ∧ (pRel t w).2.length ≤ w.length
  | o, s, t, [], ht, h => ⟨h, Nat.le_refl _⟩
  | o, s, t, x :: r, ht, h => by
    unfold pWf at h
    unfold pRel
    rcases h with ⟨h1, h2, h3⟩ | ⟨h1, h2, h3⟩
    · subst h1
      rw [if_neg (by rw [show pStr 40 = 0 from rfl]; omega)]
      exact ⟨Or.inl ⟨rfl, h2, h3⟩, Nat.le_refl _⟩
    · by_cases z : t ≤ pStr x
      · rw [if_pos z]
        have := pRel_wf ht h3
        exact ⟨this.1, Nat.le_trans this.2 (Nat.le_succ _)⟩
      · rw [if_neg z]
        exact ⟨Or.inr ⟨h1, by omega, h3⟩, Nat.le_refl _⟩
theorem pRel_1 : ∀ {o s : Nat} {w : List Nat}, pWf o s w → (o = 0 ∧ (pRel 1 w).2 = []) ∨ (0 < o ∧ ∃ r, (pRel 1 w).2 = 40 :: r ∧ pWf (o - 1) 3 r)
  | o, s, [], h => Or.inl ⟨h, rfl⟩
  | o, s, x :: r, h => by
    unfold pWf at h
    unfold pRel
    rcases h with ⟨h1, h2, h3⟩ | ⟨h1, h2, h3⟩
    · subst h1
      rw [if_neg (by decide)]
      exact Or.inr ⟨h2, r, rfl, h3⟩
    · rw [if_pos (by rcases h1 with rfl | rfl | rfl | rfl <;> decide)]
      exact pRel_1 h3
theorem pStr_le (k : Nat) : pStr k ≤ 2 := by
  unfold pStr
  split
  · omega
  · split <;> omega
theorem pStr_op {k : Nat} (h : 0 < pStr k) : k = 43 ∨ k = 45 ∨ k = 42 ∨ k = 47 := by
  unfold pStr at h
  by_cases z : k = 43 ∨ k = 45
  · omega
  · rw [if_neg z] at h
    by_cases y : k = 42 ∨ k = 47
    · omega
    · rw [if_neg y] at h; omega
theorem pBi_40 (w : List Nat) : pBi (40 :: w) = pBi w := by
  show (if 0 < pStr 40 then 1 else 0) + pBi w = _
  rw [if_neg (by decide)]; omega
theorem pBi_op {x : Nat} (h : 0 < pStr x) (w : List Nat) : pBi (x :: w) = pBi w + 1 := by
  show (if 0 < pStr x then 1 else 0) + pBi w = _
  rw [if_pos h]; omega
/-- what an expression leaves keeps to its stack, and to its tokens -/
theorem pE_ok {k : vTk} : ∀ (f a o : Nat) (w : List Nat) (e : vX) (b : Bool), pWf o 3 w → o ≤ 6 → vDr 15 e 0 (pBi w + (if b then 0 else 1)) → a ≤ 400 → ∀ a' e', pE k f a o w e b = .inr (a', e') → vDr 15 e' 0 1 ∧ a ≤ a' ∧ a' ≤ 400 ∧ e'.length + pBi w + a ≤ e.length + pBi w + pBi w + a' ∧ ∃ e2, e' = e ++ e2
  | 0, a, o, w, e, b, _, _, _, _, a', e', h => by cases b <;> cases h
  | f + 1, a, o, w, e, true, hw, ho, hd, ha, a', e', h => by
    unfold pE at h
    rw [if_pos rfl, Nat.add_zero] at hd
    by_cases c1 : k.1 a = 40
    · rw [if_pos c1] at h
      by_cases c2 : 6 ≤ o
      · rw [if_pos c2] at h; cases h
      · rw [if_neg c2] at h
        by_cases c3 : 400 ≤ a
        · rw [if_pos c3] at h; cases h
        · rw [if_neg c3] at h
          obtain ⟨p1, p2, p3, p4, p5⟩ := pE_ok f (a + 1) (o + 1) (40 :: w) e true (Or.inl ⟨rfl, by omega, hw⟩) (by omega) (by rw [if_pos rfl, pBi_40]; exact hd) (by omega) a' e' h
          rw [pBi_40] at p4
          exact ⟨p1, by omega, p3, by omega, p5⟩
    · rw [if_neg c1] at h
      by_cases c2 : pUn k a = true
      · rw [if_pos c2] at h
        by_cases c3 : 400 ≤ a
        · rw [if_pos c3] at h; cases h
        · rw [if_neg c3] at h
          have bi := pWf_bi hw (by omega)
          obtain ⟨p1, p2, p3, p4, e2, p5⟩ := pE_ok f (a + 1) o w (e ++ [pU k a]) false hw ho (by
            rw [if_neg (by decide)]
            refine vDr_app 15 e [pU k a] 0 _ _ hd ?_
            unfold pU
            split
            · exact ⟨fun z => absurd z (by dsimp only; omega), by omega, rfl⟩
            · rename_i z
              refine ⟨fun _ => ?_, by omega, rfl⟩
              dsimp only
              rcases pUn_i.mp c2 with c2 | c2
              · exact absurd c2 z
              · omega) (by omega) a' e' h
          rw [List.length_append] at p4
          simp only [List.length_singleton] at p4
          exact ⟨p1, by omega, p3, by omega, [pU k a] ++ e2, by rw [p5, List.append_assoc]⟩
      · rw [if_neg c2] at h; cases h
  | f + 1, a, o, w, e, false, hw, ho, hd, ha, a', e', h => by
    unfold pE at h
    rw [if_neg (by decide)] at hd
    have rd := pRel_dr (s := 1) (by omega) w
    have len : ∀ s, 0 < s → (pRel s w).1.length + pBi (pRel s w).2 = pBi w := fun s hs => by
      clear rd hd hw h
      induction w with
      | nil => rfl
      | cons x r ih =>
        unfold pRel
        by_cases z : s ≤ pStr x
        · rw [if_pos z, pBi_op (by omega), List.length_cons]; dsimp only; omega
        · rw [if_neg z]; simp
    by_cases c1 : k.1 a = 41 ∧ 0 < o
    · rw [if_pos c1] at h
      by_cases c3 : 400 ≤ a
      · rw [if_pos c3] at h; cases h
      · rw [if_neg c3] at h
        rcases pRel_1 hw with ⟨q, -⟩ | ⟨q, r, q1, q2⟩
        · omega
        · have l1 := len 1 (by omega)
          rw [q1, pBi_40] at l1
          rw [q1, pBi_40] at rd
          rw [q1] at h
          obtain ⟨p1, p2, p3, p4, e2, p5⟩ := pE_ok f (a + 1) (o - 1) r (e ++ (pRel 1 w).1) false q2 (by omega) (by
            rw [if_neg (by decide)]
            exact vDr_app 15 e _ 0 _ _ hd rd) (by omega) a' e' h
          rw [List.length_append] at p4
          exact ⟨p1, by omega, p3, by omega, (pRel 1 w).1 ++ e2, by rw [p5, List.append_assoc]⟩
    · rw [if_neg c1] at h
      by_cases c2 : 0 < pStr (k.1 a)
      · rw [if_pos c2] at h
        by_cases c3 : 400 ≤ a
        · rw [if_pos c3] at h; cases h
        · rw [if_neg c3] at h
          have l1 := len (pStr (k.1 a)) c2
          have rw1 := (pRel_wf c2 hw).1
          have sl := pStr_le (k.1 a)
          obtain ⟨p1, p2, p3, p4, e2, p5⟩ := pE_ok f (a + 1) o (k.1 a :: (pRel (pStr (k.1 a)) w).2) (e ++ (pRel (pStr (k.1 a)) w).1) true (Or.inr ⟨pStr_op c2, by omega, rw1⟩) ho (by
            rw [if_pos rfl, Nat.add_zero, pBi_op c2]
            exact vDr_app 15 e _ 0 _ _ hd (pRel_dr c2 w)) (by omega) a' e' h
          rw [List.length_append, pBi_op c2] at p4
          exact ⟨p1, by omega, p3, by omega, (pRel (pStr (k.1 a)) w).1 ++ e2, by rw [p5, List.append_assoc]⟩
      · rw [if_neg c2] at h
        by_cases c4 : 0 < o
        · rw [if_pos c4] at h; cases h
        · rw [if_neg c4] at h
          cases h
          have l1 := len 1 (by omega)
          rcases pRel_1 hw with ⟨q, q1⟩ | ⟨q, -⟩
          · rw [q1] at rd l1
            refine ⟨vDr_app 15 e _ 0 _ _ hd rd, Nat.le_refl _, ha, ?_, _, rfl⟩
            rw [List.length_append]
            simp only [pBi] at l1
            omega
          · omega
