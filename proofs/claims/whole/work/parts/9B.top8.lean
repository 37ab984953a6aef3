-- MAKING: what the class's cells say at the start
def gz : xG := (fun _ _ => 0, fun _ _ => 0, fun _ _ => 0)
def gBu (u : xG) : xG := (fun k j => if k < 9 then 0 else u.1 (k - 9) j, fun _ _ => 0, fun _ _ => 9)
def gB : xG := gBu (uClr 0 gz)
theorem gB_s (k : Nat) : gB.1 (9 + k) = (uClr 0 gz).1 k := by
  funext j
  show (if 9 + k < 9 then 0 else (uClr 0 gz).1 (9 + k - 9) j) = _
  rw [if_neg (by omega), Nat.add_sub_cancel_left]
def gF (g2 : xG) : xG := (fun k j => if k = 0 then (if j = 8 then -1 else 0) else if 11 ≤ k ∧ k ≤ 19 then g2.1 (k - 11) j else if 29 ≤ k ∧ k ≤ 37 then g2.1 (k - 29 + 9) j else 0, fun _ _ => 0, fun _ _ => 29)
theorem uClr_lw : ∀ i, i < 4 → ∃ st, (uClr 0 gz).1 8 i = nI st ∧ xLw ((uClr 0 gz).1 7) 8 st [] (vDf i) := by
  intro i hi
  have c : i = 0 ∨ i = 1 ∨ i = 2 ∨ i = 3 := by omega
  have one : ∀ (q : Nat × Nat) (i : Nat) (p : Nat × Nat), ([q] : vX)[i]? = some p → i = 0 ∧ p = q := fun q i p h => by
    cases i with
    | zero => exact ⟨rfl, (Option.some.inj h).symm⟩
    | succ i => cases h
  rcases c with rfl | rfl | rfl | rfl
  · exact ⟨0, rfl, 0, rfl, fun i q h => by obtain ⟨rfl, rfl⟩ := one (1, 2) i q h; rfl, rfl, by decide⟩
  · exact ⟨2, rfl, 2, rfl, fun i q h => by obtain ⟨rfl, rfl⟩ := one (0, 1) i q h; rfl, rfl, by decide⟩
  · exact ⟨4, rfl, 4, rfl, fun i q h => by obtain ⟨rfl, rfl⟩ := one (1, 0) i q h; rfl, rfl, by decide⟩
  · exact ⟨6, rfl, 6, rfl, fun i q h => by obtain ⟨rfl, rfl⟩ := one (0, 0) i q h; rfl, rfl, by decide⟩
theorem x8_top (g2 : xG) (h2 : g2.1 0 2 = 0) (h3 : g2.1 0 3 = 0) (hg : ∀ i, i < 30 → g2.1 1 i = 0) (hr : ∀ j, j < 6 → g2.1 2 j = nI j) (hk : ∀ k, 3 ≤ k → g2.1 k = gB.1 k) : xTop s0 (gF g2) := by
  have e9 : (gF g2).1 29 = (uClr 0 gz).1 0 := (show (gF g2).1 29 = g2.1 9 from rfl).trans ((hk 9 (by decide)).trans (gB_s 0))
  have e16 : (gF g2).1 36 = (uClr 0 gz).1 7 := (show (gF g2).1 36 = g2.1 16 from rfl).trans ((hk 16 (by decide)).trans (gB_s 7))
  have e17 : (gF g2).1 37 = (uClr 0 gz).1 8 := (show (gF g2).1 37 = g2.1 17 from rfl).trans ((hk 17 (by decide)).trans (gB_s 8))
  have sto : xSto 29 (pTs pS0) (gF g2) := ⟨by rw [e9]; rfl, by rw [e9]; rfl, (fun i hi => absurd hi (Nat.not_lt_zero _)), (fun i hi => absurd hi (Nat.not_lt_zero _)), by rw [e9]; rfl, 8, by decide, by rw [e9]; rfl, fun i hi vars => by
    obtain ⟨st, e1, m, m1, m2, m3, m4⟩ := uClr_lw i hi
    show vLw [] (vDf i) vars = xEv ((gF g2).1 36) 8 vars 408 ((gF g2).1 37 i) []
    rw [e16, e17, e1]
    have lm := xLb_le m1
    exact (xEv_law (by decide) m2 m3 m4 (vDf_ok i).1 (pNx0 i).2 [] st 408 m1 (by omega) (fun q hq => by cases hq)).symm⟩
  refine ⟨s0_ok, ⟨Or.inl rfl, y9_v, sto, ⟨⟨rfl, fun i hi => ?_, fun k hk6 => ?_, ?_, ?_⟩, (fun p hp => absurd hp (Nat.not_lt_zero _))⟩⟩, ⟨rfl, fun i hi => absurd hi (Nat.not_lt_zero _)⟩, rfl, ⟨Nat.zero_le _, ⟨0, by decide, rfl, rfl, fun i hi => absurd hi (Nat.not_lt_zero _)⟩, ?_, (fun i hi c hc => by cases hc)⟩, ⟨rfl, Nat.zero_le _, fun i hi => absurd hi (Nat.not_lt_zero _)⟩⟩
  · show g2.1 1 i = 0
    exact hg i hi
  · show g2.1 2 k = nI k
    exact hr k hk6
  · exact h2
  · exact h3
  · show (0 : Int32) = nI (vMask fun _ => none)
    rfl
-- the segments as worlds of shapes
def wS (cA : Nat → ClassId) (ad : Nat → Nat) : va_W := (ad 0, .inr (5, yb_fs ad 1 yf_X5 yl_X5)) :: yb_ar cA ad 1 yl_X5
def wN (cA : Nat → ClassId) (b : Nat) (ad : Nat → Nat) : va_W := (ad 0, .inr (3, (yb_fs ad 1 yf_X3 yl_X3).set 10 (.ref b))) :: yb_ar cA ad 1 yl_X3
def yadS (adS sa : Nat → Nat) : Nat → Nat := fun k => if k < 9 then adS k else sa k
def yadB (adN adS sa : Nat → Nat) : Nat → Nat := fun k => if k < 9 then adN k else if k < 18 then adS (k - 9) else sa k
set_option maxRecDepth 100000 in
theorem wS_0 (cA : Nat → ClassId) (adS sa : Nat → Nat) : ∀ k, k < 9 → (wS cA adS)[k]? = (xs_S[k]?).map (fun c => (yadS adS sa k, xm_ce2 (yadS adS sa) cA gz k c))
  | 0, _ => rfl
  | 1, _ => rfl
  | 2, _ => rfl
  | 3, _ => rfl
  | 4, _ => rfl
  | 5, _ => rfl
  | 6, _ => rfl
  | 7, _ => rfl
  | 8, _ => rfl
  | k + 9, h => absurd h (by omega)
theorem wS_e (cA : Nat → ClassId) (adS sa : Nat → Nat) : wS cA adS = xm_ws (yadS adS sa) cA gz xs_S := by
  apply List.ext_getElem?
  intro k
  by_cases h : k < 9
  · rw [xm_ws_q]; exact wS_0 cA adS sa k h
  · rw [xm_ws_n (by show 9 ≤ k; omega), List.getElem?_eq_none (by show 9 ≤ k; omega)]
set_option maxRecDepth 100000 in
theorem wB_0 (cA : Nat → ClassId) (u : xG) (adN adS sa : Nat → Nat) : ∀ k, k < 9 → (wN cA (adS 0) adN)[k]? = (xs_T[k]?).map (fun c => (yadB adN adS sa k, xm_ce2 (yadB adN adS sa) cA (gBu u) k c))
  | 0, _ => rfl
  | 1, _ => rfl
  | 2, _ => rfl
  | 3, _ => rfl
  | 4, _ => rfl
  | 5, _ => rfl
  | 6, _ => rfl
  | 7, _ => rfl
  | 8, _ => rfl
  | k + 9, h => absurd h (by omega)
set_option maxRecDepth 100000 in
theorem wB_1 (cA : Nat → ClassId) (u : xG) (adN adS sa : Nat → Nat) : ∀ k, k < 9 → (xs_S[k]?).map (fun c => (yadS adS sa k, xm_ce2 (yadS adS sa) cA u k c)) = (xs_T[9 + k]?).map (fun c => (yadB adN adS sa (9 + k), xm_ce2 (yadB adN adS sa) cA (gBu u) (9 + k) c))
  | 0, _ => rfl
  | 1, _ => rfl
  | 2, _ => rfl
  | 3, _ => rfl
  | 4, _ => rfl
  | 5, _ => rfl
  | 6, _ => rfl
  | 7, _ => rfl
  | 8, _ => rfl
  | k + 9, h => absurd h (by omega)
theorem wB_e (cA : Nat → ClassId) (u : xG) (adN adS sa : Nat → Nat) : wN cA (adS 0) adN ++ xm_ws (yadS adS sa) cA u xs_S = xm_ws (yadB adN adS sa) cA (gBu u) xs_T := by
  apply List.ext_getElem?
  intro k
  by_cases h : k < 9
  · rw [List.getElem?_append_left (by show k < 9; exact h), xm_ws_q]; exact wB_0 cA u adN adS sa k h
  · rw [List.getElem?_append_right (by show 9 ≤ k; omega)]
    show (xm_ws (yadS adS sa) cA u xs_S)[k - 9]? = _
    by_cases h2 : k < 18
    · rw [xm_ws_q, xm_ws_q]
      have := wB_1 cA u adN adS sa (k - 9) (by omega)
      rw [show 9 + (k - 9) = k by omega] at this
      exact this
    · rw [xm_ws_n (by show 9 ≤ k - 9; omega), xm_ws_n (by show 18 ≤ k; omega)]
