-- THE LAW: the tape's bytes stay bytes; what a case is
def zB (σ : vS) : Prop := xBt (sN σ) (sB σ)
theorem zB_do {d : vS} {m : Nat} {x : Int32} {f : Nat → vS} (h : zB d) (hf : ∀ k, zB (f k)) : zB (vDo d m x f) := by
  unfold vDo
  split
  · exact hf _
  · exact h
theorem zB_app {q : Nat × (Nat → Int32)} (w : Int32) (h : xBt q.1 q.2) : xBt (vApp q w).1 (vApp q w).2 := by
  intro i hi
  show (if i < q.1 then q.2 i else vFb w (i - q.1)).toInt8.toInt32 = if i < q.1 then q.2 i else vFb w (i - q.1)
  by_cases c : i < q.1
  · rw [if_pos c]; exact h i c
  · rw [if_neg c]; unfold vFb; simp only [Int8.toInt8_toInt32]
theorem zB_feed {σ : vS} (h : zB σ) (a b c d e : Int32) : zB (sFeed σ a b c d e) := by
  unfold sFeed
  split
  · exact zB_app e (zB_app d (zB_app c (zB_app b (zB_app a h))))
  · exact h
theorem zB_back {σ : vS} (h : zB σ) (x : Int32) : zB (sBack σ x) := zB_do h (fun k i hi => h i (Nat.lt_of_lt_of_le hi (Nat.sub_le _ _)))
theorem zB_read (σ : vS) : zB (sRead σ) := by
  unfold sRead
  split <;> exact fun i hi => absurd hi (Nat.not_lt_zero _)
theorem zB_show {σ : vS} (h : zB σ) (p s : Int32) : zB (sShow σ p s) := zB_do h (fun _ => zB_do h (fun _ => h))
theorem zB_wash {σ : vS} (h : zB σ) (p : Int32) : zB (sWash σ p) := zB_do h (fun q => by
  by_cases c : vPic (sT σ) (sC σ) q < 0
  · rw [if_pos c]; exact h
  · rw [if_neg c]; exact h)
theorem zB_go {σ : vS} (h : zB σ) (p s : Int32) : zB (sGo σ p s) := zB_do h (fun p => zB_do h (fun q => by
  by_cases c : cS (sC σ) p = q
  · rw [if_pos c]; exact h
  · rw [if_neg c]; exact h))
theorem zB_weeks {σ : vS} (h : zB σ) (n : Int32) : zB (sWeeks σ n) := zB_do h (fun q => by
  by_cases c : q = 0
  · rw [if_pos c]; exact h
  · rw [if_neg c]; exact h)
theorem zB_undo {σ : vS} (h : zB σ) : zB (sUndo σ) := by
  unfold sUndo
  by_cases c : sK σ = 0
  · rw [if_pos c]; exact h
  · rw [if_neg c]; exact h
theorem zB_tell {σ : vS} (h : zB σ) (m v : Int32) (b : Bool) : zB (sTell σ m v b) := zB_do h (fun _ => zB_do h (fun _ => h))
theorem zB_forget {σ : vS} (h : zB σ) : zB (sForget σ) := h
theorem zB_hold {σ : vS} (h : zB σ) (s : Int32) : zB (sHold σ s) := zB_do h (fun _ => h)
theorem zB_restore {σ : vS} (h : zB σ) (s : Int32) : zB (sRestore σ s) := zB_do h (fun q => by
  cases sL σ q with
  | none => exact h
  | some c => exact h)
theorem zB_s0 : zB s0 := fun i hi => absurd hi (Nat.not_lt_zero _)
def zC (p : Program) (l : Launch) (e : Env) (s : State) (m : MethodId) (below : List Frame) (meth : Method) (c : Code) (b : Nat) (D : va_G) (cA : Nat → ClassId) (sa : Nat → Nat) (q8 q9 i pc : Nat) : Prop :=
  ∀ (σ : vS) (H : Heap) (locs : List Loc) (ls : Array Slot), zB σ → zW D cA sa s q8 q9 (xTop σ) (mTop σ) H locs → zLs b q8 q9 i ls → (∀ (σ' : vS) (H : Heap) (locs : List Loc), zB σ' → zW D cA sa s q8 q9 (xTop σ') (mTop σ') H locs → zG p l e s m below meth c b H locs 1338 ls []) → zG p l e s m below meth c b H locs pc ls []
theorem zt_tell (xs : Nat → Int32) (i : Nat) : zl_ar xs i [(1, false), (2, false), (3, true)] = [.int (xs (i + 1)), .int (xs (i + 2)), .int (if (!decide (xs (i + 3) = 0)) then 1 else 0)] := by
  show [Value.int (xs (i + 1)), .int (xs (i + 2)), .int (if xs (i + 3) = 0 then 0 else 1)] = _
  by_cases h : xs (i + 3) = 0
  · simp [h]
  · simp [h]
