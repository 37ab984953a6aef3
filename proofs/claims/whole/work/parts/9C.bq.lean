-- MAKING: the constants' texts stay
theorem xm_Bq.at {sa : Nat → Nat} {A : Nat → Prop} {s U : State} {H : Heap} {locs : List Loc} (h : xm_Bq sa A s s.heap) (hS : va_S A s.heap H locs) (hW : s.WarmedH U.vm) (hU : U.heap = H) : xm_Bq sa A U U.heap := by
  have ha : s.vm.Alike U.vm := hW.alike
  have hq : ∀ a : Nat, a < s.heap.size → ¬ A a → H[a]? = s.heap[a]? := hS.2.1
  rw [hU]
  exact ⟨(h.1.moved ha).kept hq, fun q hq' => (h.2.1 q hq').warm hW, (h.2.2.1.moved ha).kept hq, h.2.2.2.imp (fun z => (z.moved ha).kept hq) (fun z => (z.moved ha).kept hq)⟩
theorem xm_Bq.call {sa ad : Nat → Nat} {A : Nat → Prop} {s U : State} {H : Heap} {locs : List Loc} {X : va_W} {cA : Nat → ClassId} {g : xG} {S : List xC} (h : xm_Bq sa A s s.heap) (hS : va_S A s.heap H locs) (hW : s.WarmedH U.vm) (hU : U.heap = H) (hA : ∀ z, s.heap.size ≤ z → A z) (hD : va_D A (X ++ xm_ws ad cA g S)) (he : ∀ k, 1000 ≤ k → ad k = sa k) : xm_B [] ad S U U.heap := by
  refine (h.at hS hW hU).B he (fun q hq => ?_)
  rcases hq with ⟨k, hk, rfl⟩ | hq
  · exact (yd_r hD).2 k _ (xm_ws_at (List.getElem?_eq_getElem hk))
  · rw [hU] at hq
    exact hA _ (Nat.le_trans hS.1 hq)
theorem yadS_s (adS sa : Nat → Nat) : ∀ k, 1000 ≤ k → yadS adS sa k = sa k := fun k hk => by unfold yadS; rw [if_neg (by omega)]
theorem yadB_s (adN adS sa : Nat → Nat) : ∀ k, 1000 ≤ k → yadB adN adS sa k = sa k := fun k hk => by unfold yadB; rw [if_neg (by omega), if_neg (by omega)]
theorem ys_e1 (X S N M : va_W) : ((X ++ S) ++ N) ++ M = X ++ (S ++ (N ++ M)) := by rw [List.append_assoc (X ++ S) N M, List.append_assoc X S (N ++ M)]
theorem ys_e2 (X S N M : va_W) : X ++ ((N ++ M) ++ S) = X ++ (N ++ (M ++ S)) := by rw [List.append_assoc N M S]
theorem ys_e3 (X S N M : va_W) : X ++ ((M ++ S) ++ N) = (X ++ M) ++ (S ++ N) := by rw [List.append_assoc M S N, List.append_assoc X M (S ++ N)]
theorem ys_rP {D : va_G} {H : Heap} {X S N M : va_W} (h : va_P D vwCl (((X ++ S) ++ N) ++ M) H) : va_P D vwCl ((X ++ M) ++ (N ++ S)) H := by
  rw [ys_e1] at h
  have h1 := ys_P h
  rw [ys_e2] at h1
  have h2 := ys_P h1
  rw [ys_e3] at h2
  exact ys_P h2
theorem ys_rD {A : Nat → Prop} {X S N M : va_W} (h : va_D A (((X ++ S) ++ N) ++ M)) : va_D A ((X ++ M) ++ (N ++ S)) := by
  rw [ys_e1] at h
  have h1 := ys_D h
  rw [ys_e2] at h1
  have h2 := ys_D h1
  rw [ys_e3] at h2
  exact ys_D h2
theorem gB_9 : gB.1 9 9 = 0 := (congrFun (gB_s 0) 9).trans rfl
theorem gB_10 : gB.1 9 10 = 0 := (congrFun (gB_s 0) 10).trans rfl
