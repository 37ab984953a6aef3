-- MAKING: what a constructor makes joins its maker's world
section
variable {p : Program} {l : Launch} {e : Env} {R : Room} {s : State} {m : MethodId} {args : Array Value} {below : List Frame} {meth : Method} {c : Code} {H : Heap} {locs : List Loc} {cells slots mc ms : Nat} {Q : State → Prop}
variable {pc : Nat} {ls : Array Slot} {rest st0 : List Value} {A0 A1 : Nat → Prop} {H0 : Heap} {free : Addr → Prop} {D : va_G} {cA : Nat → ClassId}
theorem yc_call {Qa : State → Outcome → State → Prop} (hr : va_Run p l e R s m args below meth c H locs cells slots mc ms (F0 m pc ls st0) rest Qa free) (hS : va_S A0 H0 H locs) (hF : ∀ st₀ o t, Qa st₀ (.returned o) t → va_F A1 st₀ t) (hA : ∀ q, q < H.size → A1 q → A0 q) (hf : ∀ q, free q → A0 q)
    (kk : ∀ (o : Option Value) (st₀ t : State) (locs1 : List Loc), st₀.heap = H → Qa st₀ (.returned o) t → va_S A0 H0 t.heap locs1 → W p l e R s m args below meth c t.heap locs1 (cells + mc) (slots + ms) Q (F0 m (pc + 3) ls (o.toList ++ rest))) : W p l e R s m args below meth c H locs cells slots Q (F0 m pc ls st0) := by
  intro T hT X
  obtain ⟨v, st₀, t, T', L, h0, X', hL, e1, e2, hq, st⟩ := hr T hT X
  obtain ⟨hz, hk⟩ := hF st₀ v t hq
  rw [h0] at hz hk
  obtain ⟨t2, a1, b1⟩ := kk v st₀ t (locs ++ L) h0 hq
    ⟨Nat.le_trans hS.1 hz, fun q h1 h2 => by rw [hk q (Nat.lt_of_lt_of_le h1 hS.1) (fun z => h2 (hA q (Nat.lt_of_lt_of_le h1 hS.1) z))]; exact hS.2.1 q h1 h2, fun q hq => by
      rcases List.mem_append.mp hq with h | h
      · exact hS.2.2 q h
      · exact hf _ (hL q h)⟩ T' e1 X'
  exact ⟨t2, st t2 a1, b1⟩
theorem yc_join {A : Nat → Prop} {ws w : va_W} {x : va_E} {q : Nat} {H1 : Heap} (hP : va_P D vwCl (ws ++ [(q, x)]) H) (hD : va_D A (ws ++ [(q, x)])) (hA : ∀ z, H.size ≤ z → A z) (hk : ∀ z : Nat, z < H.size → ¬ yi_A q H.size z → H1[z]? = H[z]?) (hP1 : va_P D vwCl w H1) (hD1 : va_D (yi_A q H.size) w) : va_P D vwCl (ws ++ w) H1 ∧ va_D A (ws ++ w) := by
  have at1 : ∀ (k : Nat) (y : Nat × va_E), ws[k]? = some y → (ws ++ [(q, x)])[k]? = some y := fun k y h => by
    rw [List.getElem?_append_left (List.getElem?_eq_some_iff.mp h).1]; exact h
  have atq : (ws ++ [(q, x)])[ws.length]? = some (q, x) := by
    rw [List.getElem?_append_right (Nat.le_refl _), Nat.sub_self]; rfl
  have ne : ∀ (k : Nat) (y : Nat × va_E), ws[k]? = some y → y.1 < H.size ∧ y.1 ≠ q := fun k y h => by
    refine ⟨(hP k y (at1 k y h)).lt, fun e => ?_⟩
    have := hD.1 k ws.length y (q, x) (at1 k y h) atq e
    have := (List.getElem?_eq_some_iff.mp h).1
    omega
  have hq : A q := hD.2 _ _ atq
  refine ⟨fun k y hy => ?_, fun i j y z hy hz e => ?_, fun k y hy => ?_⟩
  · by_cases hl : k < ws.length
    · rw [List.getElem?_append_left hl] at hy
      have h1 := ne k y hy
      exact (hP k y (at1 k y hy)).kept (hk y.1 h1.1 (fun z => by rcases z with z | z <;> omega))
    · rw [List.getElem?_append_right (by omega)] at hy
      exact hP1 _ y hy
  · by_cases hi : i < ws.length
    · rw [List.getElem?_append_left hi] at hy
      by_cases hj : j < ws.length
      · rw [List.getElem?_append_left hj] at hz
        exact hD.1 i j y z (at1 i y hy) (at1 j z hz) e
      · rw [List.getElem?_append_right (by omega)] at hz
        have h1 := ne i y hy
        rcases hD1.2 _ z hz with h | h <;> omega
    · rw [List.getElem?_append_right (by omega)] at hy
      by_cases hj : j < ws.length
      · rw [List.getElem?_append_left hj] at hz
        have h1 := ne j z hz
        rcases hD1.2 _ y hy with h | h <;> omega
      · rw [List.getElem?_append_right (by omega)] at hz
        have := hD1.1 _ _ y z hy hz e
        omega
  · by_cases hl : k < ws.length
    · rw [List.getElem?_append_left hl] at hy
      exact hD.2 k y (at1 k y hy)
    · rw [List.getElem?_append_right (by omega)] at hy
      rcases hD1.2 _ y hy with h | h
      · rw [h]; exact hq
      · exact hA _ h
end
