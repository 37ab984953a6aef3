-- THE ABSTRACT MACHINE IS SOUND
theorem xm_good {w : Cond} (h : w ∈ xm_tbl) : goodWord w = true := (List.mem_filter.mp h).2
theorem xm_goodIn {y : MethodName} {bytes : ByteArray} {maxL : Nat} {ret : Option FieldType} (h : Cond.code y bytes maxL ret ∈ xm_tbl) : GoodIn xm_tbl (Cond.code y bytes maxL ret :: xm_tbl) := by
  intro w hw
  rcases List.mem_cons.mp hw with rfl | hw
  · exact ⟨h, good_of_word (xm_good h)⟩
  · exact ⟨hw, good_of_word (xm_good hw)⟩
theorem xm_ix {i : Int32} {j n : Nat} (h : j < n ∧ i = nI j) (hn : n < 2 ^ 31) : vp_in i n ∧ i.toNatClampNeg = j := by
  obtain ⟨h1, rfl⟩ := h
  exact ⟨vp_in_nI h1 hn, nI_clamp (by omega)⟩
theorem xm_swt_ok {C : List xE} {pc : Nat} {x : Int32} {go : Nat → Prop} {d : Nat} : ∀ {lo : Int} {os : List Int} {sw : List (Int32 × Nat)}, xm_swt C pc lo os sw = true → xm_sw x go d sw →
    (∃ (off : Int) (t : Nat), ¬ x.toInt < lo ∧ x.toInt < lo + os.length ∧ os[(x.toInt - lo).toNat]? = some off ∧ xm_tgt C pc off t = true ∧ go t) ∨ ((x.toInt < lo ∨ lo + os.length ≤ x.toInt) ∧ go d)
  | lo, [], [], _, h => Or.inr ⟨by simp only [List.length_nil]; omega, h⟩
  | lo, o :: os, q :: qs, hc, h => by
    simp only [xm_swt, Bool.and_eq_true, beq_iff_eq] at hc
    by_cases e : x = q.1
    · left
      refine ⟨o, q.2, ?_, ?_, ?_, hc.1.2, h.1 e⟩
      · rw [e, hc.1.1]; omega
      · rw [e, hc.1.1]; simp only [List.length_cons]; omega
      · rw [e, hc.1.1, Int.sub_self]; rfl
    · have hne : x.toInt ≠ lo := fun z => e (Int32.toInt_inj.mp (z.trans hc.1.1.symm))
      rcases xm_swt_ok hc.2 (h.2 e) with ⟨off, t, h1, h2, h3, h4, h5⟩ | ⟨h1, h2⟩
      · left
        refine ⟨off, t, by omega, by simp only [List.length_cons]; omega, ?_, h4, h5⟩
        rw [show (x.toInt - lo).toNat = (x.toInt - (lo + 1)).toNat + 1 by omega, List.getElem?_cons_succ]
        exact h3
      · right
        refine ⟨?_, h2⟩
        simp only [List.length_cons]
        omega
  | _, [], _ :: _, hc, _ => by simp [xm_swt] at hc
  | _, _ :: _, [], hc, _ => by simp [xm_swt] at hc
theorem xm_swl_ok {C : List xE} {pc : Nat} {x : Int32} {go : Nat → Prop} {d : Nat} {dflt : Int} (hd : xm_tgt C pc dflt d = true) : ∀ {os : List (Int × Int)} {sw : List (Int32 × Nat)}, xm_swl C pc os sw = true → xm_sw x go d sw →
    ∃ (off : Int) (t : Nat), Op.lookupswitch.offset os dflt x.toInt = off ∧ xm_tgt C pc off t = true ∧ go t
  | [], [], _, h => ⟨dflt, d, rfl, hd, h⟩
  | (a, o) :: os, q :: qs, hc, h => by
    simp only [xm_swl, Bool.and_eq_true, beq_iff_eq] at hc
    by_cases e : x = q.1
    · refine ⟨o, q.2, ?_, hc.1.2, h.1 e⟩
      rw [e, hc.1.1]
      simp [Op.lookupswitch.offset]
    · obtain ⟨off, t, h1, h2, h3⟩ := xm_swl_ok hd hc.2 (h.2 e)
      exact ⟨off, t, by rw [lv_osw e hc.1.1]; exact h1, h2, h3⟩
  | [], _ :: _, hc, _ => by simp [xm_swl] at hc
  | _ :: _, [], hc, _ => by simp [xm_swl] at hc
section
variable {p : Program} {l : Launch} {e : Env} {R : Room} {s : State} {m : MethodId} {args : Array Value} {below : List Frame} {meth : Method} {c : Code} {H : Heap} {locs : List Loc} {cells slots : Nat} {Q : State → Prop}
variable {pc : Nat} {ls : Array Slot} {rest st0 : List Value} {A0 A1 : Nat → Prop} {H0 : Heap} {free : Addr → Prop}
theorem xm_call {Qa : State → Outcome → State → Prop} (hr : va_Run p l e R s m args below meth c H locs cells slots 0 0 (F0 m pc ls st0) rest Qa free) (hS : va_S A0 H0 H locs) (hF : ∀ st₀ o t, Qa st₀ (.returned o) t → va_F A1 st₀ t) (hA : ∀ q, q < H.size → A1 q → A0 q) (hf : ∀ q, free q → A0 q)
    (kk : ∀ (o : Option Value) (st₀ t : State) (locs1 : List Loc), st₀.heap = H → Qa st₀ (.returned o) t → va_S A0 H0 t.heap locs1 → W p l e R s m args below meth c t.heap locs1 cells slots Q (F0 m (pc + 3) ls (o.toList ++ rest))) : W p l e R s m args below meth c H locs cells slots Q (F0 m pc ls st0) := by
  intro T hT X
  obtain ⟨v, st₀, t, T', L, h0, X', hL, e1, e2, hq, st⟩ := hr T hT X
  obtain ⟨hz, hk⟩ := hF st₀ v t hq
  rw [h0] at hz hk
  obtain ⟨t2, a1, b1⟩ := kk v st₀ t (locs ++ L) h0 hq
    ⟨Nat.le_trans hS.1 hz, fun q h1 h2 => by rw [hk q (Nat.lt_of_lt_of_le h1 hS.1) (fun z => h2 (hA q (Nat.lt_of_lt_of_le h1 hS.1) z))]; exact hS.2.1 q h1 h2, fun q hq => by
      rcases List.mem_append.mp hq with h | h
      · exact hS.2.2 q h
      · exact hf _ (hL q h)⟩ T' e1 X'
  exact ⟨t2, st t2 a1, b1⟩
end
/-- what stands fast in a method's body -/
def xm_Fix (p : Program) (s : State) (m : MethodId) (args : Array Value) (meth : Method) (c : Code) (cc : ByteArray) (nL : Nat) (ret : Option FieldType) (own : String) (D : va_G) (cA : Nat → ClassId) (B : List (Nat × Cell)) (S : List xC) (ad : Nat → Nat) : Prop :=
  (p.tables.exec = Jvm.exec ∧ c.code = cc ∧ c.maxLocals = nL) ∧ (meth.sig.returnType = ret ∧ meth.locks = false) ∧ s.vm.findClass own = some m.cls ∧ (∀ w ∈ xm_tbl, w.before args s = true) ∧ va_K D vwCl (xm_tys cA) s ∧ xm_B B ad S s s.heap
theorem xm_B_kept {B : List (Nat × Cell)} {ad : Nat → Nat} {S : List xC} {U : State} {H0 H : Heap} {locs : List Loc} (h : xm_B B ad S U H0) (hS : va_S (xm_A ad S H0.size) H0 H locs) : xm_B B ad S U H := h.kept hS.1 hS.2.1
section
variable {p : Program} {l : Launch} {en : Env} {s : State} {m : MethodId} {args : Array Value} {below : List Frame} {meth : Method} {c : Code}
variable {cc : ByteArray} {nL r mc ms : Nat} {ret : Option FieldType} {own : String} {D : va_G} {cA : Nat → ClassId} {B : List (Nat × Cell)} {S : List xC} {ad : Nat → Nat}
variable {FL : List (Nat × Nat × Nat)} {IL LL : List (Nat × Int32)} {ks : List xK} {Ts : List xT} {C : List xE} {Q : Option Value → xG → Prop}
/-- what the machine makes of a place of the abstract one -/
def xm_W (p : Program) (l : Launch) (en : Env) (s : State) (m : MethodId) (args : Array Value) (below : List Frame) (meth : Method) (c : Code) (nL r mc ms : Nat) (D : va_G) (cA : Nat → ClassId) (S : List xC) (ad : Nat → Nat) (C : List xE) (Q : Option Value → xG → Prop) (is : List xE) (L st : List Value) (g : xG) : Prop :=
  ∃ (e : xE) (r' : List xE), is = e :: r' ∧ (is <:+ C → ∀ (H : Heap) (locs : List Loc) (ls : Array Slot), va_P D vwCl (xm_ws ad cA g S) H → va_D (xm_A ad S s.heap.size) (xm_ws ad cA g S) → va_S (xm_A ad S s.heap.size) s.heap H locs → xm_L ad ls nL L →
    W p l en (xm_rq r mc ms) s m args below meth c H locs mc ms (MQ below (xm_Post D cA S ad s.heap.size Q) args s mc ms (xm_A ad S s.heap.size)) (F0 m e.2.1 ls (st.map (xm_cv ad))))
theorem xm_W_next (hlin : xm_lin C = true) {e : xE} {r' : List xE} {L st : List Value} {g : xG} (hs : (e :: r') <:+ C) {n : Nat} (hn : e.2.2.1 = n) (k : xm_on (xm_W p l en s m args below meth c nL r mc ms D cA S ad C Q) r' L st g) {H : Heap} {locs : List Loc} {ls : Array Slot} (hP : va_P D vwCl (xm_ws ad cA g S) H) (hD : va_D (xm_A ad S s.heap.size) (xm_ws ad cA g S)) (hS : va_S (xm_A ad S s.heap.size) s.heap H locs) (hl : xm_L ad ls nL L) :
    W p l en (xm_rq r mc ms) s m args below meth c H locs mc ms (MQ below (xm_Post D cA S ad s.heap.size Q) args s mc ms (xm_A ad S s.heap.size)) (F0 m (e.2.1 + n) ls (st.map (xm_cv ad))) := by
  obtain ⟨e', r'', rfl, h⟩ := xm_on_imp k
  have := h ((List.suffix_cons _ _).trans hs) H locs ls hP hD hS hl
  rw [xm_lin_at hlin hs, hn] at this
  exact this
theorem xm_W_jump {a pc : Nat} {off : Int} {L st : List Value} {g : xG} (ht : xm_tgt C pc off a = true) (k : xm_on (xm_W p l en s m args below meth c nL r mc ms D cA S ad C Q) (xm_drop a C) L st g) {H : Heap} {locs : List Loc} {ls : Array Slot} (hP : va_P D vwCl (xm_ws ad cA g S) H) (hD : va_D (xm_A ad S s.heap.size) (xm_ws ad cA g S)) (hS : va_S (xm_A ad S s.heap.size) s.heap H locs) (hl : xm_L ad ls nL L) :
    ∃ tgt : Nat, (pc : Int) + off = (tgt : Int) ∧ W p l en (xm_rq r mc ms) s m args below meth c H locs mc ms (MQ below (xm_Post D cA S ad s.heap.size Q) args s mc ms (xm_A ad S s.heap.size)) (F0 m tgt ls (st.map (xm_cv ad))) := by
  obtain ⟨e', r'', he, h⟩ := xm_on_imp k
  unfold xm_tgt at ht
  rw [he] at ht
  dsimp only at ht
  refine ⟨e'.2.1, by simpa using ht, ?_⟩
  exact h (he ▸ xm_drop_suf a C) H locs ls hP hD hS hl
theorem xm_tgt_ok {a pc : Nat} {off : Int} (ht : xm_tgt C pc off a = true) : ∃ tgt : Nat, (pc : Int) + off = (tgt : Int) ∧ ∀ {L st : List Value} {g : xG} {H : Heap} {locs : List Loc} {ls : Array Slot}, xm_on (xm_W p l en s m args below meth c nL r mc ms D cA S ad C Q) (xm_drop a C) L st g → va_P D vwCl (xm_ws ad cA g S) H → va_D (xm_A ad S s.heap.size) (xm_ws ad cA g S) → va_S (xm_A ad S s.heap.size) s.heap H locs → xm_L ad ls nL L →
    W p l en (xm_rq r mc ms) s m args below meth c H locs mc ms (MQ below (xm_Post D cA S ad s.heap.size Q) args s mc ms (xm_A ad S s.heap.size)) (F0 m tgt ls (st.map (xm_cv ad))) := by
  have ht0 := ht
  unfold xm_tgt at ht
  cases hd : xm_drop a C with
  | nil => rw [hd] at ht; cases ht
  | cons e' r'' =>
    rw [hd] at ht
    refine ⟨e'.2.1, by simpa using ht, fun {L st g H locs ls} k hP hD hS hl => ?_⟩
    obtain ⟨e2, r2, he, h⟩ := xm_on_imp k
    cases he
    exact h (hd ▸ xm_drop_suf a C) H locs ls hP hD hS hl
end
theorem xm_ble2 {k : Nat} (h : (Nat.ble 1000 k && Nat.ble k 1001) = true) : ∃ i, i < 2 ∧ k = 1000 + i := by
  rw [Bool.and_eq_true] at h
  have h1 := Nat.le_of_ble_eq_true h.1
  have h2 := Nat.le_of_ble_eq_true h.2
  exact ⟨k - 1000, by omega, by omega⟩
theorem xm_ble3 {k : Nat} (h : (Nat.ble 2000 k && Nat.ble k 2001) = true) : ∃ i, i < 2 ∧ k = 2000 + i := by
  rw [Bool.and_eq_true] at h
  have h1 := Nat.le_of_ble_eq_true h.1
  have h2 := Nat.le_of_ble_eq_true h.2
  exact ⟨k - 2000, by omega, by omega⟩
theorem xm_ln_b : ∀ i : Nat, xm_ln.getD i 0 < 2 ^ 31
  | 0 => by decide
  | 1 => by decide
  | n + 2 => by show (0 : Nat) < 2 ^ 31; decide
theorem xm_FL_of {own : String} {q : Nat × Nat × Nat} {c : vw_C} (h : xm_FL own q ∨ xm_FX own q) (hc : vwCl[q.2.1]? = some c) : xm_FL own q := by
  rcases h with h | h
  · exact h
  · exfalso
    rcases h with ⟨h, -⟩ | ⟨h, -⟩ | ⟨h, -⟩ <;> (rw [h] at hc; cases hc)
