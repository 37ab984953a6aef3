-- CONCRETE WORLDS: a shape's cells at addresses ad, with array classes cA
def xm_cv (ad : Nat → Nat) (v : Value) : Value := match v with
  | .ref k => .ref (ad k)
  | w => w
def xm_fv (ad : Nat → Nat) (g : xG) (k j : Nat) (f : Nat × Nat) : Value := match f with
  | (1, t) => .ref (ad t)
  | (3, _) => .ref (ad (g.2.2 k j))
  | (4, _) => .ref (ad (g.2.2 k j))
  | _ => .int (g.1 k j)
def xm_ce (ad : Nat → Nat) (cA : Nat → ClassId) (g : xG) (k : Nat) (c : xC) : va_E := match c with
  | .inl (3, n) => .inl (cA 3, n, .inr (.inl (g.2.1 k)))
  | .inl (t, n) => .inl (cA t, n, .inl (g.1 k))
  | .inr (ci, fs) => .inr (ci, fs.mapIdx (fun j f => xm_fv ad g k j f))
def xm_ws (ad : Nat → Nat) (cA : Nat → ClassId) (g : xG) (S : List xC) : va_W := S.mapIdx (fun k c => (ad k, xm_ce ad cA g k c))
def xm_tys (cA : Nat → ClassId) : List (ClassId × FieldType) := [(cA 0, .int), (cA 1, .byte), (cA 2, .boolean), (cA 3, .long)]
theorem xm_ws_at {ad : Nat → Nat} {cA : Nat → ClassId} {g : xG} {S : List xC} {k : Nat} {c : xC} (h : S[k]? = some c) : (xm_ws ad cA g S)[k]? = some (ad k, xm_ce ad cA g k c) := by
  simp [xm_ws, List.getElem?_mapIdx, h]
theorem xm_ws_of {ad : Nat → Nat} {cA : Nat → ClassId} {g : xG} {S : List xC} {k : Nat} {q : Nat × va_E} (h : (xm_ws ad cA g S)[k]? = some q) : ∃ c, S[k]? = some c ∧ q = (ad k, xm_ce ad cA g k c) := by
  simp only [xm_ws, List.getElem?_mapIdx, Option.map_eq_some_iff] at h
  obtain ⟨c, h1, h2⟩ := h
  exact ⟨c, h1, h2.symm⟩
theorem xm_nth_or : ∀ (S : List xC) (k : Nat), S[k]? = some (xm_nth S k) ∨ xm_nth S k = .inl (9, 0)
  | [], _ => Or.inr rfl
  | _ :: _, 0 => Or.inl rfl
  | _ :: r, k + 1 => by
    rcases xm_nth_or r k with h | h
    · left; rw [List.getElem?_cons_succ, h]; rfl
    · right; exact h
theorem xm_nth_r {S : List xC} {k ci : Nat} {fs : List (Nat × Nat)} (h : xm_nth S k = .inr (ci, fs)) : S[k]? = some (.inr (ci, fs)) := by
  rcases xm_nth_or S k with q | q
  · rw [q, h]
  · rw [h] at q; cases q
theorem xm_nth_l {S : List xC} {k t n : Nat} (h : xm_nth S k = .inl (t, n)) (ht : t < 4) : S[k]? = some (.inl (t, n)) := by
  rcases xm_nth_or S k with q | q
  · rw [q, h]
  · rw [h] at q; cases q; omega
theorem xm_fld_or : ∀ (S : List (Nat × Nat)) (k : Nat), S[k]? = some (xm_fld S k) ∨ xm_fld S k = (9, 0)
  | [], _ => Or.inr rfl
  | _ :: _, 0 => Or.inl rfl
  | _ :: r, k + 1 => by
    rcases xm_fld_or r k with h | h
    · left; rw [List.getElem?_cons_succ, h]; rfl
    · right; exact h
theorem xm_fld_at {S : List (Nat × Nat)} {k a t : Nat} (h : xm_fld S k = (a, t)) (ha : a < 9) : S[k]? = some (a, t) := by
  rcases xm_fld_or S k with q | q
  · rw [q, h]
  · rw [h] at q; cases q; omega
theorem xm_ce_cong {ad : Nat → Nat} {cA : Nat → ClassId} {g g' : xG} {k : Nat} (h1 : g'.1 k = g.1 k) (h2 : g'.2.1 k = g.2.1 k) (h3 : g'.2.2 k = g.2.2 k) (c : xC) : xm_ce ad cA g' k c = xm_ce ad cA g k c := by
  have hf : ∀ j f, xm_fv ad g' k j f = xm_fv ad g k j f := by
    intro j f
    unfold xm_fv
    rw [h1, h3]
  unfold xm_ce
  simp only [h1, h2, hf]
theorem xm_ws_set {ad : Nat → Nat} {cA : Nat → ClassId} {g g' : xG} {S : List xC} {k : Nat} {c : xC} (hk : S[k]? = some c) (h1 : ∀ i, i ≠ k → g'.1 i = g.1 i) (h2 : ∀ i, i ≠ k → g'.2.1 i = g.2.1 i) (h3 : ∀ i, i ≠ k → g'.2.2 i = g.2.2 i) : (xm_ws ad cA g S).set k (ad k, xm_ce ad cA g' k c) = xm_ws ad cA g' S := by
  apply List.ext_getElem?
  intro i
  have hl : k < (xm_ws ad cA g S).length := by
    have := (List.getElem?_eq_some_iff.mp hk).1
    simpa [xm_ws] using this
  by_cases hi : i = k
  · subst hi
    rw [List.getElem?_set_self hl, xm_ws_at hk]
  · rw [List.getElem?_set_ne (Ne.symm hi)]
    simp only [xm_ws, List.getElem?_mapIdx]
    cases S[i]? with
    | none => rfl
    | some c' => simp only [Option.map_some]; rw [xm_ce_cong (h1 i hi) (h2 i hi) (h3 i hi)]
theorem xm_D_cong {ad : Nat → Nat} {cA : Nat → ClassId} {A : Nat → Prop} {g g' : xG} {S : List xC} (h : va_D A (xm_ws ad cA g S)) : va_D A (xm_ws ad cA g' S) := by
  refine ⟨fun i j p q hi hj e => ?_, fun k q hk => ?_⟩
  · obtain ⟨c, h1, rfl⟩ := xm_ws_of hi
    obtain ⟨c', h2, rfl⟩ := xm_ws_of hj
    exact h.1 i j _ _ (xm_ws_at h1) (xm_ws_at h2) e
  · obtain ⟨c, h1, rfl⟩ := xm_ws_of hk
    have := h.2 k _ (xm_ws_at (ad := ad) (cA := cA) (g := g) h1)
    exact this
-- how a write is seen
theorem xm_u2_row (f : Nat → Nat → Int32) (k j : Nat) (v : Int32) : xm_u2 f k j v k = upd (f k) j v := by
  funext b; simp [xm_u2, upd]
theorem xm_u2_off (f : Nat → Nat → Int32) (k j : Nat) (v : Int32) (i : Nat) (h : i ≠ k) : xm_u2 f k j v i = f i := by
  funext b; simp [xm_u2, h]
theorem xm_u2L_row (f : Nat → Nat → Int64) (k j : Nat) (v : Int64) : xm_u2L f k j v k = vp_updL (f k) j v := by
  funext b; simp [xm_u2L, vp_updL]
theorem xm_u2L_off (f : Nat → Nat → Int64) (k j : Nat) (v : Int64) (i : Nat) (h : i ≠ k) : xm_u2L f k j v i = f i := by
  funext b; simp [xm_u2L, h]
theorem xm_u2N_off (f : Nat → Nat → Nat) (k j : Nat) (v : Nat) (i : Nat) (h : i ≠ k) : xm_u2N f k j v i = f i := by
  funext b; simp [xm_u2N, h]
theorem xm_uA_off (f : Nat → Nat → Int32) (k : Nat) (v : Nat → Int32) (i : Nat) (h : i ≠ k) : xm_uA f k v i = f i := by
  simp [xm_uA, h]
theorem xm_uA_row (f : Nat → Nat → Int32) (k : Nat) (v : Nat → Int32) : xm_uA f k v k = v := by simp [xm_uA]
theorem xm_ce_sI {ad : Nat → Nat} {cA : Nat → ClassId} {g : xG} {k ci b : Nat} {x : Int32} {fs : List (Nat × Nat)} {f : Nat × Nat} (hf : fs[b]? = some f) (h : f.1 = 0 ∨ f.1 = 2) : xm_ce ad cA (xm_sI g k b x) k (.inr (ci, fs)) = .inr (ci, (fs.mapIdx (fun j f => xm_fv ad g k j f)).set b (.int x)) := by
  unfold xm_ce
  refine congrArg (fun z => Sum.inr (ci, z)) ?_
  apply List.ext_getElem?
  intro i
  have hl : b < (fs.mapIdx (fun j f => xm_fv ad g k j f)).length := by
    simpa using (List.getElem?_eq_some_iff.mp hf).1
  by_cases hi : i = b
  · subst hi
    rw [List.getElem?_set_self hl, List.getElem?_mapIdx, hf]
    obtain ⟨f1, f2⟩ := f
    rcases h with h | h <;> (cases h; simp [xm_fv, xm_sI, xm_u2])
  · rw [List.getElem?_set_ne (Ne.symm hi), List.getElem?_mapIdx, List.getElem?_mapIdx]
    cases fs[i]? with
    | none => rfl
    | some f' =>
      simp only [Option.map_some]
      unfold xm_fv
      simp [xm_sI, xm_u2, hi]
theorem xm_ce_sR {ad : Nat → Nat} {cA : Nat → ClassId} {g : xG} {k ci b y : Nat} {fs : List (Nat × Nat)} {t : Nat} {u : Nat} (hu : u = 3 ∨ u = 4) (hf : fs[b]? = some (u, t)) : xm_ce ad cA (xm_sR g k b y) k (.inr (ci, fs)) = .inr (ci, (fs.mapIdx (fun j f => xm_fv ad g k j f)).set b (.ref (ad y))) := by
  unfold xm_ce
  refine congrArg (fun z => Sum.inr (ci, z)) ?_
  apply List.ext_getElem?
  intro i
  have hl : b < (fs.mapIdx (fun j f => xm_fv ad g k j f)).length := by
    simpa using (List.getElem?_eq_some_iff.mp hf).1
  by_cases hi : i = b
  · subst hi
    rw [List.getElem?_set_self hl, List.getElem?_mapIdx, hf]
    rcases hu with rfl | rfl <;> simp [xm_fv, xm_sR, xm_u2N]
  · rw [List.getElem?_set_ne (Ne.symm hi), List.getElem?_mapIdx, List.getElem?_mapIdx]
    cases fs[i]? with
    | none => rfl
    | some f' =>
      simp only [Option.map_some]
      unfold xm_fv
      simp [xm_sR, xm_u2N, hi]
-- LOCALS
def xm_mk (v : Value) : Bool := match v with
  | .retAddr _ => true
  | _ => false
def xm_L (ad : Nat → Nat) (ls : Array Slot) (nL : Nat) (L : List Value) : Prop := ls.size = nL ∧ L.length = nL ∧ lv_wf ls ∧ ∀ (i : Nat) (v : Value), L[i]? = some v → xm_mk v = false → ls[i]? = some (.val (xm_cv ad v))
def xm_as (ad : Nat → Nat) (L : List Value) : List (Nat × Value) := (List.range L.length).filterMap (fun i => match L[i]? with
  | some v => if xm_mk v then none else some (i, xm_cv ad v)
  | none => none)
theorem xm_as_mem {ad : Nat → Nat} {L : List Value} {q : Nat × Value} : q ∈ xm_as ad L ↔ ∃ v, L[q.1]? = some v ∧ xm_mk v = false ∧ q.2 = xm_cv ad v := by
  unfold xm_as
  rw [List.mem_filterMap]
  constructor
  · rintro ⟨i, hi, h⟩
    cases hv : L[i]? with
    | none => rw [hv] at h; cases h
    | some v =>
      rw [hv] at h
      dsimp only at h
      cases hm : xm_mk v with
      | true => rw [hm] at h; cases h
      | false =>
        rw [hm] at h
        cases h
        exact ⟨v, hv, hm, rfl⟩
  · rintro ⟨v, h1, h2, h3⟩
    refine ⟨q.1, List.mem_range.mpr (List.getElem?_eq_some_iff.mp h1).1, ?_⟩
    rw [h1]
    dsimp only
    rw [h2, ← h3]
    rfl
theorem xm_L_has {ad : Nat → Nat} {ls : Array Slot} {nL : Nat} {L : List Value} (h : xm_L ad ls nL L) : lv_has ls nL (xm_as ad L) := by
  refine ⟨h.1, h.2.2.1, fun q hq => ?_⟩
  obtain ⟨v, h1, h2, h3⟩ := xm_as_mem.mp hq
  rw [h3]
  exact h.2.2.2 q.1 v h1 h2
theorem xm_cv_cat (ad : Nat → Nat) (v : Value) : (xm_cv ad v).category = v.category := by cases v <;> rfl
theorem xm_get_at : ∀ (L : List Value) (n : Nat) {v : Value}, xm_get L n = v → xm_mk v = false → L[n]? = some v
  | [], _, _, h, hm => by rw [← h] at hm; cases hm
  | _ :: _, 0, _, h, _ => by rw [← h]; rfl
  | _ :: r, n + 1, _, h, hm => by rw [List.getElem?_cons_succ]; exact xm_get_at r n h hm
/-- what a set local leaves -/
theorem xm_set_ok : ∀ {L : List Value} {i : Nat} {v : Value} {k : List Value → Prop}, xm_set L i v k → ∃ L', k L' ∧ i < L.length ∧ L'.length = L.length ∧ L'[i]? = some v ∧ ∀ (j : Nat) (w : Value), j ≠ i → L'[j]? = some w → xm_mk w = false → L[j]? = some w ∧ ¬ (j + 1 = i ∧ w.category = 2)
  | [], _, _, _, h => by simp only [xm_set] at h
  | a :: r, 0, v, k, h => by
    simp only [xm_set] at h
    refine ⟨v :: r, h, by simp, by simp, rfl, fun j w hj hw _ => ?_⟩
    cases j with
    | zero => exact absurd rfl hj
    | succ j => exact ⟨hw, fun q => by omega⟩
  | w0 :: r, 1, v, k, h => by
    cases w0
    case long x =>
      simp only [xm_set] at h
      obtain ⟨L', h1, h2, h3, h4, h5⟩ := xm_set_ok h
      refine ⟨_, h1, by simp; omega, by simp [h3], by rw [List.getElem?_cons_succ]; exact h4, fun j w hj hw hm => ?_⟩
      cases j with
      | zero => cases hw; cases hm
      | succ j =>
        rw [List.getElem?_cons_succ] at hw ⊢
        exact ⟨(h5 j w (by omega) hw hm).1, fun q => by omega⟩
    case double x =>
      simp only [xm_set] at h
      obtain ⟨L', h1, h2, h3, h4, h5⟩ := xm_set_ok h
      refine ⟨_, h1, by simp; omega, by simp [h3], by rw [List.getElem?_cons_succ]; exact h4, fun j w hj hw hm => ?_⟩
      cases j with
      | zero => cases hw; cases hm
      | succ j =>
        rw [List.getElem?_cons_succ] at hw ⊢
        exact ⟨(h5 j w (by omega) hw hm).1, fun q => by omega⟩
    all_goals
      simp only [xm_set] at h
      obtain ⟨L', h1, h2, h3, h4, h5⟩ := xm_set_ok h
      refine ⟨_, h1, by simp; omega, by simp [h3], by rw [List.getElem?_cons_succ]; exact h4, fun j w hj hw hm => ?_⟩
      cases j with
      | zero =>
        refine ⟨hw, fun q => ?_⟩
        cases hw
        have := q.2
        simp_all [Value.category, xm_mk]
      | succ j =>
        rw [List.getElem?_cons_succ] at hw ⊢
        exact ⟨(h5 j w (by omega) hw hm).1, fun q => by omega⟩
  | w0 :: r, i + 2, v, k, h => by
    simp only [xm_set] at h
    obtain ⟨L', h1, h2, h3, h4, h5⟩ := xm_set_ok h
    refine ⟨_, h1, by simp; omega, by simp [h3], by rw [List.getElem?_cons_succ]; exact h4, fun j w hj hw hm => ?_⟩
    cases j with
    | zero => exact ⟨hw, fun q => by omega⟩
    | succ j =>
      rw [List.getElem?_cons_succ] at hw ⊢
      have := h5 j w (by omega) hw hm
      exact ⟨this.1, fun q => this.2 ⟨by omega, q.2⟩⟩
/-- a value of one slot stored -/
theorem xm_L_store {ad : Nat → Nat} {ls ls' : Array Slot} {nL i : Nat} {L L' : List Value} {v : Value} (h : xm_L ad ls nL L) (hl : L'.length = L.length) (hi : L'[i]? = some v) (hj : ∀ (j : Nat) (w : Value), j ≠ i → L'[j]? = some w → xm_mk w = false → L[j]? = some w ∧ ¬ (j + 1 = i ∧ w.category = 2))
    (h' : lv_has ls' nL ((i, xm_cv ad v) :: (xm_as ad L).filter (fun q => !(q.1 == i) && !(q.1 + 1 == i && q.2.category == 2)))) : xm_L ad ls' nL L' := by
  refine ⟨h'.1, hl.trans h.2.1, h'.2.1, fun j w hw hm => ?_⟩
  by_cases e : j = i
  · subst e
    rw [hi] at hw
    cases hw
    exact h'.2.2 (j, xm_cv ad v) List.mem_cons_self
  · obtain ⟨h1, h2⟩ := hj j w e hw hm
    refine h'.2.2 (j, xm_cv ad w) (List.mem_cons_of_mem _ (List.mem_filter.mpr ⟨xm_as_mem.mpr ⟨w, h1, hm, rfl⟩, ?_⟩))
    simp only [xm_cv_cat, Bool.and_eq_true, Bool.not_eq_true', beq_eq_false_iff_ne, ne_eq, Bool.and_eq_false_iff]
    refine ⟨e, ?_⟩
    by_cases q : j + 1 = i
    · right; exact fun z => h2 ⟨q, z⟩
    · left; exact q
theorem xm_L_store2 {ad : Nat → Nat} {ls ls' : Array Slot} {nL i : Nat} {L L' : List Value} {x : Int64} (h : xm_L ad ls nL L) (hl : L'.length = L.length) (hi : L'[i]? = some (.long x)) (hj : ∀ (j : Nat) (w : Value), j ≠ i → L'[j]? = some w → xm_mk w = false → j ≠ i + 1 ∧ L[j]? = some w ∧ ¬ (j + 1 = i ∧ w.category = 2))
    (h' : lv_has ls' nL ((i, .long x) :: (xm_as ad L).filter (fun q => !(q.1 == i) && (!(q.1 == i + 1) && !(q.1 + 1 == i && q.2.category == 2))))) : xm_L ad ls' nL L' := by
  refine ⟨h'.1, hl.trans h.2.1, h'.2.1, fun j w hw hm => ?_⟩
  by_cases e : j = i
  · subst e
    rw [hi] at hw
    cases hw
    exact h'.2.2 (j, .long x) List.mem_cons_self
  · obtain ⟨h0, h1, h2⟩ := hj j w e hw hm
    refine h'.2.2 (j, xm_cv ad w) (List.mem_cons_of_mem _ (List.mem_filter.mpr ⟨xm_as_mem.mpr ⟨w, h1, hm, rfl⟩, ?_⟩))
    simp only [xm_cv_cat, Bool.and_eq_true, Bool.not_eq_true', beq_eq_false_iff_ne, ne_eq, Bool.and_eq_false_iff]
    refine ⟨e, h0, ?_⟩
    by_cases q : j + 1 = i
    · right; exact fun z => h2 ⟨q, z⟩
    · left; exact q
theorem xm_pop_ok : ∀ {n : Nat} {st acc : List Value} {k : List Value → List Value → Prop}, xm_pop n st acc k → ∃ av rest, k (av ++ acc) rest ∧ st = av.reverse ++ rest ∧ av.length = n
  | 0, st, acc, k, h => by
    simp only [xm_pop] at h
    exact ⟨[], st, h, by simp, rfl⟩
  | _ + 1, [], _, _, h => by simp only [xm_pop] at h
  | n + 1, v :: st, acc, k, h => by
    simp only [xm_pop] at h
    obtain ⟨av, rest, h1, h2, h3⟩ := xm_pop_ok h
    refine ⟨av ++ [v], rest, by simpa using h1, by simp [h2], by simp [h3]⟩
theorem xm_pop_ok0 {n : Nat} {st : List Value} {k : List Value → List Value → Prop} (h : xm_pop n st [] k) : ∃ av rest, k av rest ∧ st = av.reverse ++ rest ∧ av.length = n := by
  obtain ⟨av, rest, h1, h2, h3⟩ := xm_pop_ok h
  rw [List.append_nil] at h1
  exact ⟨av, rest, h1, h2, h3⟩
theorem xm_cat_sum (ad : Nat → Nat) : ∀ st : List Value, ((st.map (xm_cv ad)).map fun v => v.category).sum = xm_cat st
  | [] => rfl
  | v :: r => by
    have ih := xm_cat_sum ad r
    simp only [List.map_cons, List.sum_cons, xm_cat, ih, xm_cv_cat]
    cases v <;> simp [Value.category] <;> omega
-- THE ENTRY
def xm_slots : List Value → List Value
  | [] => []
  | v :: r => match v with
    | .long x => .long x :: .retAddr 0 :: xm_slots r
    | .double x => .double x :: .retAddr 0 :: xm_slots r
    | w => w :: xm_slots r
def xm_pad : Nat → List Value → List Value
  | 0, _ => []
  | n + 1, [] => .retAddr 0 :: xm_pad n []
  | n + 1, v :: r => v :: xm_pad n r
theorem xm_pad_len : ∀ (n : Nat) (l : List Value), (xm_pad n l).length = n
  | 0, _ => rfl
  | n + 1, [] => by simp [xm_pad, xm_pad_len n []]
  | n + 1, v :: r => by simp [xm_pad, xm_pad_len n r]
theorem xm_pad_at : ∀ (n : Nat) (l : List Value) (i : Nat) (v : Value), (xm_pad n l)[i]? = some v → xm_mk v = false → l[i]? = some v
  | 0, _, _, _, h, _ => by simp [xm_pad] at h
  | n + 1, [], i, v, h, hm => by
    cases i with
    | zero => simp only [xm_pad, List.getElem?_cons_zero] at h; cases h; cases hm
    | succ i =>
      simp only [xm_pad, List.getElem?_cons_succ] at h
      have := xm_pad_at n [] i v h hm
      simp at this
  | n + 1, w :: r, i, v, h, hm => by
    cases i with
    | zero => simpa [xm_pad] using h
    | succ i =>
      simp only [xm_pad, List.getElem?_cons_succ] at h ⊢
      exact xm_pad_at n r i v h hm
theorem xm_slots_args (ad : Nat → Nat) : ∀ (av : List Value) (k i : Nat) (v : Value), (xm_slots av)[i]? = some v → xm_mk v = false → (k + i, xm_cv ad v) ∈ lv_args k (av.map (xm_cv ad))
  | [], _, _, _, h, _ => by simp [xm_slots] at h
  | a :: r, k, i, v, h, hm => by
    simp only [List.map_cons, lv_args, xm_cv_cat]
    cases a
    case long x =>
      simp only [xm_slots] at h
      match i, h with
      | 0, h => simp only [List.getElem?_cons_zero, Option.some.injEq] at h; subst h; simp [xm_cv]
      | 1, h => simp only [List.getElem?_cons_succ, List.getElem?_cons_zero, Option.some.injEq] at h; subst h; cases hm
      | i + 2, h =>
        simp only [List.getElem?_cons_succ] at h
        have := xm_slots_args ad r (k + 2) i v h hm
        refine List.mem_cons_of_mem _ ?_
        rw [show k + (i + 2) = k + 2 + i by omega]
        simpa [Value.category] using this
    case double x =>
      simp only [xm_slots] at h
      match i, h with
      | 0, h => simp only [List.getElem?_cons_zero, Option.some.injEq] at h; subst h; simp [xm_cv]
      | 1, h => simp only [List.getElem?_cons_succ, List.getElem?_cons_zero, Option.some.injEq] at h; subst h; cases hm
      | i + 2, h =>
        simp only [List.getElem?_cons_succ] at h
        have := xm_slots_args ad r (k + 2) i v h hm
        refine List.mem_cons_of_mem _ ?_
        rw [show k + (i + 2) = k + 2 + i by omega]
        simpa [Value.category] using this
    all_goals
      simp only [xm_slots] at h
      match i, h with
      | 0, h => simp only [List.getElem?_cons_zero, Option.some.injEq] at h; subst h; simp [xm_cv]
      | i + 1, h =>
        simp only [List.getElem?_cons_succ] at h
        have := xm_slots_args ad r (k + 1) i v h hm
        refine List.mem_cons_of_mem _ ?_
        rw [show k + (i + 1) = k + 1 + i by omega]
        simpa [Value.category] using this
theorem xm_entry (ad : Nat → Nat) (av : List Value) {n : Nat} (h : (lg_sl (av.map (xm_cv ad))).length ≤ n) : xm_L ad ((lg_sl (av.map (xm_cv ad)) ++ List.replicate (n - (lg_sl (av.map (xm_cv ad))).length) Slot.unset).toArray) n (xm_pad n (xm_slots av)) := by
  have hl := lv_entry (av.map (xm_cv ad)) h
  refine ⟨hl.1, xm_pad_len _ _, hl.2.1, fun i v hv hm => ?_⟩
  have := xm_slots_args ad av 0 i v (xm_pad_at _ _ _ _ hv hm) hm
  rw [Nat.zero_add] at this
  exact hl.2.2 _ this
