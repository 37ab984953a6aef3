-- THE CLASS'S LAWS: code that is laid, and what it tells
def pNu (e : vX) : Prop := ∀ q, q ∈ e → q.1 = 0 → q.2 < 10000
theorem pRel_nu (s : Nat) : ∀ w : List Nat, ∀ q, q ∈ (pRel s w).1 → ¬ q.1 = 0
  | [], q, hq => by cases hq
  | x :: r, q, hq => by
    unfold pRel at hq
    by_cases c : s ≤ pStr x
    · rw [if_pos c] at hq
      rcases List.mem_cons.mp hq with rfl | hq
      · have := pOp_in x
        dsimp only
        omega
      · exact pRel_nu s r q hq
    · rw [if_neg c] at hq; cases hq
theorem pE_nu {k : vTk} (hk : ∀ i, k.1 i = 3 → k.2.2.1 i < 10000) : ∀ (f a o : Nat) (w : List Nat) (e : vX) (b : Bool), pNu e → ∀ a' e', pE k f a o w e b = .inr (a', e') → pNu e'
  | 0, a, o, w, e, b, _, a', e', h => by cases b <;> cases h
  | f + 1, a, o, w, e, true, he, a', e', h => by
    unfold pE at h
    by_cases c1 : k.1 a = 40
    · rw [if_pos c1] at h
      by_cases c2 : 6 ≤ o
      · rw [if_pos c2] at h; cases h
      · rw [if_neg c2] at h
        by_cases c3 : 400 ≤ a
        · rw [if_pos c3] at h; cases h
        · rw [if_neg c3] at h
          exact pE_nu hk f _ _ _ e true he a' e' h
    · rw [if_neg c1] at h
      by_cases c2 : pUn k a = true
      · rw [if_pos c2] at h
        by_cases c3 : 400 ≤ a
        · rw [if_pos c3] at h; cases h
        · rw [if_neg c3] at h
          refine pE_nu hk f _ _ _ _ false (fun q hq h0 => ?_) a' e' h
          rcases List.mem_append.mp hq with hq | hq
          · exact he q hq h0
          · rw [List.mem_singleton] at hq
            subst hq
            unfold pU at h0 ⊢
            by_cases c4 : k.1 a = 3
            · rw [if_pos c4]; exact hk a c4
            · rw [if_neg c4] at h0; cases h0
      · rw [if_neg c2] at h; cases h
  | f + 1, a, o, w, e, false, he, a', e', h => by
    have ap : ∀ s, pNu (e ++ (pRel s w).1) := fun s q hq h0 => by
      rcases List.mem_append.mp hq with hq | hq
      · exact he q hq h0
      · exact absurd h0 (pRel_nu s w q hq)
    unfold pE at h
    by_cases c1 : k.1 a = 41 ∧ 0 < o
    · rw [if_pos c1] at h
      by_cases c3 : 400 ≤ a
      · rw [if_pos c3] at h; cases h
      · rw [if_neg c3] at h
        exact pE_nu hk f _ _ _ _ false (ap 1) a' e' h
    · rw [if_neg c1] at h
      by_cases c2 : 0 < pStr (k.1 a)
      · rw [if_pos c2] at h
        by_cases c3 : 400 ≤ a
        · rw [if_pos c3] at h; cases h
        · rw [if_neg c3] at h
          exact pE_nu hk f _ _ _ _ true (ap _) a' e' h
      · rw [if_neg c2] at h
        by_cases c4 : 0 < o
        · rw [if_pos c4] at h; cases h
        · rw [if_neg c4] at h
          cases h
          exact ap 1
theorem pEx_nu {k : vTk} (hk : ∀ i, k.1 i = 3 → k.2.2.1 i < 10000) {a a' : Nat} {e : vX} (h : pEx k a = .inr (a', e)) : pNu e := pE_nu hk _ _ _ _ _ _ (fun q hq => by cases hq) a' e h
-- a term's code
def xCc (code : Nat → Int32) (z : Nat) (e : vX) : Prop := ∀ i q, e[i]? = some q → code (z + i) = xEn q
theorem xCc.tl {code : Nat → Int32} {z : Nat} {q : Nat × Nat} {e : vX} (h : xCc code z (q :: e)) : code z = xEn q ∧ xCc code (z + 1) e := by
  refine ⟨h 0 q rfl, fun i p hp => ?_⟩
  have := h (i + 1) p hp
  rw [show z + (i + 1) = z + 1 + i by omega] at this
  exact this
theorem xEn_n : ∀ v, v < 10000 → -11 < nI v ∧ 0 ≤ nI v := fun v hv => ⟨Int32.lt_of_lt_of_le (by decide) (nI_pos' (n := v) (by omega)), nI_pos' (by omega)⟩
theorem xEn_v : ∀ v, v < 9 → -11 < -1 - nI v ∧ ¬ 0 ≤ -1 - nI v ∧ (-1 - (-1 - nI v)).toNatClampNeg = v := by decide +kernel
theorem xEn_o : ∀ k, k < 6 → 2 ≤ k → ¬ -11 < -9 - nI k ∧ ¬ -9 - nI k = -15 ∧ ¬ -9 - nI k = -16 ∧ (-9 - nI k = -14 ↔ k = 5) ∧ (-9 - nI k = -13 ↔ k = 4) ∧ (-9 - nI k = -12 ↔ k = 3) ∧ (-9 - nI k = -11 ↔ k = 2) := by decide +kernel
theorem xEv_s (code : Nat → Int32) (size : Nat) (vars : Nat → Int32) (f : Nat) (a : Int32) (stk : List Int32) : xEv code size vars (f + 1) a stk = if 0 ≤ a ∧ a < nI size then
      (if -11 < code a.toNatClampNeg then (if 32 ≤ stk.length then 0 else xEv code size vars f (a + 1) ((if 0 ≤ code a.toNatClampNeg then code a.toNatClampNeg else vars (-1 - code a.toNatClampNeg).toNatClampNeg) :: stk))
       else if code a.toNatClampNeg = -15 then (match stk with | x :: _ => x | [] => 0)
       else match stk with
        | y :: x :: r => if a + 1 < nI size then
            (if code a.toNatClampNeg = -16 then xEv code size vars f (if x < y then a + 1 + 1 else code (a + 1).toNatClampNeg) r
             else if code a.toNatClampNeg = -14 ∧ y = 0 then 0
             else xEv code size vars f (a + 1) ((if code a.toNatClampNeg = -13 then x * y else if code a.toNatClampNeg = -12 then x - y else if code a.toNatClampNeg = -11 then x + y else if y = 0 then 0 else x / y) :: r)) else 0
        | _ => 0)
    else 0 := rfl
theorem xEv_e {code : Nat → Int32} {size : Nat} {vars : Nat → Int32} (hs : size ≤ 408) : ∀ (e : vX) (z F : Nat) (stk : List Int32) (h : Nat), xCc code z e → z + e.length < size → e.length ≤ F → vDr 16 e stk.length h → pNu e → (vE vars e stk = none → xEv code size vars F (nI z) stk = 0) ∧ ∀ st', vE vars e stk = some st' → st'.length = h ∧ xEv code size vars F (nI z) stk = xEv code size vars (F - e.length) (nI (z + e.length)) st'
  | [], z, F, stk, h, _, _, _, hd, _ => ⟨(fun q => by cases q), fun st' q => by cases q; exact ⟨hd, rfl⟩⟩
  | q :: r, z, 0, stk, h, _, _, hF, _, _ => by simp only [List.length_cons] at hF; omega
  | q :: r, z, F + 1, stk, h, hc, hz, hF, hd, hn => by
    obtain ⟨c0, c1⟩ := hc.tl
    simp only [List.length_cons] at hz hF
    have zi : 0 ≤ nI z ∧ nI z < nI size := ⟨nI_pos' (by omega), nI_lt (by omega) (by omega)⟩
    have cl : (nI z).toNatClampNeg = z := nI_clamp (by omega)
    have hn' : pNu r := fun p hp => hn p (List.mem_cons_of_mem _ hp)
    have e1 : nI z + 1 = nI (z + 1) := nI_1 z
    have ln : F + 1 - (q :: r).length = F - r.length := by simp only [List.length_cons]; omega
    have lz : z + (q :: r).length = z + 1 + r.length := by simp only [List.length_cons]; omega
    rw [xEv_s, if_pos zi, cl, c0, ln, lz, e1]
    unfold vDr at hd
    unfold vE
    by_cases q0 : q.1 = 0
    · rw [if_pos (by omega)] at hd
      obtain ⟨d1, d2, d3⟩ := hd
      have en : xEn q = nI q.2 := by unfold xEn; rw [if_pos q0]
      obtain ⟨n1, n2⟩ := xEn_n q.2 (hn q (List.mem_cons_self ..) q0)
      rw [if_pos q0, en, if_pos n1, if_neg (by omega), if_pos n2]
      exact xEv_e hs r (z + 1) F (nI q.2 :: stk) h c1 (by omega) (by omega) d3 hn'
    · by_cases q1 : q.1 = 1
      · rw [if_pos (by omega)] at hd
        obtain ⟨d1, d2, d3⟩ := hd
        have en : xEn q = -1 - nI q.2 := by unfold xEn; rw [if_neg q0, if_pos q1]
        obtain ⟨n1, n2, n3⟩ := xEn_v q.2 (d1 q1)
        rw [if_neg q0, if_pos q1, en, if_pos n1, if_neg (by omega), if_neg n2, n3]
        exact xEv_e hs r (z + 1) F (vars q.2 :: stk) h c1 (by omega) (by omega) d3 hn'
      · rw [if_neg (by omega)] at hd
        obtain ⟨d1, d2, d3⟩ := hd
        have en : xEn q = -9 - nI q.1 := by unfold xEn; rw [if_neg q0, if_neg q1]
        obtain ⟨n1, n2, n3, n4, n5, n6, n7⟩ := xEn_o q.1 d1 (by omega)
        rw [if_neg q0, if_neg q1, en, if_neg n1, if_neg n2]
        match stk, d2, d3 with
        | [], d2, _ => simp at d2
        | [_], d2, _ => simp at d2
        | y :: x :: s, d2, d3 =>
          dsimp only
          rw [if_pos (nI_lt (by omega) (by omega)), if_neg n3]
          by_cases dv : q.1 = 5 ∧ y = 0
          · rw [if_pos dv, if_pos ⟨n4.mpr dv.1, dv.2⟩]
            exact ⟨fun _ => rfl, fun st' w => by cases w⟩
          · rw [if_neg dv, if_neg (fun w => dv ⟨n4.mp w.1, w.2⟩)]
            have ev : (if -9 - nI q.1 = -13 then x * y else if -9 - nI q.1 = -12 then x - y else if -9 - nI q.1 = -11 then x + y else if y = 0 then 0 else x / y) = vOp q.1 x y := by
              unfold vOp
              by_cases o4 : q.1 = 4
              · rw [if_pos (n5.mpr o4), if_neg (by omega), if_neg (by omega), if_pos o4]
              · rw [if_neg (fun w => o4 (n5.mp w))]
                by_cases o3 : q.1 = 3
                · rw [if_pos (n6.mpr o3), if_neg (by omega), if_pos o3]
                · rw [if_neg (fun w => o3 (n6.mp w))]
                  by_cases o2 : q.1 = 2
                  · rw [if_pos (n7.mpr o2), if_pos o2]
                  · rw [if_neg (fun w => o2 (n7.mp w)), if_neg (fun w => dv ⟨by omega, w⟩), if_neg o2, if_neg o3, if_neg o4]
            rw [ev]
            exact xEv_e hs r (z + 1) F (vOp q.1 x y :: s) h c1 (by omega) (by omega) d3 hn'
theorem vDp_r {b : Nat} : ∀ {e : vX} {d : Nat}, vDp b e d → vDr b e d 1
  | [], _, h => h
  | q :: r, d, h => by
    unfold vDp at h
    unfold vDr
    split
    · rename_i z; rw [if_pos z] at h; exact ⟨h.1, h.2.1, vDp_r h.2.2⟩
    · rename_i z; rw [if_neg z] at h; exact ⟨h.1, h.2.1, vDp_r h.2.2⟩
theorem vDr_up {b : Nat} : ∀ {e : vX} {d h : Nat}, vDr b e d h → vDr (b + 1) e (d + 1) (h + 1) ∧ vDr (b + 1) e d h
  | [], _, _, w => by
    have w : _ = _ := w
    exact ⟨by show _ + 1 = _ + 1; rw [w], w⟩
  | q :: r, d, h, w => by
    unfold vDr at w ⊢
    split
    · rename_i z
      rw [if_pos z] at w
      have := vDr_up w.2.2
      exact ⟨⟨w.1, by omega, this.1⟩, w.1, by omega, this.2⟩
    · rename_i z
      rw [if_neg z] at w
      have := vDr_up w.2.2
      refine ⟨⟨w.1, by omega, ?_⟩, w.1, w.2.1, this.2⟩
      rw [show d + 1 - 1 = d - 1 + 1 by omega]; exact this.1
theorem vE_app (vars : Nat → Int32) (rr : List Int32) {b : Nat} : ∀ (e : vX) (st : List Int32) (h : Nat), vDr b e st.length h → vE vars e (st ++ rr) = (vE vars e st).map (· ++ rr)
  | [], _, _, _ => rfl
  | q :: r, st, h, hd => by
    unfold vDr at hd
    unfold vE
    by_cases q0 : q.1 = 0
    · rw [if_pos (by omega)] at hd
      rw [if_pos q0, if_pos q0]
      exact vE_app vars rr r (nI q.2 :: st) h hd.2.2
    · by_cases q1 : q.1 = 1
      · rw [if_pos (by omega)] at hd
        rw [if_neg q0, if_neg q0, if_pos q1, if_pos q1]
        exact vE_app vars rr r (vars q.2 :: st) h hd.2.2
      · rw [if_neg (by omega)] at hd
        rw [if_neg q0, if_neg q0, if_neg q1, if_neg q1]
        match st, hd with
        | [], hd => have := hd.2.1; simp at this
        | [_], hd => have := hd.2.1; simp at this
        | y :: x :: s, hd =>
          dsimp only [List.cons_append]
          by_cases dv : q.1 = 5 ∧ y = 0
          · rw [if_pos dv, if_pos dv]; rfl
          · rw [if_neg dv, if_neg dv]
            exact vE_app vars rr r (vOp q.1 x y :: s) h hd.2.2
/-- a term alone: one number, or none -/
theorem xEv_1 {code : Nat → Int32} {size : Nat} {vars : Nat → Int32} (hs : size ≤ 408) {e : vX} {z F : Nat} {stk : List Int32} (hc : xCc code z e) (hz : z + e.length < size) (hF : e.length ≤ F) (hd : vDp 15 e 0) (hn : pNu e) (hl : stk.length ≤ 1) : (vEt vars e = none ∧ xEv code size vars F (nI z) stk = 0) ∨ ∃ x, vEt vars e = some x ∧ xEv code size vars F (nI z) stk = xEv code size vars (F - e.length) (nI (z + e.length)) (x :: stk) := by
  have d0 := vDp_r hd
  have dd : vDr 16 e stk.length (stk.length + 1) := by
    have := vDr_up d0
    match stk, hl with
    | [], _ => exact this.2
    | [_], _ => exact this.1
    | _ :: _ :: _, hl => simp at hl
  have ap := vE_app vars stk e [] 1 d0
  rw [List.nil_append] at ap
  have s0 := xEv_e (code := code) (vars := vars) hs e z F stk (stk.length + 1) hc hz hF dd hn
  have s1 := xEv_e (code := code) (vars := vars) hs e z F [] 1 hc hz hF (vDr_up d0).2 hn
  unfold vEt
  cases hv : vE vars e [] with
  | none =>
    rw [hv] at ap
    exact Or.inl ⟨rfl, s0.1 ap⟩
  | some st =>
    rw [hv] at ap
    have l1 := (s1.2 st hv).1
    match st, l1 with
    | [], l1 => simp at l1
    | [x], _ => exact Or.inr ⟨x, rfl, (s0.2 _ ap).2⟩
    | _ :: _ :: _, l1 => simp at l1
-- branches
def xBn (q : vX × vX × vX) : Nat := q.1.length + q.2.1.length + q.2.2.length + 3
def xB1 (code : Nat → Int32) (z : Nat) (q : vX × vX × vX) : Prop := xCc code z q.1 ∧ xCc code (z + q.1.length) q.2.1 ∧ code (z + q.1.length + q.2.1.length) = -16 ∧ code (z + q.1.length + q.2.1.length + 1) = nI (z + xBn q) ∧ xCc code (z + q.1.length + q.2.1.length + 2) q.2.2 ∧ code (z + q.1.length + q.2.1.length + 2 + q.2.2.length) = -15
def xLb (code : Nat → Int32) : Nat → List (vX × vX × vX) → Nat → Prop
  | z, [], m => z = m
  | z, q :: r, m => xB1 code z q ∧ xLb code (z + xBn q) r m
theorem xLb_le {code : Nat → Int32} : ∀ {bs : List (vX × vX × vX)} {z m : Nat}, xLb code z bs m → z ≤ m
  | [], _, _, h => Nat.le_of_eq h
  | _ :: _, _, _, h => by have := xLb_le h.2; omega
theorem xLb_app {code : Nat → Int32} {q : vX × vX × vX} : ∀ {bs : List (vX × vX × vX)} {z m : Nat}, xLb code z bs m → xB1 code m q → xLb code z (bs ++ [q]) (m + xBn q)
  | [], z, m, h, hq => by
    have h : z = m := h
    subst h
    exact ⟨hq, rfl⟩
  | _ :: _, _, _, h, hq => ⟨h.1, xLb_app h.2 hq⟩
theorem xCc.k {code code' : Nat → Int32} {z m : Nat} {e : vX} (h : xCc code z e) (hl : z + e.length ≤ m) (hk : ∀ j, j < m → code' j = code j) : xCc code' z e := fun i q hq => by
  have := (List.getElem?_eq_some_iff.mp hq).1
  rw [hk (z + i) (by omega)]; exact h i q hq
theorem xB1.k {code code' : Nat → Int32} {z m : Nat} {q : vX × vX × vX} (h : xB1 code z q) (hl : z + xBn q ≤ m) (hk : ∀ j, j < m → code' j = code j) : xB1 code' z q := by
  obtain ⟨h1, h2, h3, h4, h5, h6⟩ := h
  unfold xBn at hl
  exact ⟨h1.k (by omega) hk, h2.k (by omega) hk, by rw [hk _ (by omega)]; exact h3, by rw [hk _ (by omega)]; exact h4, h5.k (by omega) hk, by rw [hk _ (by omega)]; exact h6⟩
theorem xLb.k {code code' : Nat → Int32} {m' : Nat} : ∀ {bs : List (vX × vX × vX)} {z m : Nat}, xLb code z bs m → m ≤ m' → (∀ j, j < m' → code' j = code j) → xLb code' z bs m
  | [], _, _, h, _, _ => h
  | _ :: _, _, _, h, hm, hk => ⟨h.1.k (Nat.le_trans (xLb_le h.2) hm) hk, xLb.k h.2 hm hk⟩
def xLw (code : Nat → Int32) (size z : Nat) (bs : List (vX × vX × vX)) (e : vX) : Prop := ∃ m, xLb code z bs m ∧ xCc code m e ∧ code (m + e.length) = -15 ∧ m + e.length + 1 ≤ size
theorem xLw.k {code code' : Nat → Int32} {size size' z : Nat} {bs : List (vX × vX × vX)} {e : vX} (h : xLw code size z bs e) (hs : size ≤ size') (hk : ∀ j, j < size → code' j = code j) : xLw code' size' z bs e := by
  obtain ⟨m, h1, h2, h3, h4⟩ := h
  exact ⟨m, h1.k (by omega) hk, h2.k (by omega) hk, by rw [hk _ (by omega)]; exact h3, by omega⟩
theorem xEv_15 {code : Nat → Int32} {size : Nat} {vars : Nat → Int32} {z F : Nat} {x : Int32} {stk : List Int32} (hs : size ≤ 408) (hz : z < size) (hc : code z = -15) (hF : 0 < F) : xEv code size vars F (nI z) (x :: stk) = x := by
  obtain ⟨f, rfl⟩ : ∃ f, F = f + 1 := ⟨F - 1, by omega⟩
  rw [xEv_s, if_pos ⟨nI_pos' (by omega), nI_lt hz (by omega)⟩, nI_clamp (by omega), hc, if_neg (by decide), if_pos rfl]
theorem xEv_16 {code : Nat → Int32} {size : Nat} {vars : Nat → Int32} {z F n : Nat} {x y : Int32} {stk : List Int32} (hs : size ≤ 408) (hz : z + 1 < size) (hc : code z = -16) (hc2 : code (z + 1) = nI n) (hF : 0 < F) : xEv code size vars F (nI z) (y :: x :: stk) = xEv code size vars (F - 1) (if x < y then nI (z + 2) else nI n) stk := by
  obtain ⟨f, rfl⟩ : ∃ f, F = f + 1 := ⟨F - 1, by omega⟩
  rw [xEv_s]
  rw [if_pos ⟨nI_pos' (by omega), nI_lt (by omega) (by omega)⟩, nI_clamp (by omega), hc, if_neg (by decide), if_neg (by decide)]
  dsimp only
  rw [nI_1, if_pos (nI_lt hz (by omega)), if_pos rfl, nI_1, nI_clamp (by omega), hc2]
  rfl
theorem xEv_law {code : Nat → Int32} {size : Nat} {vars : Nat → Int32} (hs : size ≤ 408) {e : vX} {m : Nat} (he : xCc code m e) (h15 : code (m + e.length) = -15) (hm : m + e.length + 1 ≤ size) (hde : vDp 15 e 0) (hne : pNu e) : ∀ (bs : List (vX × vX × vX)) (z F : Nat), xLb code z bs m → m + e.length + 1 ≤ z + F → (∀ q, q ∈ bs → (vDp 15 q.1 0 ∧ vDp 15 q.2.1 0 ∧ vDp 15 q.2.2 0) ∧ pNu q.1 ∧ pNu q.2.1 ∧ pNu q.2.2) → xEv code size vars F (nI z) [] = vLw bs e vars
  | [], z, F, h, hF, _ => by
    have h : z = m := h
    subst h
    unfold vLw
    rcases xEv_1 (vars := vars) (F := F) hs he (by omega) (by omega) hde hne (stk := []) (by simp) with ⟨h1, h2⟩ | ⟨x, h1, h2⟩
    · rw [h1, h2]; rfl
    · rw [h1, h2, xEv_15 hs (by omega) h15 (by omega)]; rfl
  | q :: r, z, F, h, hF, hq => by
    obtain ⟨⟨b1, b2, b3, b4, b5, b6⟩, hr⟩ := h
    obtain ⟨⟨d1, d2, d3⟩, n1, n2, n3⟩ := hq q (List.mem_cons_self ..)
    have lr := xLb_le hr
    have bn : xBn q = q.1.length + q.2.1.length + q.2.2.length + 3 := rfl
    unfold vLw
    rcases xEv_1 (vars := vars) (F := F) hs b1 (by omega) (by omega) d1 n1 (stk := []) (by simp) with ⟨h1, h2⟩ | ⟨x, h1, h2⟩
    · rw [h1, h2]
    · rw [h1, h2]
      rcases xEv_1 (vars := vars) (F := F - q.1.length) hs b2 (by omega) (by omega) d2 n2 (stk := [x]) (by simp) with ⟨h3, h4⟩ | ⟨y, h3, h4⟩
      · rw [h3, h4]
      · rw [h3, h4, xEv_16 hs (by omega) b3 b4 (by omega)]
        dsimp only
        by_cases c : x < y
        · rw [if_pos c, if_pos c]
          rcases xEv_1 (vars := vars) (F := F - q.1.length - q.2.1.length - 1) hs b5 (by omega) (by omega) d3 n3 (stk := []) (by simp) with ⟨h5, h6⟩ | ⟨w, h5, h6⟩
          · rw [h5, h6]; rfl
          · rw [h5, h6, xEv_15 hs (by omega) b6 (by omega)]; rfl
        · rw [if_neg c, if_neg c]
          exact xEv_law hs he h15 hm hde hne r (z + xBn q) _ hr (by omega) (fun p hp => hq p (List.mem_cons_of_mem _ hp))
