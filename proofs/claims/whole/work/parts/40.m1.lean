-- THE REFERENCE. Laws as rows of (kind, number): 0 a number, 1 a var, 2 + 3 - 4 * 5 /
abbrev vX : Type := List (Nat × Nat)
def vOp (k : Nat) (x y : Int32) : Int32 := if k = 2 then x + y else if k = 3 then x - y else if k = 4 then x * y else x / y
/-- the stack behind a term; none: divided by 0 -/
def vE (vars : Nat → Int32) : vX → List Int32 → Option (List Int32)
  | [], st => some st
  | q :: r, st => if q.1 = 0 then vE vars r (nI q.2 :: st) else if q.1 = 1 then vE vars r (vars q.2 :: st) else match st with
    | y :: x :: s => if q.1 = 5 ∧ y = 0 then none else vE vars r (vOp q.1 x y :: s)
    | _ => some []
def vEt (vars : Nat → Int32) (e : vX) : Option Int32 := match vE vars e [] with
  | some (x :: _) => some x
  | some [] => some 0
  | none => none
def vLw : List (vX × vX × vX) → vX → (Nat → Int32) → Int32
  | [], e, vars => (vEt vars e).getD 0
  | b :: bs, e, vars => match vEt vars b.1, vEt vars b.2.1 with
    | some x, some y => if x < y then (vEt vars b.2.2).getD 0 else vLw bs e vars
    | _, _ => 0
/-- a term keeps to its stack: never below two where two are wanted, never above the bound, one at its end -/
def vDp (b : Nat) : vX → Nat → Prop
  | [], d => d = 1
  | q :: r, d => if q.1 < 2 then (q.1 = 1 → q.2 < 9) ∧ d + 1 ≤ b ∧ vDp b r (d + 1) else q.1 < 6 ∧ 2 ≤ d ∧ vDp b r (d - 1)
def vLf (bs : List (vX × vX × vX)) (e : vX) : Prop := vDp 15 e 0 ∧ ∀ q, q ∈ bs → vDp 15 q.1 0 ∧ vDp 15 q.2.1 0 ∧ vDp 15 q.2.2 0
def vDf (k : Nat) : vX := if k = 0 then [(1, 2)] else if k = 1 then [(0, 1)] else if k = 2 then [(1, 0)] else [(0, 0)]
-- the reference's cells
def mCd (g : xG) (f : Nat) (e : vX) : Prop := f + e.length ≤ 840 ∧ ∀ i q, e[i]? = some q → g.1 27 (f + i) = nI q.1 ∧ g.1 28 (f + i) = nI q.2
def mBr (g : xG) (lv cu b : Nat) (q : vX × vX × vX) : Prop := ∃ f, 420 * lv ≤ f ∧ f + q.1.length + q.2.1.length + q.2.2.length ≤ cu ∧ g.1 22 b = 1 ∧ g.1 23 b = nI f ∧ g.1 24 b = nI (f + q.1.length) ∧ g.1 25 b = nI (f + q.1.length + q.2.1.length) ∧ g.1 26 b = nI (f + q.1.length + q.2.1.length + q.2.2.length) ∧ mCd g f q.1 ∧ mCd g (f + q.1.length) q.2.1 ∧ mCd g (f + q.1.length + q.2.1.length) q.2.2
def mBe (g : xG) (lv cu b : Nat) (e : vX) : Prop := ∃ f, 420 * lv ≤ f ∧ f + e.length ≤ cu ∧ g.1 22 b = 0 ∧ g.1 25 b = nI f ∧ g.1 26 b = nI (f + e.length) ∧ mCd g f e
def mLy (g : xG) (lv k bu cu : Nat) (bs : List (vX × vX × vX)) (e : vX) : Prop := (g.1 20 (4 * lv + k) = g.1 21 (4 * lv + k) ∧ bs = [] ∧ e = vDf k) ∨
  ∃ b0, (130 * lv ≤ b0 ∧ b0 + bs.length + 1 ≤ bu) ∧ g.1 20 (4 * lv + k) = nI b0 ∧ g.1 21 (4 * lv + k) = nI (b0 + bs.length + 1) ∧ (∀ j q, bs[j]? = some q → mBr g lv cu (b0 + j) q) ∧ mBe g lv cu (b0 + bs.length) e
def mLay (g : xG) (lv k : Nat) (bs : List (vX × vX × vX)) (e : vX) : Prop := mLy g lv k (130 * lv + 130) (420 * lv + 420) bs e
def mLw (g : xG) (lv k : Nat) (f : (Nat → Int32) → Int32) : Prop := ∃ bs e, (∀ vars, f vars = vLw bs e vars) ∧ vLf bs e ∧ mLay g lv k bs e
def mSto (lv : Nat) (t : vSt) (g : xG) : Prop := lv < 2 ∧ g.1 0 18 = nI lv ∧ g.1 10 lv = nI (tN t) ∧ g.1 14 lv = nI (tM t) ∧ (∀ s, s < tN t → g.1 11 (5 * lv + s) = tL t s ∧ g.1 12 (5 * lv + s) = tR t s ∧ g.1 13 (5 * lv + s) = tB t s) ∧ (∀ p, p < tM t → g.1 15 (6 * lv + p) = tW t p) ∧ g.1 19 lv = tS t ∧ ∀ k, k < 4 → mLw g lv k (tX t k)
theorem mCd.fr {g g' : xG} {f : Nat} {e : vX} (h : mCd g f e) (e7 : g'.1 27 = g.1 27) (e8 : g'.1 28 = g.1 28) : mCd g' f e := ⟨h.1, fun i q hq => by rw [e7, e8]; exact h.2 i q hq⟩
theorem mBr.fr {g g' : xG} {lv cu b : Nat} {q : vX × vX × vX} (h : mBr g lv cu b q) (hk : ∀ k, 20 ≤ k → k < 29 → g'.1 k = g.1 k) : mBr g' lv cu b q := by
  obtain ⟨f, r1, r2, h1, h2, h3, h4, h5, h6, h7, h8⟩ := h
  have e7 := hk 27 (by omega) (by omega)
  have e8 := hk 28 (by omega) (by omega)
  exact ⟨f, r1, r2, by rw [hk 22 (by omega) (by omega)]; exact h1, by rw [hk 23 (by omega) (by omega)]; exact h2, by rw [hk 24 (by omega) (by omega)]; exact h3, by rw [hk 25 (by omega) (by omega)]; exact h4, by rw [hk 26 (by omega) (by omega)]; exact h5, h6.fr e7 e8, h7.fr e7 e8, h8.fr e7 e8⟩
theorem mBe.fr {g g' : xG} {lv cu b : Nat} {e : vX} (h : mBe g lv cu b e) (hk : ∀ k, 20 ≤ k → k < 29 → g'.1 k = g.1 k) : mBe g' lv cu b e := by
  obtain ⟨f, r1, r2, h1, h4, h5, h6⟩ := h
  have e7 := hk 27 (by omega) (by omega)
  have e8 := hk 28 (by omega) (by omega)
  exact ⟨f, r1, r2, by rw [hk 22 (by omega) (by omega)]; exact h1, by rw [hk 25 (by omega) (by omega)]; exact h4, by rw [hk 26 (by omega) (by omega)]; exact h5, h6.fr e7 e8⟩
theorem mLw.fr {g g' : xG} {lv k : Nat} {f : (Nat → Int32) → Int32} (h : mLw g lv k f) (hk : ∀ k, 20 ≤ k → k < 29 → g'.1 k = g.1 k) : mLw g' lv k f := by
  obtain ⟨bs, e, h1, h2, h3⟩ := h
  refine ⟨bs, e, h1, h2, ?_⟩
  rcases h3 with ⟨a, b⟩ | ⟨b0, a1, a2, a3, a4, a5⟩
  · exact Or.inl ⟨by rw [hk 20 (by omega) (by omega), hk 21 (by omega) (by omega)]; exact a, b⟩
  · exact Or.inr ⟨b0, a1, by rw [hk 20 (by omega) (by omega)]; exact a2, by rw [hk 21 (by omega) (by omega)]; exact a3, fun j q hq => (a4 j q hq).fr hk, a5.fr hk⟩
theorem mSto.fr {lv : Nat} {t : vSt} {g g' : xG} (h : mSto lv t g) (h0 : g'.1 0 18 = g.1 0 18) (hk : ∀ k, 10 ≤ k → k < 29 → g'.1 k = g.1 k) : mSto lv t g' := by
  obtain ⟨h1, h2, h3, h4, h5, h6, h7, h8⟩ := h
  refine ⟨h1, h0.trans h2, by rw [hk 10 (by omega) (by omega)]; exact h3, by rw [hk 14 (by omega) (by omega)]; exact h4, fun s hs => ?_, fun p hp => ?_, by rw [hk 19 (by omega) (by omega)]; exact h7, fun k hk4 => (h8 k hk4).fr (fun k h1 h2 => hk k (by omega) h2)⟩
  · rw [hk 11 (by omega) (by omega), hk 12 (by omega) (by omega), hk 13 (by omega) (by omega)]; exact h5 s hs
  · rw [hk 15 (by omega) (by omega)]; exact h6 p hp
def mRaw (b : Nat) (c : vSc) (g : xG) : Prop := (∀ i, i < 30 → g.1 b i = cG c i) ∧ (∀ k, k < 6 → g.1 b (30 + k) = nI (cR c k)) ∧ g.1 b 36 = cK c ∧ g.1 b 37 = cP c
theorem mRaw.fr {b : Nat} {c : vSc} {g g' : xG} (h : mRaw b c g) (e : g'.1 b = g.1 b) : mRaw b c g' := by
  unfold mRaw; rw [e]; exact h
/-- a story lives, a scene lies in the row -/
def mIn (lv : Nat) (t : vSt) (c : vSc) (g : xG) : Prop := vTok t ∧ vCok t c ∧ mSto lv t g ∧ mRaw 33 c g
theorem mIn.lv {lv : Nat} {t : vSt} {c : vSc} {g : xG} (h : mIn lv t c g) : lv < 2 := h.2.2.1.1
theorem mIn.l {lv : Nat} {t : vSt} {c : vSc} {g : xG} (h : mIn lv t c g) : g.1 0 18 = nI lv := h.2.2.1.2.1
theorem mIn.n {lv : Nat} {t : vSt} {c : vSc} {g : xG} (h : mIn lv t c g) : g.1 10 lv = nI (tN t) := h.2.2.1.2.2.1
theorem mIn.m {lv : Nat} {t : vSt} {c : vSc} {g : xG} (h : mIn lv t c g) : g.1 14 lv = nI (tM t) := h.2.2.1.2.2.2.1
theorem mIn.n5 {lv : Nat} {t : vSt} {c : vSc} {g : xG} (h : mIn lv t c g) : tN t ≤ 5 := h.1.1
theorem mIn.m6 {lv : Nat} {t : vSt} {c : vSc} {g : xG} (h : mIn lv t c g) : tM t ≤ 6 := h.1.2.1
-- what a call may change
def mFa (g g' : xG) : Prop := (∀ k, k ≠ 0 → k ≠ 30 → k ≠ 31 → g'.1 k = g.1 k) ∧ (∀ j, j ≠ 48 → g'.1 0 j = g.1 0 j) ∧ g'.2 = g.2
theorem mFa.rf {g : xG} : mFa g g := ⟨fun _ _ _ _ => rfl, fun _ _ => rfl, rfl⟩
theorem mFa.tr {g g1 g2 : xG} (h : mFa g g1) (h2 : mFa g1 g2) : mFa g g2 := ⟨fun k a b c => (h2.1 k a b c).trans (h.1 k a b c), fun j a => (h2.2.1 j a).trans (h.2.1 j a), h2.2.2.trans h.2.2⟩
theorem mFa.p {g g1 : xG} (h : mFa g g1) {k : Nat} (j : Nat) (v : Int32) (hk : k = 30 ∨ k = 31) : mFa g (xm_sI g1 k j v) := ⟨fun a h1 h2 h3 => (xg_off g1 j v (by omega)).trans (h.1 a h1 h2 h3), fun i hi => by rw [xg_off g1 j v (by omega)]; exact h.2.1 i hi, h.2.2⟩
theorem mFa.b {g g1 : xG} (h : mFa g g1) (v : Int32) : mFa g (xm_sI g1 0 48 v) := ⟨fun a h1 h2 h3 => (xg_off g1 48 v h1).trans (h.1 a h1 h2 h3), fun i hi => by rw [xg_in, if_neg hi]; exact h.2.1 i hi, h.2.2⟩
theorem mSto.a {lv : Nat} {t : vSt} {g g' : xG} (h : mSto lv t g) (f : mFa g g') : mSto lv t g' := h.fr (f.2.1 18 (by omega)) (fun k h1 h2 => f.1 k (by omega) (by omega) (by omega))
theorem mIn.a {lv : Nat} {t : vSt} {c : vSc} {g g' : xG} (h : mIn lv t c g) (f : mFa g g') : mIn lv t c g' := ⟨h.1, h.2.1, h.2.2.1.a f, h.2.2.2.fr (f.1 33 (by omega) (by omega) (by omega))⟩
-- numbers
theorem xn_5 (a b : Nat) : 5 * nI a + nI b = nI (5 * a + b) := by rw [show (5 : Int32) = nI 5 from rfl, pk_mul, nI_add]
theorem xn_6 (a b : Nat) : 6 * nI a + nI b = nI (6 * a + b) := by rw [show (6 : Int32) = nI 6 from rfl, pk_mul, nI_add]
theorem xn_4 (a b : Nat) : 4 * nI a + nI b = nI (4 * a + b) := by rw [show (4 : Int32) = nI 4 from rfl, pk_mul, nI_add]
theorem xn_30 (a : Nat) : 30 + nI a = nI (30 + a) := by rw [show (30 : Int32) = nI 30 from rfl, nI_add]
theorem xn_31 (a : Nat) : 31 + nI a = nI (30 + (a + 1)) := by rw [show (31 : Int32) = nI 31 from rfl, nI_add]; congr 1; omega
theorem vIs_m {n : Nat} (hn : n < 2 ^ 31) (x : Int32) : (if 0 ≤ x ∧ x ≤ nI n - 1 then (1 : Int32) else 0) = vIs n x := by
  unfold vIs
  rcases Nat.eq_zero_or_pos n with q | q
  · rw [q, if_neg (by rintro ⟨a, b⟩; exact absurd (Int32.le_trans a b) (by decide)), if_neg (by rintro ⟨a, b⟩; exact absurd b (Int32.not_lt.mpr a))]
  · obtain ⟨k, rfl⟩ : ∃ k, n = k + 1 := ⟨n - 1, by omega⟩
    rw [nI_pred]
    by_cases y : 0 ≤ x ∧ x < nI (k + 1)
    · rw [if_pos y, if_pos ((vR_is x (by omega)).mpr y)]
    · rw [if_neg y, if_neg (fun z => y ((vR_is x (by omega)).mp z))]
theorem vIs_01 (m : Nat) (x : Int32) : vIs m x = 0 ∨ vIs m x = 1 := by unfold vIs; split; exact Or.inr rfl; exact Or.inl rfl
def vWi (v lo hi : Int32) : Int32 := if v < lo then lo else if hi < v then hi else v
theorem vWi_held (v : Int32) {most : Int32} (h : 0 ≤ most) : vWi v 0 most = vHeld v most := by
  unfold vWi vHeld vMin vMax
  by_cases a : v < 0
  · rw [if_pos a, if_pos (Int32.lt_of_lt_of_le a h), if_neg (Int32.not_lt.mpr (Int32.le_of_lt a))]
  · rw [if_neg a]
    by_cases b : most < v
    · rw [if_pos b, if_neg (fun z => Int32.lt_irrefl (Int32.lt_trans b z))]
      by_cases c : 0 < most
      · rw [if_pos c]
      · rw [if_neg c]; exact Int32.le_antisymm (Int32.not_lt.mp c) h
    · rw [if_neg b]
      have b' := Int32.not_lt.mp b
      by_cases c : v < most
      · rw [if_pos c]
        by_cases d : 0 < v
        · rw [if_pos d]
        · rw [if_neg d]; exact Int32.le_antisymm (Int32.not_lt.mp d) (Int32.not_lt.mp a)
      · rw [if_neg c]
        have e : v = most := Int32.le_antisymm b' (Int32.not_lt.mp c)
        rw [e]
        by_cases d : 0 < most
        · rw [if_pos d]
        · rw [if_neg d]; exact Int32.le_antisymm (Int32.not_lt.mp d) h
def xt_X9_in : xT := xm_fn (Z := Int32 × Int32 × Int32) (fun (x, lo, hi) av g => av = [.int x, .int lo, .int hi] ∧ True) (fun (x, lo, hi) _ => some (.int (if lo ≤ x ∧ x ≤ hi then 1 else 0))) (fun _ g => g)
set_option maxRecDepth 100000 in
set_option maxHeartbeats 400000 in
theorem xp_X9_in {l : Launch} {D : va_G} {cA : Nat → ClassId} {B : List (Nat × Cell)} : xm_Met l D cA B xs_M 0 yX9_in cX9_in 3 (some .boolean) xt_X9_in := by
  have hm : xm_monos [] := xm_m0
  refine xm_meth (own := RX9) (ks := xk_X9_in) (C := xc_X9_in) (Ts := []) (by decide +kernel) rfl xm_clsok xs_M_ok xf_X9_ok xi_X9_ok xj_X9_ok xm_lk0 xo_X9_in ?_ ?_
  · rintro av g Q ⟨z, ⟨rfl, -⟩, -⟩
    exact Nat.le_of_ble_eq_true rfl
  · rintro av g Q ⟨⟨x, lo, hi⟩, ⟨rfl, -⟩, hQ⟩
    dsimp only at hQ
    refine xm_run_go hm 20 ⟨fun z => ⟨Or.inl rfl, xq_i hQ ?_⟩, fun z => ⟨fun y => ⟨Or.inl rfl, xq_i hQ ?_⟩, fun y => ⟨Or.inr rfl, xq_i hQ ?_⟩⟩⟩
    · rw [if_neg (fun q => absurd q.1 (Int32.not_le.mpr z))]
    · rw [if_neg (fun q => absurd q.2 (Int32.not_le.mpr y))]
    · rw [if_pos ⟨z, y⟩]
def xt_X9_within : xT := xm_fn (Z := Int32 × Int32 × Int32) (fun (x, lo, hi) av g => av = [.int x, .int lo, .int hi] ∧ True) (fun (x, lo, hi) _ => some (.int (vWi x lo hi))) (fun _ g => g)
set_option maxRecDepth 100000 in
set_option maxHeartbeats 400000 in
theorem xp_X9_within {l : Launch} {D : va_G} {cA : Nat → ClassId} {B : List (Nat × Cell)} : xm_Met l D cA B xs_M 0 yX9_within cX9_within 3 (some .int) xt_X9_within := by
  have hm : xm_monos [] := xm_m0
  refine xm_meth (own := RX9) (ks := xk_X9_within) (C := xc_X9_within) (Ts := []) (by decide +kernel) rfl xm_clsok xs_M_ok xf_X9_ok xi_X9_ok xj_X9_ok xm_lk0 xo_X9_within ?_ ?_
  · rintro av g Q ⟨z, ⟨rfl, -⟩, -⟩
    exact Nat.le_of_ble_eq_true rfl
  · rintro av g Q ⟨⟨x, lo, hi⟩, ⟨rfl, -⟩, hQ⟩
    dsimp only at hQ
    unfold vWi at hQ
    refine xm_run_go hm 20 ⟨fun z => ⟨fun y => xq_i hQ ?_, fun y => xq_i hQ ?_⟩, fun z => xq_i hQ ?_⟩
    · rw [if_neg (Int32.not_lt.mpr z), if_neg (Int32.not_lt.mpr y)]
    · rw [if_neg (Int32.not_lt.mpr z), if_pos y]
    · rw [if_pos z]
theorem ub_ct_vSn (u : Nat) : vSn (fun i => if u.testBit i then 1 else 0) 6 = ub_ct u := by
  simp only [vSn, ub_ct, Nat.zero_add]
def xt_X9_bits : xT := xm_fn (Z := Nat) (fun u av g => av = [.int (nI u)] ∧ u < 64) (fun u _ => some (.int (nI (ub_ct u)))) (fun _ g => g)
set_option maxRecDepth 100000 in
set_option maxHeartbeats 400000 in
theorem xp_X9_bits {l : Launch} {D : va_G} {cA : Nat → ClassId} {B : List (Nat × Cell)} : xm_Met l D cA B xs_M 0 yX9_bits cX9_bits 3 (some .int) xt_X9_bits := by
  have hm : xm_monos [] := xm_m0
  refine xm_meth (own := RX9) (ks := xk_X9_bits) (C := xc_X9_bits) (Ts := []) (by decide +kernel) rfl xm_clsok xs_M_ok xf_X9_ok xi_X9_ok xj_X9_ok xm_lk0 xo_X9_bits ?_ ?_
  · rintro av g Q ⟨z, ⟨rfl, -⟩, -⟩
    exact Nat.le_of_ble_eq_true rfl
  · rintro av g Q ⟨u, ⟨rfl, hu⟩, hQ⟩
    dsimp only at hQ
    have loop : ∀ d k, k + d = 6 → ∀ v, v = nI (vSn (fun i => if u.testBit i then 1 else 0) k) → xm_go xs_M xk_X9_bits [] xc_X9_bits Q (xm_drop 4 xc_X9_bits) [.int (nI u), .int v, .int (nI k)] [] g := by
      intro d
      induction d with
      | zero =>
        intro k hk v hv
        have hk : k = 6 := by omega
        subst hk
        rw [ub_ct_vSn] at hv
        exact xm_run_go hm 20 ⟨fun _ => xq_i hQ hv, fun z => absurd z (by decide)⟩
      | succ d ih =>
        intro k hk v hv
        have nx := ih (k + 1) (by omega)
        rw [nI_succ] at nx
        refine xm_run_go hm 20 ⟨fun z => absurd z (nI_ge (b := 6) (by omega) (by omega)), fun _ => xm_cut hm (nx _ ?_)⟩
        rw [ub_bit u hu k (by omega), hv, vSn, ← nI_add]
        congr 1
        split <;> rfl
    exact xm_run_go hm 20 (xm_cut hm (loop 6 0 rfl _ rfl))
def xt_X9_isSlide : xT := xm_fn (Z := Int32 × Nat × Nat) (fun (x, lv, n) av g => av = [.ref 0, .int x] ∧ lv < 2 ∧ n < 100 ∧ g.1 0 18 = nI lv ∧ g.1 10 lv = nI n) (fun (x, lv, n) _ => some (.int (vIs n x))) (fun _ g => g)
set_option maxRecDepth 100000 in
set_option maxHeartbeats 400000 in
theorem xp_X9_isSlide {l : Launch} {D : va_G} {cA : Nat → ClassId} {B : List (Nat × Cell)} : xm_Met l D cA B xs_M 1 yX9_isSlide cX9_isSlide 2 (some .boolean) xt_X9_isSlide := by
  have hm : xm_monos [xt_X9_in] := ⟨(by first | exact xm_fn_mono _ _ _ | exact xm_rl_mono _ _), trivial⟩
  refine xm_meth (own := RX9) (ks := xk_X9_isSlide) (C := xc_X9_isSlide) (Ts := [xt_X9_in]) (by decide +kernel) rfl xm_clsok xs_M_ok xf_X9_ok xi_X9_ok xj_X9_ok (xm_lk xl_X9_307 xp_X9_in (by decide) xm_lk0) xo_X9_isSlide ?_ ?_
  · rintro av g Q ⟨z, ⟨rfl, -⟩, -⟩
    exact Nat.le_of_ble_eq_true rfl
  · rintro av g Q ⟨⟨x, lv, n⟩, ⟨rfl, hl, hn, h1, h2⟩, hQ⟩
    dsimp only at hl hn h1 h2 hQ
    have e : (if 0 ≤ x ∧ x ≤ g.1 10 lv - 1 then (1 : Int32) else 0) = vIs n x := by rw [h2, vIs_m (by omega)]
    refine xm_run_go hm 20 ⟨lv, ⟨hl, h1⟩, (x, 0, g.1 10 lv - 1), ⟨rfl, trivial⟩, ?_, xq_i hQ e⟩
    show (if 0 ≤ x ∧ x ≤ g.1 10 lv - 1 then (1 : Int32) else 0) = 0 ∨ (if 0 ≤ x ∧ x ≤ g.1 10 lv - 1 then (1 : Int32) else 0) = 1
    rw [e]; exact vIs_01 n x
def xt_X9_isPerson : xT := xm_fn (Z := Int32 × Nat × Nat) (fun (x, lv, n) av g => av = [.ref 0, .int x] ∧ lv < 2 ∧ n < 100 ∧ g.1 0 18 = nI lv ∧ g.1 14 lv = nI n) (fun (x, lv, n) _ => some (.int (vIs n x))) (fun _ g => g)
set_option maxRecDepth 100000 in
set_option maxHeartbeats 400000 in
theorem xp_X9_isPerson {l : Launch} {D : va_G} {cA : Nat → ClassId} {B : List (Nat × Cell)} : xm_Met l D cA B xs_M 1 yX9_isPerson cX9_isPerson 2 (some .boolean) xt_X9_isPerson := by
  have hm : xm_monos [xt_X9_in] := ⟨(by first | exact xm_fn_mono _ _ _ | exact xm_rl_mono _ _), trivial⟩
  refine xm_meth (own := RX9) (ks := xk_X9_isPerson) (C := xc_X9_isPerson) (Ts := [xt_X9_in]) (by decide +kernel) rfl xm_clsok xs_M_ok xf_X9_ok xi_X9_ok xj_X9_ok (xm_lk xl_X9_307 xp_X9_in (by decide) xm_lk0) xo_X9_isPerson ?_ ?_
  · rintro av g Q ⟨z, ⟨rfl, -⟩, -⟩
    exact Nat.le_of_ble_eq_true rfl
  · rintro av g Q ⟨⟨x, lv, n⟩, ⟨rfl, hl, hn, h1, h2⟩, hQ⟩
    dsimp only at hl hn h1 h2 hQ
    have e : (if 0 ≤ x ∧ x ≤ g.1 14 lv - 1 then (1 : Int32) else 0) = vIs n x := by rw [h2, vIs_m (by omega)]
    refine xm_run_go hm 20 ⟨lv, ⟨hl, h1⟩, (x, 0, g.1 14 lv - 1), ⟨rfl, trivial⟩, ?_, xq_i hQ e⟩
    show (if 0 ≤ x ∧ x ≤ g.1 14 lv - 1 then (1 : Int32) else 0) = 0 ∨ (if 0 ≤ x ∧ x ≤ g.1 14 lv - 1 then (1 : Int32) else 0) = 1
    rw [e]; exact vIs_01 n x
def xt_X9_leftAt : xT := xm_fn (Z := Nat × Nat × vSt) (fun (s, lv, t) av g => av = [.ref 0, .int (nI s)] ∧ s < tN t ∧ vTok t ∧ mSto lv t g) (fun (s, lv, t) _ => some (.int (tL t s))) (fun _ g => g)
set_option maxRecDepth 100000 in
set_option maxHeartbeats 400000 in
theorem xp_X9_leftAt {l : Launch} {D : va_G} {cA : Nat → ClassId} {B : List (Nat × Cell)} : xm_Met l D cA B xs_M 0 yX9_leftAt cX9_leftAt 2 (some .int) xt_X9_leftAt := by
  have hm : xm_monos [] := xm_m0
  refine xm_meth (own := RX9) (ks := xk_X9_leftAt) (C := xc_X9_leftAt) (Ts := []) (by decide +kernel) rfl xm_clsok xs_M_ok xf_X9_ok xi_X9_ok xj_X9_ok xm_lk0 xo_X9_leftAt ?_ ?_
  · rintro av g Q ⟨z, ⟨rfl, -⟩, -⟩
    exact Nat.le_of_ble_eq_true rfl
  · rintro av g Q ⟨⟨s, lv, t⟩, ⟨rfl, hs, ht, h⟩, hQ⟩
    dsimp only at hs ht h hQ
    have n5 := ht.1
    have hl := h.1
    refine xm_run_go hm 20 ⟨5 * lv + s, ⟨by omega, ?_⟩, xq_i hQ (h.2.2.2.2.1 s hs).1⟩
    rw [h.2.1, xn_5]
def xt_X9_rightAt : xT := xm_fn (Z := Nat × Nat × vSt) (fun (s, lv, t) av g => av = [.ref 0, .int (nI s)] ∧ s < tN t ∧ vTok t ∧ mSto lv t g) (fun (s, lv, t) _ => some (.int (tR t s))) (fun _ g => g)
set_option maxRecDepth 100000 in
set_option maxHeartbeats 400000 in
theorem xp_X9_rightAt {l : Launch} {D : va_G} {cA : Nat → ClassId} {B : List (Nat × Cell)} : xm_Met l D cA B xs_M 0 yX9_rightAt cX9_rightAt 2 (some .int) xt_X9_rightAt := by
  have hm : xm_monos [] := xm_m0
  refine xm_meth (own := RX9) (ks := xk_X9_rightAt) (C := xc_X9_rightAt) (Ts := []) (by decide +kernel) rfl xm_clsok xs_M_ok xf_X9_ok xi_X9_ok xj_X9_ok xm_lk0 xo_X9_rightAt ?_ ?_
  · rintro av g Q ⟨z, ⟨rfl, -⟩, -⟩
    exact Nat.le_of_ble_eq_true rfl
  · rintro av g Q ⟨⟨s, lv, t⟩, ⟨rfl, hs, ht, h⟩, hQ⟩
    dsimp only at hs ht h hQ
    have n5 := ht.1
    have hl := h.1
    refine xm_run_go hm 20 ⟨5 * lv + s, ⟨by omega, ?_⟩, xq_i hQ (h.2.2.2.2.1 s hs).2.1⟩
    rw [h.2.1, xn_5]
def xt_X9_mixed : xT := xm_fn (Z := Int32 × Int32) (fun (x, y) av _ => av = [.int x, .int y] ∧ True) (fun (x, y) _ => some (.int (vMix x y))) (fun _ g => g)
set_option maxRecDepth 100000 in
set_option maxHeartbeats 400000 in
theorem xp_X9_mixed {l : Launch} {D : va_G} {cA : Nat → ClassId} {B : List (Nat × Cell)} : xm_Met l D cA B xs_M 0 yX9_mixed cX9_mixed 3 (some .int) xt_X9_mixed := by
  have hm : xm_monos [] := xm_m0
  refine xm_meth (own := RX9) (ks := xk_X9_mixed) (C := xc_X9_mixed) (Ts := []) (by decide +kernel) rfl xm_clsok xs_M_ok xf_X9_ok xi_X9_ok xj_X9_ok xm_lk0 xo_X9_mixed ?_ ?_
  · rintro av g Q ⟨z, ⟨rfl, -⟩, -⟩
    exact Nat.le_of_ble_eq_true rfl
  · rintro av g Q ⟨⟨x, y⟩, ⟨rfl, -⟩, hQ⟩
    exact xm_run_go hm 20 hQ
def xt_X9_lotOf : xT := xm_fn (Z := Int32) (fun w av _ => av = [.ref 0, .int w] ∧ True) (fun w g => some (.int (vLot (g.1 0 51) w))) (fun _ g => g)
set_option maxRecDepth 100000 in
set_option maxHeartbeats 400000 in
theorem xp_X9_lotOf {l : Launch} {D : va_G} {cA : Nat → ClassId} {B : List (Nat × Cell)} : xm_Met l D cA B xs_M 1 yX9_lotOf cX9_lotOf 2 (some .int) xt_X9_lotOf := by
  have hm : xm_monos [xt_X9_mixed] := ⟨(by first | exact xm_fn_mono _ _ _ | exact xm_rl_mono _ _), trivial⟩
  refine xm_meth (own := RX9) (ks := xk_X9_lotOf) (C := xc_X9_lotOf) (Ts := [xt_X9_mixed]) (by decide +kernel) rfl xm_clsok xs_M_ok xf_X9_ok xi_X9_ok xj_X9_ok (xm_lk xl_X9_324 xp_X9_mixed (by decide) xm_lk0) xo_X9_lotOf ?_ ?_
  · rintro av g Q ⟨z, ⟨rfl, -⟩, -⟩
    exact Nat.le_of_ble_eq_true rfl
  · rintro av g Q ⟨w, ⟨rfl, -⟩, hQ⟩
    exact xm_run_go hm 20 ⟨(g.1 0 51, 205), ⟨rfl, trivial⟩, (vMix (g.1 0 51) 205, w), ⟨rfl, trivial⟩, by decide, hQ⟩
def xt_X9_glowAt : xT := xm_fn (Z := Nat × Nat) (fun (p, s) av g => av = [.ref 0, .int (nI p), .int (nI s)] ∧ p < 6 ∧ s < 5) (fun (p, s) g => some (.int (g.1 33 (p * 5 + s)))) (fun _ g => g)
set_option maxRecDepth 100000 in
set_option maxHeartbeats 400000 in
theorem xp_X9_glowAt {l : Launch} {D : va_G} {cA : Nat → ClassId} {B : List (Nat × Cell)} : xm_Met l D cA B xs_M 0 yX9_glowAt cX9_glowAt 3 (some .int) xt_X9_glowAt := by
  have hm : xm_monos [] := xm_m0
  refine xm_meth (own := RX9) (ks := xk_X9_glowAt) (C := xc_X9_glowAt) (Ts := []) (by decide +kernel) rfl xm_clsok xs_M_ok xf_X9_ok xi_X9_ok xj_X9_ok xm_lk0 xo_X9_glowAt ?_ ?_
  · rintro av g Q ⟨z, ⟨rfl, -⟩, -⟩
    exact Nat.le_of_ble_eq_true rfl
  · rintro av g Q ⟨⟨p, s⟩, ⟨rfl, hp, hs⟩, hQ⟩
    dsimp only at hp hs hQ
    refine xm_run_go hm 20 ⟨p * 5 + s, ⟨by omega, ?_⟩, hQ⟩
    rw [xn_5, Nat.mul_comm]
