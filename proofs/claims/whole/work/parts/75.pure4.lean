-- READING: bytes and tokens
def pBy (x : Int32) : Nat := (x &&& 255).toNatClampNeg
theorem pBy_n (x : Int32) : x &&& 255 = nI (pBy x) ∧ pBy x < 256 := by
  obtain ⟨j, hj, e⟩ := pk_andE x (m := 255) 8 (by decide)
  unfold pBy
  rw [e, nI_clamp (by omega)]
  exact ⟨rfl, by omega⟩
theorem pBy_s {x : Int32} (h : x.toInt8.toInt32 = x) (hv : pBy x < 128) : x = nI (pBy x) := by
  have e := (sc_eq h (pBy_n x).2).mpr (pBy_n x).1
  have z : ∀ v, v < 128 → (nI v).toInt8.toInt32 = nI v := by decide +kernel
  rw [z _ hv] at e
  exact e
def pC (n : Nat) (tb : Nat → Int32) (i : Nat) : Nat := if i < n then pBy (tb i) else 0
theorem pC_lt (n : Nat) (tb : Nat → Int32) (i : Nat) : pC n tb i < 256 := by
  unfold pC
  split
  · exact (pBy_n _).2
  · decide
theorem pC_0 {n : Nat} {tb : Nat → Int32} {i : Nat} (h : n ≤ i) : pC n tb i = 0 := by unfold pC; rw [if_neg (by omega)]
def pBl (v : Nat) : Bool := decide (v = 9) || (decide (v = 10) || (decide (v = 13) || decide (v = 32)))
def pAl (v : Nat) : Bool := decide (97 ≤ v) && decide (v ≤ 122)
def pDi (v : Nat) : Bool := decide (48 ≤ v) && decide (v ≤ 57)
def pSg (v : Nat) : Bool := decide (v = 59) || (decide (v = 61) || (decide (v = 43) || (decide (v = 45) || (decide (v = 42) || (decide (v = 47) || (decide (v = 60) || (decide (v = 40) || decide (v = 41))))))))
theorem pAl_i {v : Nat} : pAl v = true ↔ 97 ≤ v ∧ v ≤ 122 := by unfold pAl; rw [Bool.and_eq_true, decide_eq_true_eq, decide_eq_true_eq]
theorem pDi_i {v : Nat} : pDi v = true ↔ 48 ≤ v ∧ v ≤ 57 := by unfold pDi; rw [Bool.and_eq_true, decide_eq_true_eq, decide_eq_true_eq]
/-- how long a run is -/
def pRn (P : Nat → Bool) (c : Nat → Nat) : Nat → Nat → Nat
  | 0, _ => 0
  | f + 1, i => if P (c i) then pRn P c f (i + 1) + 1 else 0
def pRl (P : Nat → Bool) (n : Nat) (c : Nat → Nat) (i : Nat) : Nat := pRn P c (n - i) i
theorem pRn_le (P : Nat → Bool) (c : Nat → Nat) : ∀ f i, pRn P c f i ≤ f
  | 0, _ => Nat.le_refl _
  | f + 1, i => by
    unfold pRn
    have := pRn_le P c f (i + 1)
    split <;> omega
theorem pRl_le {P : Nat → Bool} {n : Nat} {c : Nat → Nat} {i : Nat} (h : i ≤ n) : i + pRl P n c i ≤ n := by
  have := pRn_le P c (n - i) i
  unfold pRl; omega
theorem pRl_0 {P : Nat → Bool} {n : Nat} {c : Nat → Nat} {i : Nat} (hP : P 0 = false) (hc : ∀ i, n ≤ i → c i = 0) (h : pRl P n c i = 0) : P (c i) = false := by
  unfold pRl at h
  cases hf : n - i with
  | zero => rw [hc i (by omega)]; exact hP
  | succ f =>
    rw [hf] at h
    unfold pRn at h
    cases hp : P (c i) with
    | false => rfl
    | true => rw [hp, if_pos rfl] at h; omega
theorem pRl_s {P : Nat → Bool} {n : Nat} {c : Nat → Nat} {i r : Nat} (h : pRl P n c i = r + 1) : P (c i) = true ∧ i < n ∧ pRl P n c (i + 1) = r := by
  unfold pRl at h
  cases hf : n - i with
  | zero => rw [hf] at h; unfold pRn at h; omega
  | succ f =>
    rw [hf] at h
    unfold pRn at h
    cases hp : P (c i) with
    | false => rw [hp] at h; cases h
    | true =>
      rw [hp, if_pos rfl] at h
      refine ⟨rfl, by omega, ?_⟩
      unfold pRl
      rw [show n - (i + 1) = f by omega]; omega
theorem pRl_p {P : Nat → Bool} {n : Nat} {c : Nat → Nat} {i : Nat} (h : P (c i) = true) (hi : i < n) : pRl P n c i = pRl P n c (i + 1) + 1 := by
  unfold pRl
  rw [show n - i = n - (i + 1) + 1 by omega]
  show (if P (c i) then _ else 0) = _
  rw [h, if_pos rfl]
theorem pRl_n {P : Nat → Bool} {n : Nat} {c : Nat → Nat} {i : Nat} (h : P (c i) = false) : pRl P n c i = 0 := by
  unfold pRl
  cases n - i with
  | zero => rfl
  | succ f =>
    show (if P (c i) then _ else 0) = _
    rw [h]; rfl
theorem pRl_all {P : Nat → Bool} {n : Nat} {c : Nat → Nat} : ∀ (m i : Nat), pRl P n c i = m → ∀ j, j < m → P (c (i + j)) = true
  | 0, _, _, j, hj => absurd hj (by omega)
  | m + 1, i, h, j, hj => by
    obtain ⟨h1, -, h3⟩ := pRl_s h
    cases j with
    | zero => exact h1
    | succ j =>
      have := pRl_all m (i + 1) h3 j (by omega)
      rw [show i + (j + 1) = i + 1 + j by omega]; exact this
/-- what the bytes of a run tell, each less a base -/
def pLs (d : Nat) (c : Nat → Nat) (i m : Nat) : List Nat := (List.range m).map (fun j => c (i + j) - d)
theorem pLs_s (d : Nat) (c : Nat → Nat) (i m : Nat) : pLs d c i (m + 1) = pLs d c i m ++ [c (i + m) - d] := by
  unfold pLs
  rw [List.range_succ, List.map_append]; rfl
theorem pLs_len (d : Nat) (c : Nat → Nat) (i m : Nat) : (pLs d c i m).length = m := by unfold pLs; rw [List.length_map, List.length_range]
theorem pNm_s (b : Int64) (l : List Nat) (x : Nat) : pNm b (l ++ [x]) = pNm b l * b + lN x := by
  unfold pNm
  rw [List.foldl_append]; rfl
def pVl (l : List Nat) : Nat := l.foldl (fun n x => n * 10 + x) 0
theorem pVl_s (l : List Nat) (x : Nat) : pVl (l ++ [x]) = pVl l * 10 + x := by
  unfold pVl
  rw [List.foldl_append]; rfl
theorem pVl_lt : ∀ (m : Nat) (c : Nat → Nat) (i : Nat), (∀ j, j < m → c (i + j) - 48 < 10) → pVl (pLs 48 c i m) < 10 ^ m
  | 0, _, _, _ => by show (0 : Nat) < 1; decide
  | m + 1, c, i, h => by
    have ih := pVl_lt m c i (fun j hj => h j (by omega))
    have := h m (by omega)
    rw [pLs_s, pVl_s, Nat.pow_succ]
    omega
theorem pVl_nm : ∀ (m : Nat) (c : Nat → Nat) (i : Nat), pNm 10 (pLs 48 c i m) = lN (pVl (pLs 48 c i m))
  | 0, _, _ => rfl
  | m + 1, c, i => by
    rw [pLs_s, pNm_s, pVl_s, pVl_nm m c i, show (10 : Int64) = lN 10 from rfl, lN_mul, lN_add]
/-- the token at a place: kind, number, letters, its end -/
def pTo (n : Nat) (c : Nat → Nat) (p : Nat) : Nat × Nat × List Nat × Nat :=
  if n ≤ p then (0, 0, [], p)
  else if pAl (c p) then ((if 8 < pRl pAl n c p then 1 else match pFd (pLs 96 c p (pRl pAl n c p)) pWl with
    | some w => 128 + w
    | none => 2), 0, pLs 96 c p (pRl pAl n c p), p + pRl pAl n c p)
  else if pDi (c p) then ((if 4 < pRl pDi n c p then 1 else 3), pVl (pLs 48 c p (pRl pDi n c p)), [], p + pRl pDi n c p)
  else ((if pSg (c p) then c p else 1), 0, [], p + 1)
def pSk (n : Nat) (c : Nat → Nat) (i : Nat) : Nat := i + pRl pBl n c i
def pSt' (n : Nat) (c : Nat → Nat) : Nat → Nat
  | 0 => pSk n c 0
  | j + 1 => pSk n c (pTo n c (pSt' n c j)).2.2.2
def pTk (n : Nat) (c : Nat → Nat) : vTk := (fun j => (pTo n c (pSt' n c j)).1, fun j => pSt' n c j, fun j => (pTo n c (pSt' n c j)).2.1, fun j => (pTo n c (pSt' n c j)).2.2.1)
theorem pTo_end {n : Nat} {c : Nat → Nat} {p : Nat} (h : p < n) : p < (pTo n c p).2.2.2 ∧ (pTo n c p).2.2.2 ≤ n ∧ (pTo n c p).1 ≠ 0 := by
  unfold pTo
  rw [if_neg (by omega)]
  by_cases c1 : pAl (c p) = true
  · rw [if_pos c1]
    have h1 := pRl_p (n := n) c1 h
    have h2 := pRl_le (P := pAl) (n := n) (c := c) (i := p) (by omega)
    refine ⟨by dsimp only; omega, h2, ?_⟩
    dsimp only
    split
    · decide
    · split <;> omega
  rw [if_neg c1]
  by_cases c2 : pDi (c p) = true
  · rw [if_pos c2]
    have h1 := pRl_p (n := n) c2 h
    have h2 := pRl_le (P := pDi) (n := n) (c := c) (i := p) (by omega)
    refine ⟨by dsimp only; omega, h2, ?_⟩
    dsimp only
    split <;> decide
  rw [if_neg c2]
  refine ⟨by dsimp only; omega, by dsimp only; omega, ?_⟩
  dsimp only
  split
  · rename_i z
    intro q
    rw [q] at z
    exact absurd z (by decide)
  · decide
theorem pTo_n {n : Nat} {c : Nat → Nat} {p : Nat} (h : n ≤ p) : pTo n c p = (0, 0, [], p) := by unfold pTo; rw [if_pos h]
theorem pFd_w {l : List Nat} {w : Nat} (h : pFd l pWl = some w) : w < 20 := by
  have := pFd_lt h
  exact Nat.lt_of_lt_of_eq this (by decide)
theorem pTo_ok {n : Nat} {c : Nat → Nat} (p : Nat) : (pTo n c p).1 < 148 ∧ pVk (pTo n c p).1 = true ∧ ((pTo n c p).1 = 2 → pNok (pTo n c p).2.2.1) ∧ ((pTo n c p).1 = 3 → (pTo n c p).2.1 < 10000) := by
  have wd : ∀ w, w < 20 → 128 + w < 148 ∧ pVk (128 + w) = true ∧ 128 + w ≠ 2 ∧ 128 + w ≠ 3 := by decide +kernel
  have sg : ∀ v, v < 256 → pSg v = true → v < 148 ∧ pVk v = true ∧ v ≠ 2 ∧ v ≠ 3 := by decide +kernel
  unfold pTo
  by_cases c0 : n ≤ p
  · rw [if_pos c0]; dsimp only; exact ⟨by decide, by decide, (fun h => by cases h), fun h => by cases h⟩
  rw [if_neg c0]
  by_cases c1 : pAl (c p) = true
  · rw [if_pos c1]
    dsimp only
    by_cases c8 : 8 < pRl pAl n c p
    · rw [if_pos c8]; exact ⟨by decide, by decide, (fun h => by cases h), fun h => by cases h⟩
    · rw [if_neg c8]
      cases hw : pFd (pLs 96 c p (pRl pAl n c p)) pWl with
      | some w =>
        obtain ⟨w1, w2, w3, w4⟩ := wd w (pFd_w hw)
        exact ⟨w1, w2, fun h => absurd h w3, fun h => absurd h w4⟩
      | none =>
        refine ⟨by decide, by decide, fun _ => ⟨by rw [pLs_len]; omega, fun x hx => ?_⟩, fun h => by cases h⟩
        unfold pLs at hx
        obtain ⟨j, hj, rfl⟩ := List.mem_map.mp hx
        have := pAl_i.mp (pRl_all _ _ rfl j (List.mem_range.mp hj))
        omega
  rw [if_neg c1]
  by_cases c2 : pDi (c p) = true
  · rw [if_pos c2]
    dsimp only
    by_cases c8 : 4 < pRl pDi n c p
    · rw [if_pos c8]; exact ⟨by decide, by decide, (fun h => by cases h), fun h => by cases h⟩
    · rw [if_neg c8]
      refine ⟨by decide, by decide, (fun h => by cases h), fun _ => ?_⟩
      have h1 := pVl_lt (pRl pDi n c p) c p (fun j hj => by have := pDi_i.mp (pRl_all _ _ rfl j hj); omega)
      have h2 : 10 ^ pRl pDi n c p ≤ 10 ^ 4 := Nat.pow_le_pow_right (by decide) (by omega)
      have h3 : (10 : Nat) ^ 4 = 10000 := by decide
      omega
  rw [if_neg c2]
  dsimp only
  by_cases c3 : pSg (c p) = true
  · rw [if_pos c3]
    have v : c p < 256 := by
      have : ∀ v, pSg v = true → v < 256 := fun v h => by
        unfold pSg at h
        simp only [Bool.or_eq_true, decide_eq_true_eq] at h
        omega
      exact this _ c3
    obtain ⟨w1, w2, w3, w4⟩ := sg _ v c3
    exact ⟨w1, w2, fun h => absurd h w3, fun h => absurd h w4⟩
  · rw [if_neg c3]; exact ⟨by decide, by decide, (fun h => by cases h), fun h => by cases h⟩
theorem pSk_le {n : Nat} {c : Nat → Nat} {i : Nat} (h : i ≤ n) : i ≤ pSk n c i ∧ pSk n c i ≤ n := ⟨Nat.le_add_right _ _, pRl_le h⟩
theorem pSt_le (n : Nat) (c : Nat → Nat) : ∀ j, pSt' n c j ≤ n
  | 0 => (pSk_le (Nat.zero_le _)).2
  | j + 1 => by
    have ih := pSt_le n c j
    show pSk n c _ ≤ n
    by_cases h : pSt' n c j < n
    · exact (pSk_le (pTo_end h).2.1).2
    · rw [pTo_n (by omega)]; exact (pSk_le ih).2
/-- the last token that is looked at -/
def pLst (k : vTk) : Nat → Nat → Nat
  | 0, j => j
  | f + 1, j => if k.1 j ≤ 1 then j else pLst k f (j + 1)
theorem pLst_i (k : vTk) : ∀ f j, j ≤ pLst k f j ∧ pLst k f j ≤ j + f ∧ (k.1 (pLst k f j) ≤ 1 ∨ pLst k f j = j + f) ∧ ∀ i, j ≤ i → i < pLst k f j → 1 < k.1 i
  | 0, j => ⟨Nat.le_refl _, Nat.le_refl _, Or.inr rfl, fun i h1 h2 => by unfold pLst at h2; omega⟩
  | f + 1, j => by
    unfold pLst
    by_cases c : k.1 j ≤ 1
    · rw [if_pos c]; exact ⟨Nat.le_refl _, by omega, Or.inl c, fun i h1 h2 => by omega⟩
    · rw [if_neg c]
      obtain ⟨h1, h2, h3, h4⟩ := pLst_i k f (j + 1)
      refine ⟨by omega, by omega, by omega, fun i h5 h6 => ?_⟩
      by_cases e : i = j
      · rw [e]; omega
      · exact h4 i (by omega) h6
def pN (n : Nat) (c : Nat → Nat) : Nat := pLst (pTk n c) 400 0
theorem pTk_k {n : Nat} {c : Nat → Nat} (hn : n ≤ 2000) : pN n c ≤ 400 ∧ ((pTk n c).1 (pN n c) = 0 ∨ (pTk n c).1 (pN n c) = 1 ∨ pN n c = 400) ∧ pKk (pTk n c) (pN n c) := by
  obtain ⟨-, h2, h3, h4⟩ := pLst_i (pTk n c) 400 0
  have st : ∀ i, i < pN n c → pSt' n c i < pSt' n c (i + 1) := fun i hi => by
    have := h4 i (Nat.zero_le _) hi
    have l : pSt' n c i < n := by
      refine Nat.lt_of_not_le fun q => ?_
      have e : (pTk n c).1 i = 0 := by show (pTo n c (pSt' n c i)).1 = 0; rw [pTo_n q]
      omega
    have e := pTo_end (c := c) l
    exact Nat.lt_of_lt_of_le e.1 (pSk_le e.2.1).1
  refine ⟨by unfold pN; omega, by unfold pN; omega, fun i hi => ⟨(pTo_ok _).2.2.1, Nat.le_trans (pSt_le n c i) hn⟩, fun i j => ?_⟩
  intro hij
  induction j with
  | zero => omega
  | succ j ih =>
    intro hj
    have s := st j (by omega)
    by_cases e : i = j
    · rw [e]; exact s
    · exact Nat.lt_trans (ih (by omega) (by omega)) s
-- from a place on
theorem pSk_b {n : Nat} {c : Nat → Nat} {i : Nat} (h : i < n) (hb : pBl (c i) = true) : pSk n c (i + 1) = pSk n c i := by
  unfold pSk
  rw [pRl_p hb h]; omega
theorem pSk_n {n : Nat} {c : Nat → Nat} {i : Nat} (hb : pBl (c i) = false) : pSk n c i = i := by
  unfold pSk
  rw [pRl_n hb]; rfl
theorem pC_e {n : Nat} {tb : Nat → Int32} {i : Nat} (h : i < n) : tb i &&& 255 = nI (pC n tb i) := by
  unfold pC
  rw [if_pos h]; exact (pBy_n _).1
