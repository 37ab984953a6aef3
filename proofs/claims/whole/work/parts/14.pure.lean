theorem xm_lk0 {l : Launch} {D : va_G} {cA : Nat → ClassId} {B : List (Nat × Cell)} {S : List xC} {r : Nat} {own : String} : xm_LKs l D cA B S r own [] [] := trivial
theorem xm_lk {l : Launch} {D : va_G} {cA : Nat → ClassId} {B : List (Nat × Cell)} {S : List xC} {r : Nat} {own : String} {k : xK} {ks : List xK} {T : xT} {Ts : List xT} {y : MethodName} {bytes : ByteArray} {maxL : Nat} {ret : Option FieldType} {r' : Nat} (h1 : xm_ML own k y bytes maxL ret) (h2 : xm_Met l D cA B S r' y bytes maxL ret T) (hr : r' < r) (h : xm_LKs l D cA B S r own ks Ts) : xm_LKs l D cA B S r own (k :: ks) (T :: Ts) := ⟨Or.inl ⟨y, bytes, maxL, ret, r', hr, h1, h2⟩, h⟩
theorem xm_lkc {l : Launch} {D : va_G} {cA : Nat → ClassId} {B : List (Nat × Cell)} {S : List xC} {r : Nat} {own : String} {k : xK} {ks : List xK} {T : xT} {Ts : List xT} (h1 : xm_CP own k) (hr : 2 ≤ r) (h : xm_LKs l D cA B S r own ks Ts) : xm_LKs l D cA B S r own (k :: ks) (T :: Ts) := ⟨Or.inr ⟨h1, hr⟩, h⟩
theorem xm_m0 : xm_monos [] := trivial
-- writes and reads
theorem xg_same (g : xG) (k j : Nat) (v : Int32) : (xm_sI g k j v).1 k j = v := by simp [xm_sI, xm_u2]
theorem xg_in (g : xG) (k j i : Nat) (v : Int32) : (xm_sI g k j v).1 k i = if i = j then v else g.1 k i := by simp [xm_sI, xm_u2]
theorem xg_off (g : xG) {k a : Nat} (j : Nat) (v : Int32) (h : a ≠ k) : (xm_sI g k j v).1 a = g.1 a := by funext b; simp [xm_sI, xm_u2, h]
theorem xg_2 (g : xG) (k j : Nat) (v : Int32) : (xm_sI g k j v).2 = g.2 := rfl
theorem xg_a (g : xG) (k : Nat) (f : Nat → Int32) : (xm_sA g k f).1 k = f := by simp [xm_sA, xm_uA]
theorem xg_aoff (g : xG) {k a : Nat} (f : Nat → Int32) (h : a ≠ k) : (xm_sA g k f).1 a = g.1 a := by simp [xm_sA, xm_uA, h]
-- numbers
theorem xn_c (n : Nat) : (OfNat.ofNat n : Int32) = nI n := rfl
theorem xn_ltz {n : Nat} (h : n < 2 ^ 31) : ¬ nI n < 0 := nI_pos h
theorem xn_m1 : (-1 : Int32).toInt = -1 := by decide
-- THE VILLAGE, as numbers. A story: slides, people, left, right, bright, warm, seed, laws
abbrev vSt : Type := Nat × Nat × (Nat → Int32) × (Nat → Int32) × (Nat → Int32) × (Nat → Int32) × Int32 × (Nat → (Nat → Int32) → Int32)
abbrev tN (t : vSt) : Nat := t.1
abbrev tM (t : vSt) : Nat := t.2.1
abbrev tL (t : vSt) : Nat → Int32 := t.2.2.1
abbrev tR (t : vSt) : Nat → Int32 := t.2.2.2.1
abbrev tB (t : vSt) : Nat → Int32 := t.2.2.2.2.1
abbrev tW (t : vSt) : Nat → Int32 := t.2.2.2.2.2.1
abbrev tS (t : vSt) : Int32 := t.2.2.2.2.2.2.1
abbrev tX (t : vSt) : Nat → (Nat → Int32) → Int32 := t.2.2.2.2.2.2.2
-- A scene: glows (5 to a person), the row, the seats, the week, what was paid
abbrev vSc : Type := (Nat → Int32) × (Nat → Nat) × (Nat → Nat) × Int32 × Int32
abbrev cG (c : vSc) : Nat → Int32 := c.1
abbrev cR (c : vSc) : Nat → Nat := c.2.1
abbrev cS (c : vSc) : Nat → Nat := c.2.2.1
abbrev cK (c : vSc) : Int32 := c.2.2.2.1
abbrev cP (c : vSc) : Int32 := c.2.2.2.2
/-- the picture, its glow, the sum of glows, of the first n slides -/
def vPk (f : Nat → Int32) : Nat → Int32 × Int32 × Int32
  | 0 => (-2, 0, 0)
  | n + 1 => (if (vPk f n).2.1 < f n then nI n else (vPk f n).1, if (vPk f n).2.1 < f n then f n else (vPk f n).2.1, (vPk f n).2.2 + f n)
def vPic (t : vSt) (c : vSc) (p : Nat) : Int32 := (vPk (fun s => cG c (p * 5 + s)) (tN t)).1
def vTot (t : vSt) (c : vSc) (p : Nat) : Int32 := (vPk (fun s => cG c (p * 5 + s)) (tN t)).2.2
def vShine (t : vSt) (c : vSc) (p : Nat) : Int32 := (vPk (fun s => cG c (p * 5 + s)) (tN t)).2.1
/-- two pictures join -/
def vJ2 (t : vSt) (a b : Int32) : Prop := 0 ≤ a ∧ 0 ≤ b ∧ tR t a.toNatClampNeg = tL t b.toNatClampNeg
def vJ (t : vSt) (c : vSc) (p q : Nat) : Prop := vJ2 t (vPic t c p) (vPic t c q)
/-- the seat k and the next one join -/
def vJk (t : vSt) (c : vSc) (k : Nat) : Prop := k + 1 < tM t ∧ vJ t c (cR c k) (cR c (k + 1))
noncomputable def vB (p : Prop) : Int32 := @ite _ p (Classical.propDecidable p) 1 0
noncomputable def vN (p : Prop) : Nat := @ite _ p (Classical.propDecidable p) 1 0
noncomputable def vJoins (t : vSt) (c : vSc) (p : Nat) : Nat := vN (0 < cS c p ∧ vJk t c (cS c p - 1)) + vN (vJk t c (cS c p))
theorem vB_t {p : Prop} (h : p) : vB p = 1 := by simp [vB, h]
theorem vB_f {p : Prop} (h : ¬ p) : vB p = 0 := by simp [vB, h]
theorem vN_t {p : Prop} (h : p) : vN p = 1 := by simp [vN, h]
theorem vN_f {p : Prop} (h : ¬ p) : vN p = 0 := by simp [vN, h]
theorem vB_nI (p : Prop) : vB p = nI (vN p) := by
  by_cases h : p
  · rw [vB_t h, vN_t h]; rfl
  · rw [vB_f h, vN_f h]; rfl
theorem vB_01 (p : Prop) : vB p = 0 ∨ vB p = 1 := by
  by_cases h : p
  · right; exact vB_t h
  · left; exact vB_f h
/-- what a law is asked of: a person, a slide (below 0: none) -/
noncomputable def vVar (t : vSt) (c : vSc) (p : Nat) (s : Int32) : Nat → Int32 := fun k => match k with
  | 0 => if s < 0 then 0 else cG c (p * 5 + s.toNatClampNeg)
  | 1 => tW t p
  | 2 => if s < 0 then 0 else tB t s.toNatClampNeg
  | 3 => cK c
  | 4 => nI (cS c p)
  | 5 => nI (vJoins t c p)
  | 6 => if s < 0 then 0 else s
  | 7 => vTot t c p - (if s < 0 then 0 else cG c (p * 5 + s.toNatClampNeg))
  | _ => nI (tN t)
def vMin (x y : Int32) : Int32 := if y < x then y else x
def vMax (x y : Int32) : Int32 := if x < y then y else x
def vHeld (v most : Int32) : Int32 := vMax 0 (vMin most v)
noncomputable def vTakes (t : vSt) (c : vSc) (p : Nat) (s : Int32) : Int32 := vHeld (tX t 0 (vVar t c p s)) 99
noncomputable def vFades (t : vSt) (c : vSc) (p : Nat) (s : Int32) : Int32 := vHeld (tX t 1 (vVar t c p s)) 99
noncomputable def vPays (t : vSt) (c : vSc) (p : Nat) : Int32 := if vPic t c p < 0 then 0 else vHeld (tX t 2 (vVar t c p (vPic t c p))) 99
noncomputable def vWashes (t : vSt) (c : vSc) (p : Nat) : Int32 := vHeld (tX t 3 (vVar t c p (vPic t c p))) 100
/-- what a story and a scene must be -/
def vTok (t : vSt) : Prop := tN t ≤ 5 ∧ tM t ≤ 6 ∧ (∀ s, s < tN t → 0 ≤ tL t s ∧ 0 ≤ tR t s)
def vCok (t : vSt) (c : vSc) : Prop := (∀ k, k < tM t → cR c k < tM t ∧ cS c (cR c k) = k) ∧ (∀ p, p < tM t → cS c p < tM t ∧ cR c (cS c p) = p) ∧ (∀ k, k < 6 → cR c k < 6) ∧ (∀ i, i < 30 → 0 ≤ cG c i ∧ cG c i ≤ 99) ∧ (∀ p s, p < 6 → s < 5 → tN t ≤ s → cG c (p * 5 + s) = 0)
theorem vPk_ge (f : Nat → Int32) : ∀ n, 0 ≤ (vPk f n).2.1
  | 0 => by show (0 : Int32) ≤ 0; decide
  | n + 1 => by
    have ih := vPk_ge f n
    simp only [vPk]
    split
    · rename_i h
      exact Int32.le_of_lt (Int32.lt_of_le_of_lt ih h)
    · exact ih
theorem vPk_pic (f : Nat → Int32) : ∀ n, n < 2 ^ 31 → ((vPk f n).1 = -2 ∧ (vPk f n).2.1 = 0) ∨ ∃ s, s < n ∧ (vPk f n).1 = nI s ∧ (vPk f n).2.1 = f s ∧ 0 < f s
  | 0, _ => Or.inl ⟨rfl, rfl⟩
  | n + 1, hn => by
    simp only [vPk]
    by_cases h : (vPk f n).2.1 < f n
    · right
      rw [if_pos h, if_pos h]
      exact ⟨n, by omega, rfl, rfl, Int32.lt_of_le_of_lt (vPk_ge f n) h⟩
    · rw [if_neg h, if_neg h]
      rcases vPk_pic f n (by omega) with q | ⟨s, h1, h2⟩
      · exact Or.inl q
      · exact Or.inr ⟨s, by omega, h2⟩
theorem vPic_or {t : vSt} (ht : vTok t) (c : vSc) (p : Nat) : vPic t c p = -2 ∨ ∃ s, s < tN t ∧ vPic t c p = nI s := by
  rcases vPk_pic (fun s => cG c (p * 5 + s)) (tN t) (by have := ht.1; omega) with h | ⟨s, h1, h2, -⟩
  · exact Or.inl h.1
  · exact Or.inr ⟨s, h1, h2⟩
theorem vPic_neg {t : vSt} (ht : vTok t) (c : vSc) (p : Nat) : vPic t c p < 0 ↔ vPic t c p = -2 := by
  rcases vPic_or ht c p with h | ⟨s, h1, h2⟩
  · rw [h]; decide
  · rw [h2]
    have := ht.1
    constructor
    · intro h; exact absurd h (nI_pos (by omega))
    · intro h
      exact absurd (show nI s < 0 by rw [h]; decide) (nI_pos (by omega))
