-- WHAT IS ANSWERED: the whole state, and the answers of the calls
abbrev vS : Type := Nat × (Nat → Int32) × Int32 × vSt × vSc × Nat × (Nat → vSc) × (Nat → Option vSc) × vTold
abbrev sN (σ : vS) : Nat := σ.1
abbrev sB (σ : vS) : Nat → Int32 := σ.2.1
abbrev sP (σ : vS) : Int32 := σ.2.2.1
abbrev sT (σ : vS) : vSt := σ.2.2.2.1
abbrev sC (σ : vS) : vSc := σ.2.2.2.2.1
abbrev sK (σ : vS) : Nat := σ.2.2.2.2.2.1
abbrev sH (σ : vS) : Nat → vSc := σ.2.2.2.2.2.2.1
abbrev sL (σ : vS) : Nat → Option vSc := σ.2.2.2.2.2.2.2.1
abbrev sD (σ : vS) : vTold := σ.2.2.2.2.2.2.2.2
def uT (σ : vS) (n : Nat) (tb : Nat → Int32) : vS := (n, tb, σ.2.2)
def uC (σ : vS) (c : vSc) (k : Nat) (hs : Nat → vSc) : vS := (sN σ, sB σ, sP σ, sT σ, c, k, hs, sL σ, sD σ)
def uL (σ : vS) (sl : Nat → Option vSc) : vS := (sN σ, sB σ, sP σ, sT σ, sC σ, sK σ, sH σ, sl, sD σ)
def uD (σ : vS) (d : vTold) : vS := (sN σ, sB σ, sP σ, sT σ, sC σ, sK σ, sH σ, sL σ, d)
def vDo {α : Type} (d : α) (m : Nat) (x : Int32) (f : Nat → α) : α := if 0 ≤ x ∧ x < nI m then f x.toNatClampNeg else d
theorem vDo_y {α : Type} {d : α} {m p : Nat} {f : Nat → α} (h : p < m) (hm : m < 2 ^ 31) : vDo d m (nI p) f = f p := by
  rw [vDo, if_pos ⟨nI_pos' (by omega), nI_lt h hm⟩, nI_clamp (by omega)]
theorem vDo_n {α : Type} {d : α} {m : Nat} {x : Int32} {f : Nat → α} (h : ¬ (0 ≤ x ∧ x < nI m)) : vDo d m x f = d := by
  rw [vDo, if_neg h]
theorem vDo_or {m : Nat} (x : Int32) (hm : m < 2 ^ 31) : (¬ (0 ≤ x ∧ x < nI m)) ∨ ∃ p, p < m ∧ x = nI p := by
  by_cases h : 0 ≤ x ∧ x < nI m
  · obtain ⟨j, hj, rfl⟩ := nI_of (Int32.not_lt.mpr h.1)
    exact Or.inr ⟨j, (nI_ltI hj hm).mp h.2, rfl⟩
  · exact Or.inl h
theorem vDo_is {m p : Nat} (h : p < m) (hm : m < 2 ^ 31) : 0 ≤ nI p ∧ nI p < nI m := ⟨nI_pos' (by omega), nI_lt h hm⟩
theorem vR_is {k : Nat} (x : Int32) (hk : k + 1 < 2 ^ 31) : (0 ≤ x ∧ x ≤ nI k) ↔ (0 ≤ x ∧ x < nI (k + 1)) := by
  constructor
  · rintro ⟨h1, h2⟩
    obtain ⟨j, hj, rfl⟩ := nI_of (Int32.not_lt.mpr h1)
    exact ⟨h1, nI_lt (by have := (nI_leI hj (by omega)).mp h2; omega) hk⟩
  · rintro ⟨h1, h2⟩
    obtain ⟨j, hj, rfl⟩ := nI_of (Int32.not_lt.mpr h1)
    exact ⟨h1, nI_le (by have := (nI_ltI hj hk).mp h2; omega) (by omega)⟩
-- the tape
def vFb (w : Int32) (j : Nat) : Int32 := (w >>> (nI (24 - 8 * j) &&& 31)).toInt8.toInt32
def vApp (q : Nat × (Nat → Int32)) (w : Int32) : Nat × (Nat → Int32) := (q.1 + 4, fun i => if i < q.1 then q.2 i else vFb w (i - q.1))
def sFeed (σ : vS) (a b c d e : Int32) : vS := if (sN σ) + 20 ≤ 2000 then uT σ (vApp (vApp (vApp (vApp (vApp ((sN σ), (sB σ)) a) b) c) d) e).1 (vApp (vApp (vApp (vApp (vApp ((sN σ), (sB σ)) a) b) c) d) e).2 else σ
def aFeed (σ : vS) : Int32 := if (sN σ) + 20 ≤ 2000 then nI ((sN σ) + 20) else -1
def aBack (σ : vS) (x : Int32) : Int32 := vDo (-1) ((sN σ) + 1) x fun k => nI ((sN σ) - k)
def sBack (σ : vS) (x : Int32) : vS := vDo σ ((sN σ) + 1) x fun k => uT σ (sN σ - k) (sB σ)
-- what is there
noncomputable def aSlide (σ : vS) (s w : Int32) : Int32 := vDo (-1) (tN (sT σ)) s fun s => if w = 0 then tL (sT σ) s else if w = 1 then tR (sT σ) s else if w = 2 then tB (sT σ) s else if w = 3 then vShow (sT σ) (sC σ) (nI s) else -1
noncomputable def aPerson (σ : vS) (p w : Int32) : Int32 := vDo (-1) (tM (sT σ)) p fun p => if w = 0 then tW (sT σ) p else if w = 1 then vPic (sT σ) (sC σ) p else if w = 2 then nI (cS (sC σ) p) else if w = 3 then nI (vJoins (sT σ) (sC σ) p) else if w = 4 then vPays (sT σ) (sC σ) p else if w = 5 then vWashes (sT σ) (sC σ) p else if w = 6 then vTot (sT σ) (sC σ) p else -1
def aGlow (σ : vS) (p s : Int32) : Int32 := vDo (-1) (tM (sT σ)) p fun p => vDo (-1) (tN (sT σ)) s fun s => cG (sC σ) (p * 5 + s)
noncomputable def aTells (σ : vS) (p s w : Int32) : Int32 := vDo (-1) (tM (sT σ)) p fun p => vDo (-1) (tN (sT σ)) s fun s => if w = 0 then vTakes (sT σ) (sC σ) p (nI s) else if w = 1 then vFades (sT σ) (sC σ) p (nI s) else -1
noncomputable def aJoin (σ : vS) (p o : Int32) : Int32 := vDo (-1) (tM (sT σ)) p fun p => vDo (-1) (tM (sT σ)) o fun o => if p = o then -1 else vB (vJ (sT σ) (sC σ) p o)
def aSeat (σ : vS) (k : Int32) : Int32 := vDo (-1) (tM (sT σ)) k fun k => nI (cR (sC σ) k)
-- things done
def uP (σ : vS) (c : vSc) : vS := uC σ c (vPushN (sK σ)) (vPush (sK σ) (sH σ) (sC σ))
noncomputable def aShow (σ : vS) (p s : Int32) : Int32 := vDo (-1) (tM (sT σ)) p fun p => vDo (-1) (tN (sT σ)) s fun s => vPic (sT σ) (vThrow (sT σ) (sC σ) p s) p
noncomputable def sShow (σ : vS) (p s : Int32) : vS := vDo σ (tM (sT σ)) p fun p => vDo σ (tN (sT σ)) s fun s => uP σ (vThrow (sT σ) (sC σ) p s)
noncomputable def aWash (σ : vS) (p : Int32) : Int32 := vDo (-1) (tM (sT σ)) p fun p => if vPic (sT σ) (sC σ) p < 0 then -1 else vTot (sT σ) (vRinse (sT σ) (sC σ) p) p
noncomputable def sWash (σ : vS) (p : Int32) : vS := vDo σ (tM (sT σ)) p fun p => if vPic (sT σ) (sC σ) p < 0 then σ else uP σ (vRinse (sT σ) (sC σ) p)
def aGo (σ : vS) (p s : Int32) : Int32 := vDo 0 (tM (sT σ)) p fun p => vDo 0 (tM (sT σ)) s fun s => if cS (sC σ) p = s then 0 else 1
def sGo (σ : vS) (p s : Int32) : vS := vDo σ (tM (sT σ)) p fun p => vDo σ (tM (sT σ)) s fun s => if cS (sC σ) p = s then σ else uP σ (vMove (sC σ) p s)
noncomputable def vGo (t : vSt) (e z : Int32) (c : vSc) : Nat → vSc
  | 0 => c
  | n + 1 => vWeek t (vGo t e z c n) (if z = 0 then 0 else vWashers t (vGo t e z c n) e)
theorem vGo_ok {t : vSt} {e z : Int32} {c : vSc} (h : vCok t c) : ∀ n, vCok t (vGo t e z c n)
  | 0 => h
  | n + 1 => vWeek_ok (vGo_ok h n)
noncomputable def aWeeks (σ : vS) (n : Int32) : Int32 := vDo (-1) 61 n fun n => cK (vGo (sT σ) (tS (sT σ)) 1 (sC σ) n)
noncomputable def sWeeks (σ : vS) (n : Int32) : vS := vDo σ 61 n fun n => if n = 0 then σ else uP σ (vGo (sT σ) (tS (sT σ)) 1 (sC σ) n)
def aUndo (σ : vS) : Int32 := if (sK σ) = 0 then 0 else 1
def sUndo (σ : vS) : vS := if (sK σ) = 0 then σ else uC σ (sH σ (sK σ - 1)) (sK σ - 1) (sH σ)
-- rows
noncomputable def aBestRow (σ : vS) (i : Int32) : Int32 := if i = -1 then nI (vB1 (vNx (sT σ) (sC σ)) (tM (sT σ)) (tM (sT σ)) 7 0) - 1 else vDo (-1) (tM (sT σ)) i fun i => nI ((vBp (vNx (sT σ) (sC σ)) (tM (sT σ)) (tM (sT σ)) 7 0).getD i 0)
noncomputable def aFullRows (σ : vS) : Int32 := nI (vFu (vNx (sT σ) (sC σ)) (tM (sT σ)) (tM (sT σ)) 7 0)
noncomputable def aRings (σ : vS) : Int32 := nI (vCl (vNx (sT σ) (sC σ)) (tM (sT σ)) (tM (sT σ)) 7 0 0)
noncomputable def aLongest (σ : vS) (i : Int32) : Int32 := if i = -1 then nI (vLg (vNx (sT σ) (sC σ)) (tM (sT σ)) (tM (sT σ)) 7 0) else vDo (-1) (vLg (vNx (sT σ) (sC σ)) (tM (sT σ)) (tM (sT σ)) 7 0) i fun i => nI ((vLp (vNx (sT σ) (sC σ)) (tM (sT σ)) (tM (sT σ)) 7 0).getD i 0)
noncomputable def aWay (σ : vS) (p o : Int32) : Int32 := vDo (-1) (tM (sT σ)) p fun p => vDo (-1) (tM (sT σ)) o fun o => vSteps (vNx (sT σ) (sC σ)) (tM (sT σ)) o (tM (sT σ)) 0 (2 ^ p)
def aMend (σ : vS) (i : Int32) : Int32 := if i = -1 then vMended (sT σ) (sC σ) (-1) else vDo (-1) (tM (sT σ)) i fun i => vMended (sT σ) (sC σ) (nI i)
noncomputable def aGame (σ : vS) (w : Int32) : Int32 := if w = 1 then vWst (tM (sT σ)) (vSh (sT σ) (sC σ)) (vNx (sT σ) (sC σ)) else if w = 0 then (if vWst (tM (sT σ)) (vSh (sT σ) (sC σ)) (vNx (sT σ) (sC σ)) = -2 then 2 else 1) else -1
-- what would be
def vBe (f : Nat → Int32) (i0 : Int32) : Nat → Int32 × Int32
  | 0 => (i0, i0)
  | n + 1 => if (vBe f i0 n).2 < f n then (nI n, f n) else vBe f i0 n
noncomputable def aBest (σ : vS) (p w : Int32) : Int32 := vDo (-1) (tM (sT σ)) p fun p => if w = 0 then (vBe (fun s => vRowJoins (sT σ) (vThrow (sT σ) (sC σ) p s)) (-2) (tN (sT σ))).1 else if w = 1 then (vBe (fun s => vRowJoins (sT σ) (vThrow (sT σ) (sC σ) p s)) (-2) (tN (sT σ))).2 else -1
noncomputable def aWhere (σ : vS) (p w : Int32) : Int32 := vDo (-1) (tM (sT σ)) p fun p => if w = 0 then (vBe (fun s => vRowJoins (sT σ) (vMove (sC σ) p s)) (-1) (tM (sT σ))).1 else if w = 1 then (vBe (fun s => vRowJoins (sT σ) (vMove (sC σ) p s)) (-1) (tM (sT σ))).2 else -1
noncomputable def aWorth (σ : vS) (n : Int32) : Int32 := vDo (-1) 61 n fun n => cP (vGo (sT σ) (tS (sT σ)) 0 (sC σ) n) - cP (sC σ)
noncomputable def vUn (P : Nat → Prop) : Nat → Nat → Int32
  | 0, k => @ite _ (P k) (Classical.propDecidable _) (nI k) (-2)
  | d + 1, k => @ite _ (P k) (Classical.propDecidable _) (nI k) (vUn P d (k + 1))
theorem vUn_y {P : Nat → Prop} {d k : Nat} (h : P k) : vUn P d k = nI k := by cases d <;> simp [vUn, h]
theorem vUn_n {P : Nat → Prop} {d k : Nat} (h : ¬ P k) : vUn P (d + 1) k = vUn P d (k + 1) := by simp [vUn, h]
theorem vUn_0 {P : Nat → Prop} {k : Nat} (h : ¬ P k) : vUn P 0 k = -2 := by simp [vUn, h]
noncomputable def aPlainIn (σ : vS) (p : Int32) : Int32 := vDo (-1) (tM (sT σ)) p fun p => vUn (fun n => vPic (sT σ) (vGo (sT σ) (tS (sT σ)) 0 (sC σ) n) p < 0) 100 0
noncomputable def aTurns (σ : vS) (p : Int32) : Int32 := vDo (-1) (tM (sT σ)) p fun p => if vPic (sT σ) (sC σ) p < 0 then -2 else vUn (fun n => ¬ vPic (sT σ) (vGo (sT σ) (tS (sT σ)) 0 (sC σ) n) p = vPic (sT σ) (sC σ) p) 100 0
noncomputable def aLike (σ : vS) (p : Int32) : Int32 := vDo (-1) (tM (sT σ)) p fun p => if vPic (sT σ) (sC σ) p < 0 then 0 else vShow (sT σ) (sC σ) (vPic (sT σ) (sC σ) p) &&& ((1 <<< (nI p &&& 31)) ^^^ (-1))
noncomputable def vLonely (t : vSt) (c : vSc) : Nat := (2 ^ tM t - 1) &&& (63 ^^^ vBf (vNx t c) (tM t))
noncomputable def aLonely (σ : vS) : Int32 := nI (vLonely (sT σ) (sC σ))
def aBrightest (σ : vS) (w : Int32) : Int32 := if w = 0 then (vPk (vShine (sT σ) (sC σ)) (tM (sT σ))).1 else if w = 1 then (if (vPk (vShine (sT σ) (sC σ)) (tM (sT σ))).1 = -2 then -2 else (vPk (vShine (sT σ) (sC σ)) (tM (sT σ))).2.1) else -1
noncomputable def aOpen (σ : vS) : Int32 := vBits (fun k => ¬ vJ (sT σ) (sC σ) (cR (sC σ) k) (cR (sC σ) (k + 1))) (tM (sT σ) - 1)
def aShare (σ : vS) (p : Int32) : Int32 := vDo (-1) (tM (sT σ)) p fun p => if vTot (sT σ) (sC σ) p ≤ 0 then 0 else vShine (sT σ) (sC σ) p * 1000 / vTot (sT σ) (sC σ) p
noncomputable def aThen (σ : vS) (p n : Int32) : Int32 := vDo (-1) (tM (sT σ)) p fun p => vDo (-1) 61 n fun n => vPic (sT σ) (vGo (sT σ) (tS (sT σ)) 1 (sC σ) n) p
noncomputable def aPaidIn (σ : vS) (n : Int32) : Int32 := vDo (-1) 61 n fun n => cP (vGo (sT σ) (tS (sT σ)) 1 (sC σ) n)
noncomputable def aYear (σ : vS) (p n s : Int32) : Int32 := vDo (-1) (tM (sT σ)) p fun p => vDo (-1) 61 n fun n => vDo (-1) 21 s fun s => if s = 0 then -1 else vSum (fun i => vB (vPic (sT σ) (vGo (sT σ) (tS (sT σ) + nI i) 1 (sC σ) n) p < 0)) s
-- which picture one had
def aTell (σ : vS) (m v : Int32) : Int32 := vDo (-1) 4 m fun _ => vDo (-1) 21 v fun _ => if (sD σ).1 = 20 then -1 else nI (sD σ).1
def sTell (σ : vS) (m v : Int32) (b : Bool) : vS := vDo σ 4 m fun m => vDo σ 21 v fun v => uD σ (vTell (sD σ) m (nI v) b)
def aForget (σ : vS) : Int32 := nI (sD σ).1
def sForget (σ : vS) : vS := uD σ (0, (sD σ).2)
noncomputable def aWhich (σ : vS) (k w : Int32) : Int32 := vDo (-1) ((sD σ).1 + 1) k fun k => if w = 0 then nI (ub_ct (vWhich (sT σ) (sC σ) (sD σ) k)) else if w = 1 then nI (vWhich (sT σ) (sC σ) (sD σ) k) else -1
noncomputable def aLook (σ : vS) (k v : Int32) : Int32 := vDo (-1) ((sD σ).1 + 1) k fun k => vDo (-1) 21 v fun v => vLook (sT σ) (sC σ) (sD σ) k (nI v)
-- slots
def aHold (s : Int32) : Int32 := vDo 0 3 s fun _ => 1
def sHold (σ : vS) (s : Int32) : vS := vDo σ 3 s fun s => uL σ (fun i => if i = s then some (sC σ) else sL σ i)
def aRestore (σ : vS) (s : Int32) : Int32 := vDo 0 3 s fun s => match (sL σ) s with
  | none => 0
  | some _ => 1
def sRestore (σ : vS) (s : Int32) : vS := vDo σ 3 s fun s => match (sL σ) s with
  | none => σ
  | some c => uC σ c 0 (sH σ)
-- counts
noncomputable def aCount (σ : vS) (w : Int32) : Int32 :=
  if w = 0 then nI (tN (sT σ)) else if w = 1 then nI (tM (sT σ)) else if w = 2 then cK (sC σ) else if w = 3 then vRowJoins (sT σ) (sC σ) else if w = 4 then vShow (sT σ) (sC σ) (-2)
  else if w = 5 then vSum (vPays (sT σ) (sC σ)) (tM (sT σ)) else if w = 6 then cP (sC σ) else if w = 7 then vSum (vTot (sT σ) (sC σ)) (tM (sT σ)) else if w = 8 then nI (sN σ) else if w = 9 then nI (sK σ) else if w = 10 then nI (sD σ).1
  else if w = 11 then nI (ub_ct (vMask (sL σ))) else if w = 12 then vBits (fun s => ¬ vShow (sT σ) (sC σ) (nI s) = 0) (tN (sT σ)) else if w = 13 then vWashers (sT σ) (sC σ) (tS (sT σ))
  else if w = 14 then vSum (fun p => nI (ub_ct (vNx (sT σ) (sC σ) p))) (tM (sT σ)) else if w = 15 then vSum (tW (sT σ)) (tM (sT σ)) else if w = 16 then vBits (fun p => nI (vJoins (sT σ) (sC σ) p) = 2) (tM (sT σ)) else if w = 17 then nI (ub_ct (vLonely (sT σ) (sC σ))) else -1
/-- what always holds of a state -/
def vOk (σ : vS) : Prop := vTok (sT σ) ∧ vCok (sT σ) (sC σ) ∧ (sN σ) ≤ 2000 ∧ (sK σ) ≤ 40 ∧ (∀ i, i < (sK σ) → vCok (sT σ) ((sH σ) i)) ∧ (∀ i, i < 3 → ∀ c, (sL σ) i = some c → vCok (sT σ) c) ∧ (sD σ).1 ≤ 20
-- THE CLASS: its cells of a state
def xTape (n : Nat) (tb : Nat → Int32) (g : xG) : Prop := g.1 1 1 = nI n ∧ ∀ i, i < n → g.1 2 i = tb i
def xTop (σ : vS) (g : xG) : Prop := vOk σ ∧ xIn 11 (sT σ) (sC σ) g ∧ xTape (sN σ) (sB σ) g ∧ g.1 0 8 = (sP σ) ∧ xShelf (sK σ) (sH σ) (sL σ) g ∧ xTold (sD σ) g
/-- the cells that only serve a call may change -/
def xQf (g g' : xG) : Prop := (∀ k, (k ≤ 2 ∨ (11 ≤ k ∧ k ≤ 17) ∨ (29 ≤ k ∧ k ≤ 37) ∨ k = 47 ∨ k = 48 ∨ 54 ≤ k) → g'.1 k = g.1 k) ∧ g'.2.2 11 = g.2.2 11
theorem xQf.rf {g : xG} : xQf g g := ⟨fun _ _ => rfl, rfl⟩
theorem xQf.tr {g g1 g2 : xG} (h : xQf g g1) (h2 : xQf g1 g2) : xQf g g2 := ⟨fun k q => (h2.1 k q).trans (h.1 k q), h2.2.trans h.2⟩
theorem xFr.Q {lo hi : Nat} {g g' : xG} (h : xFr lo hi g g') (e : (18 ≤ lo ∧ hi ≤ 28) ∨ (49 ≤ lo ∧ hi ≤ 53) ∨ (38 ≤ lo ∧ hi ≤ 46) ∨ (3 ≤ lo ∧ hi ≤ 10)) : xQf g g' := ⟨fun k q => h.2 k (by omega), by rw [h.1]⟩
theorem xFrR.Q {g g' : xG} (h : xFrR 20 g g') : xQf g g' := ⟨fun k q => h.1 k (by omega), h.2.2 11 (by decide)⟩
theorem xRw.Q {g g' : xG} (h : xRw g g') : xQf g g' := ⟨fun k q => h.2.1 k (by omega) (by omega) (by omega), by rw [h.1]⟩
theorem xRaw.fr2 {b : Nat} {c : vSc} {g g' : xG} (h : xRaw b c g) (h2 : g'.2.2 b = g.2.2 b) (hk : ∀ k, b ≤ k → k < b + 3 → g'.1 k = g.1 k) : xRaw b c g' := by
  obtain ⟨h0, h1, h3, h4, h5⟩ := h
  refine ⟨by rw [h2]; exact h0, fun i hi => ?_, fun k hk6 => ?_, ?_, ?_⟩
  · rw [hk (b + 1) (by omega) (by omega)]; exact h1 i hi
  · rw [hk (b + 2) (by omega) (by omega)]; exact h3 k hk6
  · rw [hk b (by omega) (by omega)]; exact h4
  · rw [hk b (by omega) (by omega)]; exact h5
theorem xScn.fr2 {b : Nat} {t : vSt} {c : vSc} {g g' : xG} (h : xScn b t c g) (h2 : g'.2.2 b = g.2.2 b) (hk : ∀ k, b ≤ k → k < b + 7 → g'.1 k = g.1 k) : xScn b t c g' := by
  refine ⟨h.1.fr2 h2 (fun k h1 h3 => hk k h1 (by omega)), fun p hp => ?_⟩
  rw [hk (b + 3) (by omega) (by omega), hk (b + 4) (by omega) (by omega), hk (b + 5) (by omega) (by omega), hk (b + 6) (by omega) (by omega)]
  exact h.2 p hp
theorem xIn.Q {t : vSt} {c : vSc} {g g' : xG} (h : xIn 11 t c g) (q : xQf g g') : xIn 11 t c g' := ⟨Or.inl rfl, h.2.1, h.2.2.1.fr (fun k h1 h2 => q.1 k (by omega)), h.2.2.2.fr2 q.2 (fun k h1 h2 => q.1 k (by omega))⟩
theorem xTape.fr {n : Nat} {tb : Nat → Int32} {g g' : xG} (h : xTape n tb g) (e1 : g'.1 1 = g.1 1) (e2 : g'.1 2 = g.1 2) : xTape n tb g' := ⟨by rw [e1]; exact h.1, fun i hi => by rw [e2]; exact h.2 i hi⟩
theorem xTop.Q {σ : vS} {g g' : xG} (h : xTop σ g) (q : xQf g g') : xTop σ g' :=
  ⟨h.1, h.2.1.Q q, h.2.2.1.fr (q.1 1 (by omega)) (q.1 2 (by omega)), by rw [q.1 0 (by omega)]; exact h.2.2.2.1, h.2.2.2.2.1.fr (q.1 47 (by omega)) (q.1 48 (by omega)), h.2.2.2.2.2.fr (fun k hk => q.1 k (by omega))⟩
theorem xTop.i {σ : vS} {g : xG} (h : xTop σ g) : xIn 11 (sT σ) (sC σ) g := h.2.1
theorem xTop.c {σ : vS} {g : xG} (h : xTop σ g) : vCok (sT σ) (sC σ) := h.1.2.1
theorem xTop.m {σ : vS} {g : xG} (h : xTop σ g) : g.1 29 9 = nI (tM (sT σ)) := h.2.1.m
theorem xTop.n {σ : vS} {g : xG} (h : xTop σ g) : g.1 29 8 = nI (tN (sT σ)) := h.2.1.n
theorem xTop.m6 {σ : vS} {g : xG} (h : xTop σ g) : tM (sT σ) ≤ 6 := h.1.1.2.1
theorem xTop.n5 {σ : vS} {g : xG} (h : xTop σ g) : tN (sT σ) ≤ 5 := h.1.1.1
-- who is there
def vIs (m : Nat) (x : Int32) : Int32 := if 0 ≤ x ∧ x < nI m then 1 else 0
theorem vIs_y {m p : Nat} (h : p < m) (hm : m < 2 ^ 31) : vIs m (nI p) = 1 := by rw [vIs, if_pos (vDo_is h hm)]
theorem vIs_n {m : Nat} {x : Int32} (h : ¬ (0 ≤ x ∧ x < nI m)) : vIs m x = 0 := by rw [vIs, if_neg h]
def xt_X8_isPerson : xT := xm_fn (Z := Int32 × Nat) (fun (x, m) av g => av = [.ref 0, .int x] ∧ g.1 29 9 = nI m) (fun (x, m) _ => some (.int (vIs m x))) (fun _ g => g)
set_option maxRecDepth 100000 in
set_option maxHeartbeats 400000 in
theorem xp_X8_isPerson {l : Launch} {D : va_G} {cA : Nat → ClassId} {B : List (Nat × Cell)} : xm_Met l D cA B xs_X 0 yX8_isPerson cX8_isPerson 2 (some .boolean) xt_X8_isPerson := by
  have hm : xm_monos [] := xm_m0
  refine xm_meth (own := RX8) (ks := xk_X8_isPerson) (C := xc_X8_isPerson) (Ts := []) (by decide +kernel) rfl xm_clsok xs_X_ok xf_X8_ok xi_X8_ok xj_X8_ok xm_lk0 xo_X8_isPerson ?_ ?_
  · rintro av g Q ⟨z, ⟨rfl, -⟩, -⟩
    exact Nat.le_of_ble_eq_true rfl
  · rintro av g Q ⟨⟨x, m⟩, ⟨rfl, h⟩, hQ⟩
    dsimp only at h hQ
    unfold vIs at hQ
    refine xm_run_go hm 20 ⟨fun z => ⟨Or.inl rfl, xq_i hQ ?_⟩, fun z => ⟨fun y => ⟨Or.inl rfl, xq_i hQ ?_⟩, fun y => ⟨Or.inr rfl, xq_i hQ ?_⟩⟩⟩
    · rw [if_neg (fun q => absurd q.1 (Int32.not_le.mpr z))]
    · rw [h] at y
      rw [if_neg (fun q => absurd q.2 (Int32.not_lt.mpr y))]
    · rw [h] at y
      rw [if_pos ⟨z, y⟩]
def xt_X8_isSlide : xT := xm_fn (Z := Int32 × Nat) (fun (x, m) av g => av = [.ref 0, .int x] ∧ g.1 29 8 = nI m) (fun (x, m) _ => some (.int (vIs m x))) (fun _ g => g)
set_option maxRecDepth 100000 in
set_option maxHeartbeats 400000 in
theorem xp_X8_isSlide {l : Launch} {D : va_G} {cA : Nat → ClassId} {B : List (Nat × Cell)} : xm_Met l D cA B xs_X 0 yX8_isSlide cX8_isSlide 2 (some .boolean) xt_X8_isSlide := by
  have hm : xm_monos [] := xm_m0
  refine xm_meth (own := RX8) (ks := xk_X8_isSlide) (C := xc_X8_isSlide) (Ts := []) (by decide +kernel) rfl xm_clsok xs_X_ok xf_X8_ok xi_X8_ok xj_X8_ok xm_lk0 xo_X8_isSlide ?_ ?_
  · rintro av g Q ⟨z, ⟨rfl, -⟩, -⟩
    exact Nat.le_of_ble_eq_true rfl
  · rintro av g Q ⟨⟨x, m⟩, ⟨rfl, h⟩, hQ⟩
    dsimp only at h hQ
    unfold vIs at hQ
    refine xm_run_go hm 20 ⟨fun z => ⟨Or.inl rfl, xq_i hQ ?_⟩, fun z => ⟨fun y => ⟨Or.inl rfl, xq_i hQ ?_⟩, fun y => ⟨Or.inr rfl, xq_i hQ ?_⟩⟩⟩
    · rw [if_neg (fun q => absurd q.1 (Int32.not_le.mpr z))]
    · rw [h] at y
      rw [if_neg (fun q => absurd q.2 (Int32.not_lt.mpr y))]
    · rw [h] at y
      rw [if_pos ⟨z, y⟩]
def xt_X8_isIn : xT := xm_fn (Z := Int32 × Int32 × Int32) (fun (x, lo, hi) av g => av = [.int x, .int lo, .int hi] ∧ True) (fun (x, lo, hi) _ => some (.int (if lo ≤ x ∧ x ≤ hi then 1 else 0))) (fun _ g => g)
set_option maxRecDepth 100000 in
set_option maxHeartbeats 400000 in
theorem xp_X8_isIn {l : Launch} {D : va_G} {cA : Nat → ClassId} {B : List (Nat × Cell)} : xm_Met l D cA B xs_X 0 yX8_isIn cX8_isIn 3 (some .boolean) xt_X8_isIn := by
  have hm : xm_monos [] := xm_m0
  refine xm_meth (own := RX8) (ks := xk_X8_isIn) (C := xc_X8_isIn) (Ts := []) (by decide +kernel) rfl xm_clsok xs_X_ok xf_X8_ok xi_X8_ok xj_X8_ok xm_lk0 xo_X8_isIn ?_ ?_
  · rintro av g Q ⟨z, ⟨rfl, -⟩, -⟩
    exact Nat.le_of_ble_eq_true rfl
  · rintro av g Q ⟨⟨x, lo, hi⟩, ⟨rfl, -⟩, hQ⟩
    dsimp only at hQ
    refine xm_run_go hm 20 ⟨fun z => ⟨Or.inl rfl, xq_i hQ ?_⟩, fun z => ⟨fun y => ⟨Or.inl rfl, xq_i hQ ?_⟩, fun y => ⟨Or.inr rfl, xq_i hQ ?_⟩⟩⟩
    · rw [if_neg (fun q => absurd q.1 (Int32.not_le.mpr z))]
    · rw [if_neg (fun q => absurd q.2 (Int32.not_le.mpr y))]
    · rw [if_pos ⟨z, y⟩]
theorem vIn_n {k : Nat} {x hi : Int32} (hh : hi = nI k) (hk : k + 1 < 2 ^ 31) (h : ¬ (0 ≤ x ∧ x < nI (k + 1))) : (if 0 ≤ x ∧ x ≤ hi then (1 : Int32) else 0) = 0 := by rw [if_neg (by rw [hh]; exact fun z => h ((vR_is x hk).mp z))]
theorem vIn_y {k p : Nat} {hi : Int32} (hh : hi = nI k) (hk : k + 1 < 2 ^ 31) (h : p < k + 1) : (if 0 ≤ nI p ∧ nI p ≤ hi then (1 : Int32) else 0) = 1 := by rw [if_pos (by rw [hh]; exact (vR_is _ hk).mpr (vDo_is h hk))]
