-- THE CLASS READS: a law
def xt_X5_beginLaw : xT := xm_fn (Z := Nat × Nat) (fun (l, z) av g => av = [.ref 38, .int (nI l)] ∧ l < 4 ∧ g.1 38 12 = nI z) (fun _ _ => none) (fun (l, z) g => xm_sI g 46 l (nI z))
set_option maxRecDepth 100000 in
set_option maxHeartbeats 400000 in
theorem xp_X5_beginLaw {l : Launch} {D : va_G} {cA : Nat → ClassId} {B : List (Nat × Cell)} : xm_Met l D cA B xs_X 0 yX5_beginLaw cX5_beginLaw 2 none xt_X5_beginLaw := by
  have hm : xm_monos [] := xm_m0
  refine xm_meth (own := RX5) (ks := xk_X5_beginLaw) (C := xc_X5_beginLaw) (Ts := []) (by decide +kernel) rfl xm_clsok xs_X_ok xf_X5_ok xi_X5_ok xj_X5_ok xm_lk0 xo_X5_beginLaw ?_ ?_
  · rintro av g Q ⟨z, ⟨rfl, -⟩, -⟩
    exact Nat.le_of_ble_eq_true rfl
  · rintro av g Q ⟨⟨l, z⟩, ⟨rfl, hl, h⟩, hQ⟩
    dsimp only at hl h hQ
    rw [← h] at hQ
    exact xm_run_go hm 20 ⟨fun w => absurd w (nI_pos (by omega)), fun _ => ⟨fun w => absurd w (nI_ge (b := 4) hl (by decide)), fun _ => ⟨l, ⟨hl, rfl⟩, hQ⟩⟩⟩
def uHere (h z : Nat) (g : xG) : xG := if h < 408 then xm_sI g 45 h (nI z) else g
def xt_X5_goOnHere : xT := xm_fn (Z := Nat × Nat) (fun (h, z) av g => av = [.ref 38, .int (nI h)] ∧ h ≤ 408 ∧ g.1 38 12 = nI z) (fun _ _ => none) (fun (h, z) g => uHere h z g)
set_option maxRecDepth 100000 in
set_option maxHeartbeats 400000 in
theorem xp_X5_goOnHere {l : Launch} {D : va_G} {cA : Nat → ClassId} {B : List (Nat × Cell)} : xm_Met l D cA B xs_X 0 yX5_goOnHere cX5_goOnHere 2 none xt_X5_goOnHere := by
  have hm : xm_monos [] := xm_m0
  refine xm_meth (own := RX5) (ks := xk_X5_goOnHere) (C := xc_X5_goOnHere) (Ts := []) (by decide +kernel) rfl xm_clsok xs_X_ok xf_X5_ok xi_X5_ok xj_X5_ok xm_lk0 xo_X5_goOnHere ?_ ?_
  · rintro av g Q ⟨z, ⟨rfl, -⟩, -⟩
    exact Nat.le_of_ble_eq_true rfl
  · rintro av g Q ⟨⟨h, z⟩, ⟨rfl, hh, e⟩, hQ⟩
    dsimp only at hh e hQ
    unfold uHere at hQ
    by_cases c : h < 408
    · rw [if_pos c, ← e] at hQ
      exact xm_run_go hm 20 ⟨fun w => absurd w (nI_pos (by omega)), fun _ => ⟨fun w => absurd w (nI_ge (b := 408) c (by decide)), fun _ => ⟨h, ⟨c, rfl⟩, hQ⟩⟩⟩
    · rw [if_neg c] at hQ
      exact xm_run_go hm 20 ⟨fun w => absurd w (nI_pos (by omega)), fun _ => ⟨fun _ => hQ, fun w => absurd ((nI_ltI (b := 408) (by omega) (by decide)).mp w) c⟩⟩
def xTr (a : Nat) (X : Nat → List (vX × vX × vX) × vX) (g : xG) : Prop := ∃ sz, sz ≤ a + 8 ∧ sz ≤ 408 ∧ g.1 38 12 = nI sz ∧ ∀ i, i < 4 → ∃ st, g.1 46 i = nI st ∧ xLw (g.1 45) sz st (X i).1 (X i).2
theorem xFs.tk {g g1 : xG} (h : xFs g g1) (b : Bool) (a : Nat) : xFs g (uTake b a g1) := by
  have f := (xFw.rf (g := g1)).tk b a
  have l := uTake_late b a g1
  refine ⟨f.1.trans h.1, fun k a b c d => (f.2.1 k a).trans (h.2.1 k a b c d), fun j hj => by rw [f.2.1 38 (by decide)]; exact h.2.2.1 j hj, fun j hj => ?_⟩
  rcases hj with hj | hj
  · exact (f.2.2 j (by omega)).trans (h.2.2.2 j (Or.inl hj))
  · exact (l j (by omega)).trans (h.2.2.2 j (Or.inr hj))
theorem xFs.he {g g1 : xG} (h : xFs g g1) (n z : Nat) : xFs g (uHere n z g1) := by
  unfold uHere
  split
  · exact h.pc _ _
  · exact h
theorem uTake_c (b : Bool) (a : Nat) (g : xG) {c : Nat} (h : c ≠ 3) : (uTake b a g).1 c = g.1 c := (xFw.rf.tk b a).2.1 c h
theorem uHere_c {n z c : Nat} {g : xG} (h : c ≠ 45) : (uHere n z g).1 c = g.1 c := by
  unfold uHere
  split
  · rw [xg_off _ _ _ h]
  · rfl
theorem uEmit_z {v : Int32} {z : Nat} {g : xG} (h : g.1 38 12 = nI z) (hz : z ≤ 408) : ∃ y, y ≤ 408 ∧ (uEmit v z g).1 38 12 = nI y := by
  unfold uEmit
  split
  · exact ⟨z + 1, by omega, by rw [xg_in, if_pos rfl]⟩
  · exact ⟨z, hz, h⟩
theorem uEmit_3 (v : Int32) (z : Nat) (g : xG) (j : Nat) : (uEmit v z g).1 3 j = g.1 3 j := by
  unfold uEmit
  split
  · rw [xg_off _ _ _ (by decide), xg_off _ _ _ (by decide)]
  · rfl
theorem uEmit_45 {v : Int32} {z : Nat} {g : xG} (hz : z < 408) (j : Nat) : (uEmit v z g).1 45 j = if j = z then v else g.1 45 j := by
  unfold uEmit
  rw [if_pos hz, xg_off _ _ _ (by decide), xg_in]
theorem uEmit_12 {v : Int32} {z : Nat} {g : xG} (hz : z < 408) : (uEmit v z g).1 38 12 = nI (z + 1) := by
  unfold uEmit
  rw [if_pos hz, xg_in, if_pos rfl]
theorem xEx {k : vTk} {N z : Nat} {r : pF ⊕ Nat} {g g' : xG} (tk : xTk k N g) (hat : xAt N r g)
    (h : xFs g g' ∧ (∀ j, j < z → g'.1 45 j = g.1 45 j) ∧ (∃ y, y ≤ 408 ∧ g'.1 38 12 = nI y) ∧ (∀ f p, xFt f p g → xFt f p g') ∧ (g.1 3 8 = 0 → (∀ f p, pE k (401 - pAa r) (pAa r) 0 [] [] true = .inl (f, p) → xFt f p g') ∧ ∀ a' e, pE k (401 - pAa r) (pAa r) 0 [] [] true = .inr (a', e) → g'.1 3 8 = 0 ∧ g'.1 3 7 = nI a' ∧ g'.1 38 12 = nI (z + e.length) ∧ xCd g' z e)) :
    xAt N (pFs (pBn r (pEx k))) g' ∧ ∀ a' e, pBn r (pEx k) = .inr (a', e) → g'.1 38 12 = nI (z + e.length) ∧ xCc (g'.1 45) z e := by
  obtain ⟨-, -, -, h4, h5⟩ := h
  cases r with
  | inl q => exact ⟨h4 q.1 q.2 hat, fun a' e h => by cases h⟩
  | inr a =>
    obtain ⟨h13, h11, aN⟩ := hat
    obtain ⟨y1, y2⟩ := h5 h13
    rw [pBn_r]
    cases he : pEx k a with
    | inl q => exact ⟨y1 q.1 q.2 he, fun a' e h => by cases h⟩
    | inr q =>
      obtain ⟨a', e⟩ := q
      obtain ⟨x1, x2, x3, x4⟩ := y2 a' e he
      exact ⟨⟨x1, x2, pE_N tk.2.1 _ _ _ _ _ _ aN a' e he⟩, fun a'' e' h => by cases h; exact ⟨x3, x4⟩⟩
theorem xEx_pre {k : vTk} {N z : Nat} {r : pF ⊕ Nat} {g : xG} (tk : xTk k N g) (hat : xAt N r g) (h : ∀ a, r = .inr a → z ≤ a + 7) : (g.1 3 8 = 0 ∧ xTk k N g ∧ pAa r ≤ N ∧ g.1 3 7 = nI (pAa r) ∧ z ≤ pAa r + 7) ∨ ∃ f p, xFt f p g := by
  cases r with
  | inl q => exact Or.inr ⟨q.1, q.2, hat⟩
  | inr a => exact Or.inl ⟨hat.1, tk, hat.2.2, hat.2.1, h a rfl⟩
def xSm' (k : vTk) (N z : Nat) (r : pF ⊕ Nat) (g g' : xG) : Prop := xFs g g' ∧ (∀ j, j < z → g'.1 45 j = g.1 45 j) ∧ (∃ y, y ≤ 408 ∧ g'.1 38 12 = nI y) ∧ (∀ f p, xFt f p g → xFt f p g') ∧ (g.1 3 8 = 0 → (∀ f p, pE k (401 - pAa r) (pAa r) 0 [] [] true = .inl (f, p) → xFt f p g') ∧ ∀ a' e, pE k (401 - pAa r) (pAa r) 0 [] [] true = .inr (a', e) → g'.1 3 8 = 0 ∧ g'.1 3 7 = nI a' ∧ g'.1 38 12 = nI (z + e.length) ∧ xCd g' z e)
def pLx (k : vTk) (a : Nat) : pF ⊕ (Nat × List (vX × vX × vX) × vX) := pBn (pBn (pGo k a) (pMu k 61)) fun a2 => pIfs k 4 a2 []
def pF3 (W : pF ⊕ (Nat × List (vX × vX × vX) × vX)) : pF ⊕ Nat := pBn W (fun q => .inr q.1)
theorem pIfs_no {k : vTk} {m a : Nat} {bs : List (vX × vX × vX)} (h : k.1 a ≠ 136) : pIfs k m a bs = pBn (pEx k a) fun e => .inr (e.1, bs, e.2) := by
  cases m <;> (unfold pIfs; rw [if_neg h])
/-- what telling a law may change -/
def xFl (l : Nat) (g g' : xG) : Prop := g'.2 = g.2 ∧ (∀ k, k ≠ 3 → k ≠ 6 → k ≠ 38 → k ≠ 45 → k ≠ 46 → g'.1 k = g.1 k) ∧ (∀ j, j ≠ 12 → g'.1 38 j = g.1 38 j) ∧ (∀ j, (j < 5 ∨ 9 < j) → g'.1 3 j = g.1 3 j) ∧ ∀ i, i ≠ l → g'.1 46 i = g.1 46 i
def xt_X1_readLaw : xT := xm_rl (Z := vTk × Nat × Nat × Nat × (Nat → List (vX × vX × vX) × vX)) (fun (k, N, l, a, X) av g => av = [.ref 3, .int (nI l)] ∧ l < 4 ∧ xTk k N g ∧ xAt N (.inr a) g ∧ k.1 a ≠ 0 ∧ k.1 a ≠ 1 ∧ xTr a X g)
  (fun (k, N, l, a, X) g o g' => o = none ∧ xFl l g g' ∧ xAt N (pF3 (pLx k a)) g' ∧ ∀ a' bs e, pLx k a = .inr (a', bs, e) → xTr a' (fun i => if i = l then (bs, e) else X i) g')
set_option maxRecDepth 100000 in
set_option maxHeartbeats 400000 in
theorem xp_X1_readLaw {l : Launch} {D : va_G} {cA : Nat → ClassId} {B : List (Nat × Cell)} : xm_Met l D cA B xs_X 4 yX1_readLaw cX1_readLaw 4 none xt_X1_readLaw := by
  have hm : xm_monos [xt_X1_take, xt_X1_kind, xt_X5_beginLaw, xt_X1_fail, xt_X1_readSum, xt_X5_emit, xt_X5_goOnHere] := ⟨(by first | exact xm_fn_mono _ _ _ | exact xm_rl_mono _ _), (by first | exact xm_fn_mono _ _ _ | exact xm_rl_mono _ _), (by first | exact xm_fn_mono _ _ _ | exact xm_rl_mono _ _), (by first | exact xm_fn_mono _ _ _ | exact xm_rl_mono _ _), (by first | exact xm_fn_mono _ _ _ | exact xm_rl_mono _ _), (by first | exact xm_fn_mono _ _ _ | exact xm_rl_mono _ _), (by first | exact xm_fn_mono _ _ _ | exact xm_rl_mono _ _), trivial⟩
  refine xm_meth (own := RX1) (ks := xk_X1_readLaw) (C := xc_X1_readLaw) (Ts := [xt_X1_take, xt_X1_kind, xt_X5_beginLaw, xt_X1_fail, xt_X1_readSum, xt_X5_emit, xt_X5_goOnHere]) (by decide +kernel) rfl xm_clsok xs_X_ok xf_X1_ok xi_X1_ok xj_X1_ok (xm_lk xl_X1_77 xp_X1_take (by decide) (xm_lk xl_X1_60 xp_X1_kind (by decide) (xm_lk xl_X1_129 xp_X5_beginLaw (by decide) (xm_lk xl_X1_88 xp_X1_fail (by decide) (xm_lk xl_X1_132 xp_X1_readSum (by decide) (xm_lk xl_X1_135 xp_X5_emit (by decide) (xm_lk xl_X1_141 xp_X5_goOnHere (by decide) xm_lk0))))))) xo_X1_readLaw ?_ ?_
  · rintro av g Q ⟨z, ⟨rfl, -⟩, -⟩
    exact Nat.le_of_ble_eq_true rfl
  · rintro av g Q ⟨⟨k, N, l, a, X⟩, ⟨rfl, l4, tk, hat, k0, k1, sz, sz1, sz2, e12, old⟩, hQ⟩
    dsimp only at l4 tk hat k0 k1 sz1 sz2 e12 old hQ
    have N4 := tk.1
    obtain ⟨W, hW⟩ : ∃ W, pLx k a = W := ⟨_, rfl⟩
    rw [hW] at hQ
    -- after the law's name and its sign: what stands is g0
    have main : ∀ (g0 : xG) (r0 : pF ⊕ Nat), xFl l g g0 → (∀ j, g0.1 45 j = g.1 45 j) → g0.1 46 l = nI sz → g0.1 38 12 = nI sz → xAt N r0 g0 → (∀ a0, r0 = .inr a0 → a0 = a + 2) → (W = pBn r0 fun a2 => pIfs k 4 a2 []) → ∀ w3, xm_go xs_X xk_X1_readLaw [xt_X1_take, xt_X1_kind, xt_X5_beginLaw, xt_X1_fail, xt_X1_readSum, xt_X5_emit, xt_X5_goOnHere] xc_X1_readLaw Q (xm_drop 20 xc_X1_readLaw) [.ref 3, .int (nI l), .int (nI 0), w3] [] g0 := by
      intro g0 r0 fl0 c0 st0 z0 at0 p0 hw0
      have tk0 : xTk k N g0 := ⟨tk.1, tk.2.1, fun i hi => by rw [fl0.2.1 8 (by decide) (by decide) (by decide) (by decide) (by decide), fl0.2.1 9 (by decide) (by decide) (by decide) (by decide) (by decide), fl0.1]; exact tk.2.2 i hi⟩
      -- the end
      have out : ∀ (g1 : xG), xFs g0 g1 → xAt N (pF3 W) g1 → (∀ a' bs e, W = .inr (a', bs, e) → (∀ j, j < sz → g1.1 45 j = g0.1 45 j) ∧ ∃ m, xLb (g1.1 45) sz bs m ∧ xCc (g1.1 45) m e ∧ g1.1 45 (m + e.length) = -15 ∧ m + e.length + 1 ≤ 408 ∧ m + e.length + 1 ≤ a' + 8 ∧ g1.1 38 12 = nI (m + e.length + 1)) → Q none g1 := fun g1 f1 at1 hd => by
        have fl : xFl l g g1 := ⟨f1.1.trans fl0.1, fun q a b c d e => (f1.2.1 q a b c d).trans (fl0.2.1 q a b c d e), fun j hj => (f1.2.2.1 j hj).trans (fl0.2.2.1 j hj), fun j hj => (f1.2.2.2 j hj).trans (fl0.2.2.2.1 j hj), fun i hi => by rw [f1.2.1 46 (by decide) (by decide) (by decide) (by decide)]; exact fl0.2.2.2.2 i hi⟩
        refine hQ none g1 ⟨rfl, fl, at1, fun a' bs e hw => ?_⟩
        obtain ⟨lo, m, h1, h2, h3, h4, h5, h6⟩ := hd a' bs e hw
        refine ⟨m + e.length + 1, h5, h4, h6, fun i hi => ?_⟩
        have e46 : g1.1 46 i = g0.1 46 i := by rw [f1.2.1 46 (by decide) (by decide) (by decide) (by decide)]
        dsimp only
        by_cases c : i = l
        · rw [if_pos c, c]
          rw [c] at e46
          exact ⟨sz, e46.trans st0, m, h1, h2, h3, Nat.le_refl _⟩
        · rw [if_neg c]
          obtain ⟨st, o1, o2⟩ := old i hi
          have := xLb_le h1
          exact ⟨st, by rw [e46, fl0.2.2.2.2 i c]; exact o1, o2.k (by omega) (fun j hj => by rw [lo j hj]; exact c0 j)⟩
      -- the last term
      have at99 : ∀ (r' : pF ⊕ Nat) (bs : List (vX × vX × vX)) (z : Nat) (g2 : xG), xFs g0 g2 → xAt N r' g2 → g2.1 38 12 = nI z → z ≤ 408 → (∀ p, r' = .inr p → z ≤ p + 6 ∧ sz ≤ z ∧ xLb (g2.1 45) sz bs z ∧ ∀ j, j < sz → g2.1 45 j = g0.1 45 j) → (W = pBn r' fun p => pBn (pEx k p) fun e => .inr (e.1, bs, e.2)) → ∀ x2 w3, xm_go xs_X xk_X1_readLaw [xt_X1_take, xt_X1_kind, xt_X5_beginLaw, xt_X1_fail, xt_X1_readSum, xt_X5_emit, xt_X5_goOnHere] xc_X1_readLaw Q (xm_drop 99 xc_X1_readLaw) [.ref 3, .int (nI l), .int x2, w3] [] g2 := by
        intro r' bs z g2 f2 at2 h12 z8 hr hw x2 w3
        have tk2 := tk0.s f2
        have pre := xEx_pre (z := z) tk2 at2 (fun p hp => by have := (hr p hp).1; omega)
        have next : ∀ (o : Option Value) (g3 : xG), (o = none ∧ xSm' k N z r' g2 g3) → o = none ∧ ∃ y, y ≤ 408 ∧ g3.1 38 12 = nI y ∧ Q none (uEmit (-15) y g3) := by
          rintro o g3 ⟨rfl, h3⟩
          obtain ⟨at3, c3⟩ := xEx tk2 at2 h3
          obtain ⟨f3, lo3, ⟨y, y8, hy⟩, -, -⟩ := h3
          refine ⟨rfl, y, y8, hy, ?_⟩
          have eW : pF3 W = pFs (pBn r' (pEx k)) := by
            rw [hw]
            unfold pF3 pFs
            cases r' with
            | inl q => rfl
            | inr p => rw [pBn_r, pBn_r]; cases pEx k p <;> rfl
          refine out _ ((f2.tr f3).em _ _) (by rw [eW]; exact at3.k (fun j _ _ => uEmit_3 _ _ _ _)) (fun a' bs' e hw' => ?_)
          rw [hw] at hw'
          obtain ⟨p, rp, hw'⟩ := pBn_i.mp hw'
          obtain ⟨⟨a3, e3⟩, hx, hw'⟩ := pBn_i.mp hw'
          cases hw'
          obtain ⟨r1, r2, r3, r4⟩ := hr p rp
          have pN : p ≤ N := by rw [rp] at at2; exact at2.2.2
          obtain ⟨-, x2', x3', x4'⟩ := pEx_i hx (by omega)
          have x5 := pEx_lt hx (by omega)
          obtain ⟨s1, s2⟩ := c3 a3 e3 (by rw [rp, pBn_r]; exact hx)
          have ey : y = z + e3.length := nI_inj (by omega) (by omega) (hy.symm.trans s1)
          subst ey
          have z4 : z + e3.length < 408 := by omega
          have cl : ∀ j, j < z + e3.length → (uEmit (-15) (z + e3.length) g3).1 45 j = g3.1 45 j := fun j hj => by rw [uEmit_45 z4, if_neg (by omega)]
          refine ⟨fun j hj => by rw [cl j (by omega), lo3 j (by omega)]; exact r4 j hj, z, r3.k (Nat.le_refl _) (fun j hj => by rw [cl j (by omega)]; exact lo3 j hj), s2.k (Nat.le_refl _) (fun j hj => cl j hj), by rw [uEmit_45 z4, if_pos rfl], by show z + e3.length + 1 ≤ 408; omega, by show z + e3.length + 1 ≤ a3 + 8; omega, uEmit_12 z4⟩
        refine xm_run_go hm 40 ⟨(k, N, z, pAa r'), ⟨rfl, h12, z8, pre⟩, ?_⟩
        intro o g3 h3
        obtain ⟨rfl, y, y1, y2, y3⟩ := next o g3 h3
        exact ⟨(-15, y), ⟨rfl, y1, y2⟩, y3⟩
      -- no further branch
      have com : ∀ (m : Nat) (r' : pF ⊕ Nat) (bs : List (vX × vX × vX)) (z : Nat) (g2 : xG) (x2 : Int32) (w3 : Value), m + bs.length = 4 → x2 = nI bs.length → xFs g0 g2 → xAt N r' g2 → g2.1 38 12 = nI z → z ≤ 408 → (∀ p, r' = .inr p → z ≤ p + 6 ∧ sz ≤ z ∧ xLb (g2.1 45) sz bs z ∧ ∀ j, j < sz → g2.1 45 j = g0.1 45 j) → (W = pBn r' fun p => pIfs k m p bs) → (∀ p, r' = .inr p → k.1 p ≠ 136) → xm_go xs_X xk_X1_readLaw [xt_X1_take, xt_X1_kind, xt_X5_beginLaw, xt_X1_fail, xt_X1_readSum, xt_X5_emit, xt_X5_goOnHere] xc_X1_readLaw Q (xm_drop 20 xc_X1_readLaw) [.ref 3, .int (nI l), .int x2, w3] [] g2 := by
        intro m r' bs z g2 x2 w3 ml hx f2 at2 h12 z8 hr hw no
        have ngt : ¬ 4 < x2 := by rw [hx]; exact nI_nlt (a := 4) (b := bs.length) (by omega) (by decide)
        have go := at99 r' bs z g2 f2 at2 h12 z8 hr (by
          rw [hw]
          cases r' with
          | inl q => rfl
          | inr p => rw [pBn_r, pBn_r, pIfs_no (no p rfl)]) x2 w3
        have tk2 := tk0.s f2
        cases r' with
        | inl q =>
          have fl : xFt q.1 q.2 g2 := at2
          exact xm_run_go hm 6 ⟨fun w => absurd w ngt, fun _ => ⟨fun _ => go, fun w => absurd w fl.n0⟩⟩
        | inr p =>
          obtain ⟨h8, h7, pN⟩ := at2
          obtain ⟨t1, t2, t3, -, -⟩ := tk2.2.2 p pN
          have ne : ¬ g2.1 8 p = 136 := fun w => no p rfl (nI_inj (b := 136) (by omega) (by omega) (t1.symm.trans w))
          exact xm_run_go hm 10 ⟨fun w => absurd w ngt, fun _ => ⟨fun w => absurd h8 w, fun _ => ⟨p, ⟨rfl, by omega, h7⟩, ⟨fun _ => go, fun w => absurd w ne⟩⟩⟩⟩
      have at20 : ∀ (m : Nat) (r' : pF ⊕ Nat) (bs : List (vX × vX × vX)) (z : Nat) (g2 : xG) (x2 : Int32) (w3 : Value), m + bs.length = 4 → x2 = nI bs.length → xFs g0 g2 → xAt N r' g2 → g2.1 38 12 = nI z → z ≤ 408 → (∀ p, r' = .inr p → z ≤ p + 6 ∧ sz ≤ z ∧ xLb (g2.1 45) sz bs z ∧ ∀ j, j < sz → g2.1 45 j = g0.1 45 j) → (W = pBn r' fun p => pIfs k m p bs) → xm_go xs_X xk_X1_readLaw [xt_X1_take, xt_X1_kind, xt_X5_beginLaw, xt_X1_fail, xt_X1_readSum, xt_X5_emit, xt_X5_goOnHere] xc_X1_readLaw Q (xm_drop 20 xc_X1_readLaw) [.ref 3, .int (nI l), .int x2, w3] [] g2 := by
        intro m
        induction m with
        | zero =>
          intro r' bs z g2 x2 w3 ml hx f2 at2 h12 z8 hr hw
          by_cases no : ∀ p, r' = .inr p → k.1 p ≠ 136
          · exact com 0 r' bs z g2 x2 w3 ml hx f2 at2 h12 z8 hr hw no
          · obtain ⟨p, rfl, kp⟩ : ∃ p, r' = .inr p ∧ k.1 p = 136 := Classical.byContradiction fun h => no fun p hp kk => h ⟨p, hp, kk⟩
            obtain ⟨h8, h7, pN⟩ := at2
            have tk2 := tk0.s f2
            obtain ⟨t1, t2, t3, -, -⟩ := tk2.2.2 p pN
            have eq : g2.1 8 p = 136 := by rw [t1, kp]; rfl
            have x4 : x2 = 4 := by rw [hx, show bs.length = 4 by omega]; rfl
            have ngt : ¬ 4 < x2 := by rw [x4]; decide
            have hWq : W = .inl (2, k.2.1 p) := by
              rw [hw, pBn_r]
              unfold pIfs
              rw [if_pos kp]
            have fin := out (uFail 2 p g2) (f2.fl 2 p) (by rw [hWq]; exact uFail_ft (f := 2) h8 (Or.inr rfl) (by omega) h7 t2) (fun a' bs' e h => by rw [hWq] at h; cases h)
            exact xm_run_go hm 40 ⟨fun w => absurd w ngt, fun _ => ⟨fun w => absurd h8 w, fun _ => ⟨p, ⟨rfl, by omega, h7⟩, ⟨fun w => absurd eq w, fun _ => ⟨fun w => absurd x4 w, fun _ => ⟨(2, p), ⟨rfl, by omega, h7⟩, fin⟩⟩⟩⟩⟩⟩
        | succ m ih =>
          intro r' bs z g2 x2 w3 ml hx f2 at2 h12 z8 hr hw
          by_cases no : ∀ p, r' = .inr p → k.1 p ≠ 136
          · exact com (m + 1) r' bs z g2 x2 w3 ml hx f2 at2 h12 z8 hr hw no
          · obtain ⟨p, rfl, kp⟩ : ∃ p, r' = .inr p ∧ k.1 p = 136 := Classical.byContradiction fun h => no fun p hp kk => h ⟨p, hp, kk⟩
            obtain ⟨h8, h7, pN⟩ := id at2
            have tk2 := tk0.s f2
            have p4 : p ≤ 400 := by omega
            obtain ⟨t1, t2, t3, -, -⟩ := tk2.2.2 p pN
            have eq : g2.1 8 p = 136 := by rw [t1, kp]; rfl
            obtain ⟨b1, b2, b3, b4⟩ := hr p rfl
            obtain ⟨r1, hr1⟩ : ∃ r, pBn (.inr p) (pGo k) = r := ⟨_, rfl⟩
            obtain ⟨r2, hr2⟩ : ∃ r, pBn r1 (pEx k) = r := ⟨_, rfl⟩
            obtain ⟨r3, hr3⟩ : ∃ r, pBn (pFs r2) (pMu k 60) = r := ⟨_, rfl⟩
            obtain ⟨r4, hr4⟩ : ∃ r, pBn r3 (pEx k) = r := ⟨_, rfl⟩
            obtain ⟨r5, hr5⟩ : ∃ r, pBn (pFs r4) (pMu k 137) = r := ⟨_, rfl⟩
            obtain ⟨r6, hr6⟩ : ∃ r, pBn r5 (pEx k) = r := ⟨_, rfl⟩
            obtain ⟨r7, hr7⟩ : ∃ r, pBn (pFs r6) (pMu k 138) = r := ⟨_, rfl⟩
            obtain ⟨d1, d3, d5⟩ := pIf_d p4 hr1 hr2 hr3 hr4 hr5
            obtain ⟨ibad, igood⟩ := pIf_c k p r1 r2 r3 r4 r5 r6 r7 hr1 hr2 hr3 hr4 hr5 hr6 hr7
            -- the branch is closed
            have at89 : ∀ (g8 : xG) (h y : Nat), xFs g0 g8 → xAt N r7 g8 → y ≤ 408 → g8.1 38 12 = nI y → h ≤ 408 → (∀ a2 u a4 v a6 w, r2 = .inr (a2, u) → r4 = .inr (a4, v) → r6 = .inr (a6, w) → (∀ j, j < z → g8.1 45 j = g2.1 45 j) ∧ xCc (g8.1 45) z u ∧ xCc (g8.1 45) (z + u.length) v ∧ g8.1 45 (z + u.length + v.length) = -16 ∧ h = z + u.length + v.length + 1 ∧ xCc (g8.1 45) (z + u.length + v.length + 2) w ∧ y = z + u.length + v.length + 2 + w.length) → xm_go xs_X xk_X1_readLaw [xt_X1_take, xt_X1_kind, xt_X5_beginLaw, xt_X1_fail, xt_X1_readSum, xt_X5_emit, xt_X5_goOnHere] xc_X1_readLaw Q (xm_drop 89 xc_X1_readLaw) [.ref 3, .int (nI l), .int x2, .int (nI h)] [] g8 := by
              intro g8 h y f8 at8 y8 hy h8' hd
              obtain ⟨y', y8', hy'⟩ := uEmit_z (v := -15) hy y8
              have f10 : xFs g0 (uHere h y' (uEmit (-15) y g8)) := (f8.em _ _).he _ _
              have at10 : xAt N r7 (uHere h y' (uEmit (-15) y g8)) := at8.k (fun j _ _ => by rw [uHere_c (by decide)]; exact uEmit_3 _ _ _ _)
              have z10 : (uHere h y' (uEmit (-15) y g8)).1 38 12 = nI y' := by rw [uHere_c (by decide)]; exact hy'
              have go : xm_go xs_X xk_X1_readLaw [xt_X1_take, xt_X1_kind, xt_X5_beginLaw, xt_X1_fail, xt_X1_readSum, xt_X5_emit, xt_X5_goOnHere] xc_X1_readLaw Q (xm_drop 20 xc_X1_readLaw) [.ref 3, .int (nI l), .int (x2 + 1), .int (nI h)] [] (uHere h y' (uEmit (-15) y g8)) := by
                cases h7' : r7 with
                | inl q =>
                  rw [h7'] at at10
                  refine ih (.inl q) (bs ++ [([], [], [])]) y' _ (x2 + 1) _ (by rw [List.length_append, List.length_singleton]; omega) (by rw [hx, nI_1, List.length_append, List.length_singleton]) f10 at10 z10 y8' (fun p hp => by cases hp) ?_
                  rw [hw, pBn_r, pBn_l]
                  unfold pIfs
                  rw [if_pos kp, ibad q h7', pBn_l]
                | inr a7 =>
                  rw [h7'] at at10
                  obtain ⟨a2, u, a4, v, a6, w, e1, e2, e3, e4, e5, e6, e7, eI⟩ := igood a7 h7'
                  obtain ⟨-, -, -, i4, i5⟩ := pIf_i eI
                  obtain ⟨c1, c2, c3, c4, c5, c6, c7⟩ := hd a2 u a4 v a6 w e2 e4 e6
                  have y48 : y < 408 := by omega
                  have ey' : y' = y + 1 := nI_inj (by omega) (by omega) (hy'.symm.trans (uEmit_12 y48))
                  have h48 : h < 408 := by omega
                  have cd : ∀ j, (uHere h y' (uEmit (-15) y g8)).1 45 j = if j = h then nI y' else if j = y then -15 else g8.1 45 j := fun j => by
                    unfold uHere
                    rw [if_pos h48, xg_in, uEmit_45 y48]
                  have cl : ∀ j, j < h → (uHere h y' (uEmit (-15) y g8)).1 45 j = g8.1 45 j := fun j hj => by rw [cd, if_neg (by omega), if_neg (by omega)]
                  have bn : xBn (u, v, w) = u.length + v.length + w.length + 3 := rfl
                  have nb : xB1 ((uHere h y' (uEmit (-15) y g8)).1 45) z (u, v, w) := by
                    refine ⟨c2.k (Nat.le_refl _) (fun j hj => cl j (by omega)), c3.k (Nat.le_refl _) (fun j hj => cl j (by omega)), ?_, ?_, fun i q hq => ?_, ?_⟩
                    · show (uHere h y' (uEmit (-15) y g8)).1 45 (z + u.length + v.length) = -16
                      rw [cl _ (by omega)]; exact c4
                    · show (uHere h y' (uEmit (-15) y g8)).1 45 (z + u.length + v.length + 1) = nI (z + xBn (u, v, w))
                      rw [cd, if_pos c5.symm]
                      congr 1; omega
                    · have hi := (List.getElem?_eq_some_iff.mp hq).1
                      dsimp only at hi ⊢
                      rw [cd, if_neg (by omega), if_neg (by omega)]; exact c6 i q hq
                    · show (uHere h y' (uEmit (-15) y g8)).1 45 (z + u.length + v.length + 2 + w.length) = -15
                      rw [cd, if_neg (by omega), if_pos c7.symm]
                  have hz' : y' = z + xBn (u, v, w) := by omega
                  refine ih (.inr a7) (bs ++ [(u, v, w)]) y' _ (x2 + 1) _ (by rw [List.length_append, List.length_singleton]; omega) (by rw [hx, nI_1, List.length_append, List.length_singleton]) f10 at10 z10 y8' (fun p' hp => ?_) ?_
                  · cases hp
                    refine ⟨by omega, by omega, ?_, fun j hj => by rw [cl j (by omega), c1 j (by omega)]; exact b4 j hj⟩
                    have := xLb_app (b3.k (Nat.le_refl _) (fun j hj => by rw [cl j (by omega)]; exact c1 j hj)) nb
                    rw [← hz'] at this
                    exact this
                  · rw [hw, pBn_r, pBn_r]
                    show (if k.1 p = 136 then pBn (pIf k p) fun q => pIfs k m q.1 (bs ++ [q.2]) else pBn (pEx k p) fun e => .inr (e.1, bs, e.2)) = _
                    rw [if_pos kp, eI, pBn_r]
              exact xm_run_go hm 40 ⟨(-15, y), ⟨rfl, y8, hy⟩, (h, y'), ⟨rfl, h8', hy'⟩, xm_cut hm go⟩
            have at79 : ∀ (g7 : xG) (h y : Nat), xFs g0 g7 → xAt N (pFs r6) g7 → y ≤ 408 → g7.1 38 12 = nI y → h ≤ 408 → (∀ a2 u a4 v a6 w, r2 = .inr (a2, u) → r4 = .inr (a4, v) → r6 = .inr (a6, w) → (∀ j, j < z → g7.1 45 j = g2.1 45 j) ∧ xCc (g7.1 45) z u ∧ xCc (g7.1 45) (z + u.length) v ∧ g7.1 45 (z + u.length + v.length) = -16 ∧ h = z + u.length + v.length + 1 ∧ xCc (g7.1 45) (z + u.length + v.length + 2) w ∧ y = z + u.length + v.length + 2 + w.length) → xm_go xs_X xk_X1_readLaw [xt_X1_take, xt_X1_kind, xt_X5_beginLaw, xt_X1_fail, xt_X1_readSum, xt_X5_emit, xt_X5_goOnHere] xc_X1_readLaw Q (xm_drop 79 xc_X1_readLaw) [.ref 3, .int (nI l), .int x2, .int (nI h)] [] g7 := by
              intro g7 h y f7 at7 y8 hy h8' hd
              obtain ⟨q, q4, q7, -⟩ := at7.pos (tk0.s f7)
              obtain ⟨b, hb, at8, -⟩ := at7.mu (tk0.s f7) q4 q7 (c := 138) (by decide) (by decide)
              rw [hr7] at at8
              have cc : ∀ c, c ≠ 3 → (uTake b q g7).1 c = g7.1 c := fun c hc => uTake_c b q g7 hc
              have dt := at89 (uTake b q g7) h y (f7.tk b q) at8 y8 (by rw [cc 38 (by decide)]; exact hy) h8' (by rw [cc 45 (by decide)]; exact hd)
              cases b with
              | true =>
                have go := dt
                exact xm_run_go hm 9 ⟨q, ⟨rfl, q4, q7⟩, ⟨fun w => absurd (hb.mp rfl) w, fun _ => ⟨(true, q), ⟨rfl, q4, q7⟩, go⟩⟩⟩
              | false =>
                have go := dt
                exact xm_run_go hm 8 ⟨q, ⟨rfl, q4, q7⟩, ⟨fun _ => ⟨(false, q), ⟨rfl, q4, q7⟩, go⟩, fun w => absurd (hb.mpr w) (by decide)⟩⟩
            have at65 : ∀ (g5 : xG) (y : Nat) (w3 : Value), xFs g0 g5 → xAt N r5 g5 → y ≤ 408 → g5.1 38 12 = nI y → (∀ a2 u a4 v, r2 = .inr (a2, u) → r4 = .inr (a4, v) → (∀ j, j < z → g5.1 45 j = g2.1 45 j) ∧ xCc (g5.1 45) z u ∧ xCc (g5.1 45) (z + u.length) v ∧ y = z + u.length + v.length) → xm_go xs_X xk_X1_readLaw [xt_X1_take, xt_X1_kind, xt_X5_beginLaw, xt_X1_fail, xt_X1_readSum, xt_X5_emit, xt_X5_goOnHere] xc_X1_readLaw Q (xm_drop 65 xc_X1_readLaw) [.ref 3, .int (nI l), .int x2, w3] [] g5 := by
              intro g5 y w3 f5 at5 y8 hy hd
              obtain ⟨h, h8', hh⟩ := uEmit_z (v := -16) hy y8
              obtain ⟨y7, y78, hy7⟩ := uEmit_z (v := 0) hh h8'
              have f7 : xFs g0 (uEmit 0 h (uEmit (-16) y g5)) := (f5.em _ _).em _ _
              have at7 : xAt N r5 (uEmit 0 h (uEmit (-16) y g5)) := at5.k (fun j _ _ => by rw [uEmit_3, uEmit_3])
              have tk7 := tk0.s f7
              have dat : ∀ a5, r5 = .inr a5 → ∃ a2 u a4 v, r2 = .inr (a2, u) ∧ r4 = .inr (a4, v) ∧ a5 ≤ 400 ∧ p + u.length + v.length + 3 ≤ a5 ∧ y = z + u.length + v.length ∧ h = y + 1 ∧ y7 = y + 2 ∧ (∀ j, j < y → (uEmit 0 h (uEmit (-16) y g5)).1 45 j = g5.1 45 j) ∧ (uEmit 0 h (uEmit (-16) y g5)).1 45 y = -16 := fun a5 h5 => by
                obtain ⟨a2, u, a4, v, e2, e4, x1, x2⟩ := d5 a5 h5
                obtain ⟨-, -, -, ey⟩ := hd a2 u a4 v e2 e4
                have y48 : y < 407 := by omega
                have eh : h = y + 1 := nI_inj (by omega) (by omega) (hh.symm.trans (uEmit_12 (by omega)))
                have e7 : y7 = h + 1 := nI_inj (by omega) (by omega) (hy7.symm.trans (uEmit_12 (by omega)))
                exact ⟨a2, u, a4, v, e2, e4, x1, x2, ey, eh, by omega, fun j hj => by rw [uEmit_45 (by omega), if_neg (by omega), uEmit_45 (by omega), if_neg (by omega)], by rw [uEmit_45 (by omega), if_neg (by omega), uEmit_45 (by omega), if_pos rfl]⟩
              have pre := xEx_pre (z := y7) tk7 at7 (fun a5 h5 => by obtain ⟨a2, u, a4, v, -, -, x1, x2, x3, x4, x5, -⟩ := dat a5 h5; omega)
              have next : ∀ (o : Option Value) (g8 : xG), (o = none ∧ xSm' k N y7 r5 (uEmit 0 h (uEmit (-16) y g5)) g8) → o = none ∧ xm_go xs_X xk_X1_readLaw [xt_X1_take, xt_X1_kind, xt_X5_beginLaw, xt_X1_fail, xt_X1_readSum, xt_X5_emit, xt_X5_goOnHere] xc_X1_readLaw Q (xm_drop 79 xc_X1_readLaw) [.ref 3, .int (nI l), .int x2, .int (nI h)] [] g8 := by
                rintro o g8 ⟨rfl, h3⟩
                obtain ⟨at8, c8⟩ := xEx tk7 at7 h3
                obtain ⟨f8, lo8, ⟨y', y8', hy'⟩, -, -⟩ := h3
                rw [hr6] at at8 c8
                refine ⟨rfl, at79 g8 h y' (f7.tr f8) at8 y8' hy' h8' (fun a2 u a4 v a6 w e2 e4 e6 => ?_)⟩
                rw [e6] at hr6
                obtain ⟨a5, h5, hx5⟩ := pBn_i.mp hr6
                obtain ⟨a2', u', a4', v', e2', e4', x1, x2, x3, x4, x5, x6, x7⟩ := dat a5 h5
                rw [e2] at e2'; cases e2'
                rw [e4] at e4'; cases e4'
                obtain ⟨g1, g2', g3, -⟩ := hd a2 u a4 v e2 e4
                obtain ⟨s1, s2⟩ := c8 a6 w e6
                have ey' : y' = y7 + w.length := nI_inj (by omega) (by obtain ⟨-, -, q3, q4⟩ := pEx_i hx5 x1; omega) (hy'.symm.trans s1)
                have cl : ∀ j, j < y → g8.1 45 j = g5.1 45 j := fun j hj => by rw [lo8 j (by omega)]; exact x6 j hj
                refine ⟨fun j hj => by rw [cl j (by omega)]; exact g1 j hj, g2'.k (Nat.le_refl _) (fun j hj => cl j (by omega)), g3.k (Nat.le_refl _) (fun j hj => cl j (by omega)), by rw [← x3, lo8 y (by omega)]; exact x7, by omega, ?_, by omega⟩
                rw [show z + u.length + v.length + 2 = y7 by omega]; exact s2
              rw [← hh] at next
              refine xm_run_go hm 14 ⟨(-16, y), ⟨rfl, y8, hy⟩, (0, h), ⟨rfl, h8', hh⟩, (k, N, y7, pAa r5), ⟨rfl, hy7, y78, pre⟩, ?_⟩
              intro o g8 h8
              obtain ⟨rfl, go⟩ := next o g8 h8
              exact go
            have at55 : ∀ (g4 : xG) (y : Nat) (w3 : Value), xFs g0 g4 → xAt N (pFs r4) g4 → y ≤ 408 → g4.1 38 12 = nI y → (∀ a2 u a4 v, r2 = .inr (a2, u) → r4 = .inr (a4, v) → (∀ j, j < z → g4.1 45 j = g2.1 45 j) ∧ xCc (g4.1 45) z u ∧ xCc (g4.1 45) (z + u.length) v ∧ y = z + u.length + v.length) → xm_go xs_X xk_X1_readLaw [xt_X1_take, xt_X1_kind, xt_X5_beginLaw, xt_X1_fail, xt_X1_readSum, xt_X5_emit, xt_X5_goOnHere] xc_X1_readLaw Q (xm_drop 55 xc_X1_readLaw) [.ref 3, .int (nI l), .int x2, w3] [] g4 := by
              intro g4 y w3 f4 at4 y8 hy hd
              obtain ⟨q, q4, q7, -⟩ := at4.pos (tk0.s f4)
              obtain ⟨b, hb, at5, -⟩ := at4.mu (tk0.s f4) q4 q7 (c := 137) (by decide) (by decide)
              rw [hr5] at at5
              have cc : ∀ c, c ≠ 3 → (uTake b q g4).1 c = g4.1 c := fun c hc => uTake_c b q g4 hc
              have dt := at65 (uTake b q g4) y w3 (f4.tk b q) at5 y8 (by rw [cc 38 (by decide)]; exact hy) (by rw [cc 45 (by decide)]; exact hd)
              cases b with
              | true =>
                have go := dt
                exact xm_run_go hm 9 ⟨q, ⟨rfl, q4, q7⟩, ⟨fun w => absurd (hb.mp rfl) w, fun _ => ⟨(true, q), ⟨rfl, q4, q7⟩, go⟩⟩⟩
              | false =>
                have go := dt
                exact xm_run_go hm 8 ⟨q, ⟨rfl, q4, q7⟩, ⟨fun _ => ⟨(false, q), ⟨rfl, q4, q7⟩, go⟩, fun w => absurd (hb.mpr w) (by decide)⟩⟩
            have at53 : ∀ (g3 : xG) (y : Nat) (w3 : Value), xFs g0 g3 → xAt N r3 g3 → y ≤ 408 → g3.1 38 12 = nI y → (∀ a2 u, r2 = .inr (a2, u) → (∀ j, j < z → g3.1 45 j = g2.1 45 j) ∧ xCc (g3.1 45) z u ∧ y = z + u.length) → xm_go xs_X xk_X1_readLaw [xt_X1_take, xt_X1_kind, xt_X5_beginLaw, xt_X1_fail, xt_X1_readSum, xt_X5_emit, xt_X5_goOnHere] xc_X1_readLaw Q (xm_drop 53 xc_X1_readLaw) [.ref 3, .int (nI l), .int x2, w3] [] g3 := by
              intro g3 y w3 f3 at3 y8 hy hd
              have tk3 := tk0.s f3
              have pre := xEx_pre (z := y) tk3 at3 (fun a3 h3 => by
                obtain ⟨a2, u, e2, x1, x2, x3⟩ := d3 a3 h3
                have := (hd a2 u e2).2.2
                omega)
              have next : ∀ (o : Option Value) (g4 : xG), (o = none ∧ xSm' k N y r3 g3 g4) → o = none ∧ xm_go xs_X xk_X1_readLaw [xt_X1_take, xt_X1_kind, xt_X5_beginLaw, xt_X1_fail, xt_X1_readSum, xt_X5_emit, xt_X5_goOnHere] xc_X1_readLaw Q (xm_drop 55 xc_X1_readLaw) [.ref 3, .int (nI l), .int x2, w3] [] g4 := by
                rintro o g4 ⟨rfl, h4⟩
                obtain ⟨at4, c4⟩ := xEx tk3 at3 h4
                obtain ⟨f4, lo4, ⟨y', y8', hy'⟩, -, -⟩ := h4
                rw [hr4] at at4 c4
                refine ⟨rfl, at55 g4 y' w3 (f3.tr f4) at4 y8' hy' (fun a2 u a4 v e2 e4 => ?_)⟩
                rw [e4] at hr4
                obtain ⟨a3, h3, hx3⟩ := pBn_i.mp hr4
                obtain ⟨a2', u', e2', x1, x2, x3⟩ := d3 a3 h3
                rw [e2] at e2'; cases e2'
                obtain ⟨g1, g2', ey⟩ := hd a2 u e2
                obtain ⟨s1, s2⟩ := c4 a4 v e4
                have ey' : y' = y + v.length := nI_inj (by omega) (by obtain ⟨-, -, q3, q4⟩ := pEx_i hx3 x2; omega) (hy'.symm.trans s1)
                refine ⟨fun j hj => by rw [lo4 j (by omega)]; exact g1 j hj, g2'.k (Nat.le_refl _) (fun j hj => lo4 j (by omega)), ?_, by omega⟩
                rw [← ey]; exact s2
              refine xm_run_go hm 2 ⟨(k, N, y, pAa r3), ⟨rfl, hy, y8, pre⟩, ?_⟩
              intro o g4 h4
              obtain ⟨rfl, go⟩ := next o g4 h4
              exact go
            have at43 : ∀ (g3 : xG) (y : Nat) (w3 : Value), xFs g0 g3 → xAt N (pFs r2) g3 → y ≤ 408 → g3.1 38 12 = nI y → (∀ a2 u, r2 = .inr (a2, u) → (∀ j, j < z → g3.1 45 j = g2.1 45 j) ∧ xCc (g3.1 45) z u ∧ y = z + u.length) → xm_go xs_X xk_X1_readLaw [xt_X1_take, xt_X1_kind, xt_X5_beginLaw, xt_X1_fail, xt_X1_readSum, xt_X5_emit, xt_X5_goOnHere] xc_X1_readLaw Q (xm_drop 43 xc_X1_readLaw) [.ref 3, .int (nI l), .int x2, w3] [] g3 := by
              intro g3 y w3 f3 at3 y8 hy hd
              obtain ⟨q, q4, q7, -⟩ := at3.pos (tk0.s f3)
              obtain ⟨b, hb, at5, -⟩ := at3.mu (tk0.s f3) q4 q7 (c := 60) (by decide) (by decide)
              rw [hr3] at at5
              have cc : ∀ c, c ≠ 3 → (uTake b q g3).1 c = g3.1 c := fun c hc => uTake_c b q g3 hc
              have dt := at53 (uTake b q g3) y w3 (f3.tk b q) at5 y8 (by rw [cc 38 (by decide)]; exact hy) (by rw [cc 45 (by decide)]; exact hd)
              cases b with
              | true =>
                have go := dt
                exact xm_run_go hm 9 ⟨q, ⟨rfl, q4, q7⟩, ⟨fun w => absurd (hb.mp rfl) w, fun _ => ⟨(true, q), ⟨rfl, q4, q7⟩, go⟩⟩⟩
              | false =>
                have go := dt
                exact xm_run_go hm 8 ⟨q, ⟨rfl, q4, q7⟩, ⟨fun _ => ⟨(false, q), ⟨rfl, q4, q7⟩, go⟩, fun w => absurd (hb.mpr w) (by decide)⟩⟩
            -- from the head on
            obtain ⟨at3, -⟩ := xAt.go at2 tk2 p4 h7 (fun b hb => by cases hb; omega)
            rw [hr1] at at3
            have cc : ∀ c, c ≠ 3 → (uTake true p g2).1 c = g2.1 c := fun c hc => uTake_c true p g2 hc
            have f3 : xFs g0 (uTake true p g2) := f2.tk true p
            have tk3 := tk0.s f3
            have z3 : (uTake true p g2).1 38 12 = nI z := by rw [cc 38 (by decide)]; exact h12
            have pre := xEx_pre (z := z) tk3 at3 (fun a1 h1 => by have := d1 a1 h1; omega)
            have next : ∀ (o : Option Value) (g4 : xG), (o = none ∧ xSm' k N z r1 (uTake true p g2) g4) → o = none ∧ xm_go xs_X xk_X1_readLaw [xt_X1_take, xt_X1_kind, xt_X5_beginLaw, xt_X1_fail, xt_X1_readSum, xt_X5_emit, xt_X5_goOnHere] xc_X1_readLaw Q (xm_drop 43 xc_X1_readLaw) [.ref 3, .int (nI l), .int x2, w3] [] g4 := by
              rintro o g4 ⟨rfl, h4⟩
              obtain ⟨at4, c4⟩ := xEx tk3 at3 h4
              obtain ⟨f4, lo4, ⟨y', y8', hy'⟩, -, -⟩ := h4
              rw [hr2] at at4 c4
              refine ⟨rfl, at43 g4 y' w3 (f3.tr f4) at4 y8' hy' (fun a2 u e2 => ?_)⟩
              rw [e2] at hr2
              obtain ⟨a1, h1, hx1⟩ := pBn_i.mp hr2
              have ea1 := d1 a1 h1
              have a1N : a1 ≤ N := by rw [h1] at at3; exact at3.2.2
              obtain ⟨s1, s2⟩ := c4 a2 u e2
              have ey' : y' = z + u.length := nI_inj (by omega) (by obtain ⟨-, -, q3, q4⟩ := pEx_i hx1 (by omega); omega) (hy'.symm.trans s1)
              exact ⟨fun j hj => by rw [lo4 j hj, cc 45 (by decide)], s2, ey'⟩
            have ngt : ¬ 4 < x2 := by rw [hx]; exact nI_nlt (a := 4) (b := bs.length) (by omega) (by decide)
            have n4 : ¬ x2 = 4 := by rw [hx]; exact fun w => absurd (nI_inj (b := 4) (by omega) (by decide) w) (by omega)
            refine xm_run_go hm 19 ⟨fun w => absurd w ngt, fun _ => ⟨fun w => absurd h8 w, fun _ => ⟨p, ⟨rfl, p4, h7⟩, ⟨fun w => absurd eq w, fun _ => ⟨fun _ => ⟨(true, p), ⟨rfl, p4, h7⟩, (k, N, z, pAa r1), ⟨rfl, z3, z8, pre⟩, ?_⟩, fun w => absurd w n4⟩⟩⟩⟩⟩
            intro o g4 h4
            obtain ⟨rfl, go⟩ := next o g4 h4
            exact go
      intro w3
      exact at20 4 r0 [] sz g0 (nI 0) w3 rfl rfl xFs.rf at0 z0 sz2 (fun p hp => by
        have := p0 p hp
        exact ⟨by omega, Nat.le_refl _, rfl, fun _ _ => rfl⟩) hw0
    -- its name, its sign
    obtain ⟨h8, h7, aN⟩ := id hat
    have a4 : a ≤ 400 := by omega
    obtain ⟨at1, -⟩ := hat.go tk a4 h7 (fun b hb => by cases hb; exact ⟨k0, k1⟩)
    rw [pBn_r] at at1
    have f1 : xFw g (uTake true a g) := xFw.rf.tk true a
    obtain ⟨q, q4, q7, -⟩ := at1.pos (tk.w f1)
    obtain ⟨b, hb, at2, -⟩ := at1.mu (tk.w f1) q4 q7 (c := 61) (by decide) (by decide)
    have fs : xFs g (uTake b q (uTake true a g)) := (xFs.rf.tk true a).tk b q
    have cc : ∀ c, c ≠ 3 → (uTake b q (uTake true a g)).1 c = g.1 c := fun c hc => by rw [uTake_c b q _ hc, uTake_c true a g hc]
    have z2 : (uTake b q (uTake true a g)).1 38 12 = nI sz := by rw [cc 38 (by decide)]; exact e12
    have go := main (xm_sI (uTake b q (uTake true a g)) 46 l (nI sz)) (pBn (pGo k a) (pMu k 61)) ⟨fs.1, fun c a b d e f => by rw [xg_off _ _ _ f]; exact fs.2.1 c a b d e, fun j hj => by rw [xg_off _ _ _ (by decide)]; exact fs.2.2.1 j hj, fun j hj => by rw [xg_off _ _ _ (by decide)]; exact fs.2.2.2 j hj, fun i hi => by rw [xg_in, if_neg hi, cc 46 (by decide)]⟩ (fun j => by rw [xg_off _ _ _ (by decide), cc 45 (by decide)]) (by rw [xg_in, if_pos rfl]) (by rw [xg_off _ _ _ (by decide)]; exact z2) (at2.k (fun j _ _ => by rw [xg_off _ _ _ (by decide)])) (fun a0 h0 => by
      obtain ⟨y, hy, -, -, e⟩ := pCi h0
      have := (pGo_i.mp hy).2
      omega) (by rw [← hW]; rfl)
    cases b with
    | true => exact xm_run_go hm 40 ⟨(true, a), ⟨rfl, a4, h7⟩, q, ⟨rfl, q4, q7⟩, ⟨fun w => absurd (hb.mp rfl) w, fun _ => ⟨(true, q), ⟨rfl, q4, q7⟩, (l, sz), ⟨rfl, l4, z2⟩, xm_cut hm (go _)⟩⟩⟩
    | false => exact xm_run_go hm 40 ⟨(true, a), ⟨rfl, a4, h7⟩, q, ⟨rfl, q4, q7⟩, ⟨fun _ => ⟨(false, q), ⟨rfl, q4, q7⟩, (l, sz), ⟨rfl, l4, z2⟩, xm_cut hm (go _)⟩, fun w => absurd (hb.mpr w) (by decide)⟩⟩
