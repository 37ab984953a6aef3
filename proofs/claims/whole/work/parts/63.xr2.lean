-- a sum is read
def pNm (b : Int64) (l : List Nat) : Int64 := l.foldl (fun n x => n * b + lN x) 0
def xTk (k : vTk) (N : Nat) (g : xG) : Prop := N ≤ 400 ∧ (k.1 N = 0 ∨ k.1 N = 1 ∨ N = 400) ∧ ∀ i, i ≤ N → g.1 8 i = nI (k.1 i) ∧ g.1 9 i = nI (k.2.1 i) ∧ k.1 i < 148 ∧ (k.1 i = 2 → g.2.1 10 i = pNm 32 (k.2.2.2 i)) ∧ (k.1 i = 3 → g.2.1 10 i = lN (k.2.2.1 i) ∧ k.2.2.1 i < 10000)
theorem xTk.s {k : vTk} {N : Nat} {g g' : xG} (h : xTk k N g) (f : xFs g g') : xTk k N g' := ⟨h.1, h.2.1, fun i hi => by rw [f.2.1 8 (by decide) (by decide) (by decide) (by decide), f.2.1 9 (by decide) (by decide) (by decide) (by decide), f.1]; exact h.2.2 i hi⟩
theorem xTk.lt {k : vTk} {N a : Nat} {g : xG} (h : xTk k N g) (ha : a ≤ N) (h0 : k.1 a ≠ 0) (h1 : k.1 a ≠ 1) (h4 : a < 400) : a + 1 ≤ N := by
  refine Nat.lt_of_le_of_ne ha fun e => ?_
  subst e
  rcases h.2.1 with q | q | q
  · exact h0 q
  · exact h1 q
  · omega
def xSm (z a o : Nat) (W : List Nat) (e : vX) (g : xG) : Prop := g.1 3 8 = 0 ∧ g.1 3 7 = nI a ∧ g.1 3 6 = nI o ∧ xWt W g ∧ g.1 38 12 = nI (z + e.length) ∧ xCd g z e
def xFt (f p : Nat) (g : xG) : Prop := g.1 3 8 = nI f ∧ (f = 1 ∨ f = 2) ∧ g.1 3 9 = nI p ∧ ∃ a, a ≤ 400 ∧ g.1 3 7 = nI a
def xBd (f p z : Nat) (g : xG) : Prop := xFt f p g ∧ ∃ W y, xWt W g ∧ g.1 38 12 = nI y ∧ y + W.length ≤ 408 ∧ z ≤ y
theorem uTake_y {a : Nat} {g : xG} (h : g.1 3 8 = 0) (ha : a < 400) : uTake true a g = xm_sI g 3 7 (nI (a + 1)) ∧ oTake true a g = 1 := by
  unfold uTake oTake uTk1
  rw [if_pos rfl, if_pos ha, if_pos h, if_pos h, nI_1]
  exact ⟨rfl, rfl⟩
theorem uFail_y {x : Int32} {a : Nat} {g : xG} (h : g.1 3 8 = 0) : uFail x a g = xm_sI (xm_sI g 3 8 x) 3 9 (g.1 9 a) := by unfold uFail; rw [if_pos h]
theorem uFail_n {x : Int32} {a : Nat} {g : xG} (h : ¬ g.1 3 8 = 0) : uFail x a g = g := by unfold uFail; rw [if_neg h]
theorem uTake_n {b : Bool} {a : Nat} {g : xG} (h : g.1 3 8 = 0) (hb : b = false ∨ 400 ≤ a) : ∃ f, (f = 1 ∨ f = 2) ∧ (b = false → f = 1) ∧ (b = true → f = 2) ∧ uTake b a g = uFail (nI f) a g ∧ oTake b a g = 0 := by
  have e1 : ∀ x : Int32, (uFail x a g).1 3 8 = x := fun x => by rw [uFail_y h, xg_in, if_neg (by decide), xg_in, if_pos rfl]
  cases b with
  | false =>
    refine ⟨1, Or.inl rfl, fun _ => rfl, (fun z => by cases z), ?_⟩
    unfold uTake oTake uTk1
    rw [if_neg (show ¬ false = true by decide), e1, if_neg (by decide), if_neg (by decide)]
    exact ⟨rfl, rfl⟩
  | true =>
    have a4 : ¬ a < 400 := by rcases hb with z | z; cases z; omega
    refine ⟨2, Or.inr rfl, (fun z => by cases z), fun _ => rfl, ?_⟩
    unfold uTake oTake uTk1
    rw [if_pos rfl, if_neg a4, e1, if_neg (by decide), if_neg (by decide)]
    exact ⟨rfl, rfl⟩
theorem uFail_ft {f a : Nat} {g : xG} {p : Nat} (h : g.1 3 8 = 0) (hf : f = 1 ∨ f = 2) (ha : a ≤ 400) (h7 : g.1 3 7 = nI a) (hp : g.1 9 a = nI p) : xFt f p (uFail (nI f) a g) := by
  rw [uFail_y h]
  refine ⟨by rw [xg_in, if_neg (by decide), xg_in, if_pos rfl], hf, by rw [xg_in, if_pos rfl]; exact hp, a, ha, by rw [xg_in, if_neg (by decide), xg_in, if_neg (by decide)]; exact h7⟩
theorem uFail_w {x : Int32} {a : Nat} {W : List Nat} {g : xG} (h : g.1 3 8 = 0) (hw : xWt W g) : xWt W (uFail x a g) := by
  rw [uFail_y h]
  exact ⟨by rw [xg_in, if_neg (by decide), xg_in, if_neg (by decide)]; exact hw.1, hw.2.1, hw.2.2.1, fun i y hy => by rw [xg_off _ _ _ (by decide), xg_off _ _ _ (by decide)]; exact hw.2.2.2 i y hy⟩
theorem uFail_o {x : Int32} {a k : Nat} {g : xG} (hk : k ≠ 3) : (uFail x a g).1 k = g.1 k := by
  unfold uFail
  split
  · rw [xg_off _ _ _ hk, xg_off _ _ _ hk]
  · rfl
theorem uFail_2 {x : Int32} {a : Nat} {g : xG} : (uFail x a g).2 = g.2 := by unfold uFail; split <;> rfl
theorem nI_inj {a b : Nat} (ha : a < 2 ^ 31) (hb : b < 2 ^ 31) (h : nI a = nI b) : a = b := (nI_eq ha hb).mp h
theorem lN_i32 {n : Nat} : (lN n).toInt32 = nI n := lN_i n
def xt_X1_readUnitOrOpen : xT := xm_rl (Z := vTk × Nat × Nat × Nat × Nat × List Nat × vX) (fun (k, N, z, a, o, W, e) av g => av = [.ref 3] ∧ xTk k N g ∧ a ≤ N ∧ xSm z a o W e g ∧ o ≤ 6 ∧ W.length ≤ 20 ∧ z + e.length + W.length + 1 ≤ 408)
  (fun (k, N, z, a, o, W, e) g r g' => xFs g g' ∧ (∀ j, j < z → g'.1 45 j = g.1 45 j) ∧
    ((k.1 a = 40 ∧ o < 6 ∧ a < 400 ∧ r = some (.int 1) ∧ xSm z (a + 1) (o + 1) (40 :: W) e g') ∨ (k.1 a = 40 ∧ (6 ≤ o ∨ 400 ≤ a) ∧ r = some (.int 1) ∧ xBd 2 (k.2.1 a) z g') ∨
     (k.1 a ≠ 40 ∧ pUn k a = true ∧ a < 400 ∧ r = some (.int 0) ∧ xSm z (a + 1) o W (e ++ [pU k a]) g') ∨ (k.1 a ≠ 40 ∧ pUn k a = true ∧ 400 ≤ a ∧ r = some (.int 0) ∧ xBd 2 (k.2.1 a) z g') ∨ (k.1 a ≠ 40 ∧ pUn k a = false ∧ r = some (.int 0) ∧ xBd 1 (k.2.1 a) z g')))
set_option maxRecDepth 100000 in
set_option maxHeartbeats 400000 in
theorem xp_X1_readUnitOrOpen {l : Launch} {D : va_G} {cA : Nat → ClassId} {B : List (Nat × Cell)} : xm_Met l D cA B xs_X 2 yX1_readUnitOrOpen cX1_readUnitOrOpen 3 (some .boolean) xt_X1_readUnitOrOpen := by
  have hm : xm_monos [xt_X1_kind, xt_X1_fail, xt_X1_await, xt_X1_take, xt_X5_emit] := ⟨(by first | exact xm_fn_mono _ _ _ | exact xm_rl_mono _ _), (by first | exact xm_fn_mono _ _ _ | exact xm_rl_mono _ _), (by first | exact xm_fn_mono _ _ _ | exact xm_rl_mono _ _), (by first | exact xm_fn_mono _ _ _ | exact xm_rl_mono _ _), (by first | exact xm_fn_mono _ _ _ | exact xm_rl_mono _ _), trivial⟩
  refine xm_meth (own := RX1) (ks := xk_X1_readUnitOrOpen) (C := xc_X1_readUnitOrOpen) (Ts := [xt_X1_kind, xt_X1_fail, xt_X1_await, xt_X1_take, xt_X5_emit]) (by decide +kernel) rfl xm_clsok xs_X_ok xf_X1_ok xi_X1_ok xj_X1_ok (xm_lk xl_X1_60 xp_X1_kind (by decide) (xm_lk xl_X1_88 xp_X1_fail (by decide) (xm_lk xl_X1_164 xp_X1_await (by decide) (xm_lk xl_X1_77 xp_X1_take (by decide) (xm_lk xl_X1_135 xp_X5_emit (by decide) xm_lk0))))) xo_X1_readUnitOrOpen ?_ ?_
  · rintro av g Q ⟨z, ⟨rfl, -⟩, -⟩
    exact Nat.le_of_ble_eq_true rfl
  · rintro av g Q ⟨⟨k, N, z, a, o, W, e⟩, ⟨rfl, tk, aN, ⟨s8, s7, s6, sW, sz, sc⟩, o6, w20, bd⟩, hQ⟩
    dsimp only at tk aN s8 s7 s6 sW sz sc o6 w20 bd hQ
    have N4 := tk.1
    have a4 : a ≤ 400 := by omega
    obtain ⟨t1, t2, t3, t4, t5⟩ := tk.2.2 a aN
    have lit : ∀ j, j < 1000 → (g.1 8 a = nI j ↔ k.1 a = j) := fun j hj => by rw [t1]; exact nI_eq (by omega) (by omega)
    have bdW : ∀ f p g1, xFt f p g1 → xWt W g1 → g1.1 38 12 = nI (z + e.length) → xBd f p z g1 := fun f p g1 h1 h2 h3 => ⟨h1, W, z + e.length, h2, h3, by omega, by omega⟩
    by_cases k40 : k.1 a = 40
    · have g40 : g.1 8 a = 40 := (lit 40 (by omega)).mpr k40
      by_cases ho : 6 ≤ o
      · have ft := uFail_ft (f := 2) s8 (Or.inr rfl) a4 s7 t2
        have fin := hQ (some (.int 1)) (uFail 2 a g) ⟨xFs.rf.fl _ _, fun j hj => by rw [uFail_o (by decide)], Or.inr (Or.inl ⟨k40, Or.inl ho, rfl, bdW 2 _ _ ft (uFail_w s8 sW) (by rw [uFail_o (by decide)]; exact sz)⟩)⟩
        refine xm_run_go hm 40 ⟨a, ⟨rfl, a4, s7⟩, ⟨fun q => absurd g40 q, fun _ => ⟨fun q => ?_, fun _ => ⟨(2, a), ⟨rfl, a4, s7⟩, ⟨Or.inr rfl, fin⟩⟩⟩⟩⟩
        rw [s6] at q; exact absurd ((nI_ltI (b := 6) (by omega) (by decide)).mp q) (by omega)
      · -- one more bracket
        have g1o : (xm_sI g 3 6 (g.1 3 6 + 1)).1 3 5 = nI W.length := by rw [xg_in, if_neg (by decide)]; exact sW.1
        have w1 : xWt W (xm_sI g 3 6 (g.1 3 6 + 1)) := ⟨g1o, sW.2.1, sW.2.2.1, fun i y hy => by rw [xg_off _ _ _ (by decide)]; exact sW.2.2.2 i y hy⟩
        have w2 := w1.push (x := 40) (by decide) (by omega : W.length < 21)
        have aw : uAwait (nI 40) W.length (xm_sI g 3 6 (g.1 3 6 + 1)) = xm_sI (xm_sI (xm_sI g 3 6 (g.1 3 6 + 1)) 6 W.length (nI 40)) 3 5 (nI (W.length + 1)) := by unfold uAwait; rw [if_pos (by omega)]
        have e40 : g.1 8 a = nI 40 := g40
        generalize hg2 : uAwait (nI 40) W.length (xm_sI g 3 6 (g.1 3 6 + 1)) = g2 at w2
        rw [hg2] at aw
        have f2 : xFs g g2 := by rw [aw]; exact ((xFs.rf.p3 _ (by omega)).p6 _ _).p3 _ (by omega)
        have q8 : g2.1 3 8 = 0 := by rw [aw, xg_in, if_neg (by decide), xg_off _ _ _ (by decide), xg_in, if_neg (by decide)]; exact s8
        have q7 : g2.1 3 7 = nI a := by rw [aw, xg_in, if_neg (by decide), xg_off _ _ _ (by decide), xg_in, if_neg (by decide)]; exact s7
        have q6 : g2.1 3 6 = nI (o + 1) := by rw [aw, xg_in, if_neg (by decide), xg_off _ _ _ (by decide), xg_in, if_pos rfl, s6, nI_1]
        have qz : g2.1 38 12 = nI (z + e.length) := by rw [aw, xg_off _ _ _ (by decide), xg_off _ _ _ (by decide), xg_off _ _ _ (by decide)]; exact sz
        have qc : g2.1 45 = g.1 45 := by rw [aw, xg_off _ _ _ (by decide), xg_off _ _ _ (by decide), xg_off _ _ _ (by decide)]
        have q9 : g2.1 9 = g.1 9 := by rw [aw, xg_off _ _ _ (by decide), xg_off _ _ _ (by decide), xg_off _ _ _ (by decide)]
        have eA : uAwait (g.1 8 a) W.length (xm_sI g 3 6 (g.1 3 6 + 1)) = g2 := by rw [e40, hg2]
        have fin : Q (some (.int 1)) (uTake true a g2) := by
          by_cases a4' : a < 400
          · obtain ⟨u1, u2⟩ := uTake_y q8 a4'
            rw [u1]
            refine hQ _ _ ⟨f2.p3 _ (by omega), fun j hj => by rw [xg_off _ _ _ (by decide), qc], Or.inl ⟨k40, by omega, a4', rfl, ?_, ?_, ?_, ?_, ?_, ?_⟩⟩
            · rw [xg_in, if_neg (by decide)]; exact q8
            · rw [xg_in, if_pos rfl]
            · rw [xg_in, if_neg (by decide)]; exact q6
            · exact ⟨by rw [xg_in, if_neg (by decide)]; exact w2.1, w2.2.1, w2.2.2.1, fun i y hy => by rw [xg_off _ _ _ (by decide)]; exact w2.2.2.2 i y hy⟩
            · rw [xg_off _ _ _ (by decide)]; exact qz
            · exact fun i q hq => by rw [xg_off _ _ _ (by decide), qc]; exact sc i q hq
          · obtain ⟨f, u1, -, u3, u4, u5⟩ := uTake_n (b := true) q8 (Or.inr (by omega : 400 ≤ a))
            rw [u4, u3 rfl]
            refine hQ _ _ ⟨f2.fl _ _, fun j hj => by rw [uFail_o (by decide), qc], Or.inr (Or.inl ⟨k40, Or.inr (by omega), rfl, uFail_ft q8 (Or.inr rfl) a4 q7 (by rw [q9]; exact t2), 40 :: W, z + e.length, uFail_w q8 w2, by rw [uFail_o (by decide)]; exact qz, by simp only [List.length_cons]; omega, by omega⟩)⟩
        have fin' : Q (some (.int 1)) (uTake true a (uAwait (g.1 8 a) W.length (xm_sI g 3 6 (g.1 3 6 + 1)))) := by rw [eA]; exact fin
        have q7' : (uAwait (g.1 8 a) W.length (xm_sI g 3 6 (g.1 3 6 + 1))).1 3 7 = nI a := by rw [eA]; exact q7
        refine xm_run_go hm 60 ⟨a, ⟨rfl, a4, s7⟩, ⟨fun q => absurd g40 q, fun _ => ⟨fun _ => ⟨(g.1 8 a, W.length), ⟨rfl, sW.2.1, g1o⟩, (true, a), ⟨rfl, a4, q7'⟩, ⟨Or.inr rfl, fin'⟩⟩, fun q => ?_⟩⟩⟩
        rw [s6] at q; exact absurd ((nI_leI (a := 6) (by decide) (by omega)).mp q) ho
    · have n40 : ¬ g.1 8 a = 40 := fun q => k40 ((lit 40 (by omega)).mp q)
      have tkf : ∀ b, (b = true ↔ pUn k a = true) → ∀ v, (pUn k a = true → a < 400 → v = xEn (pU k a)) → (¬ oTake b a g = 0 → ∃ y, y ≤ 408 ∧ (uTake b a g).1 38 12 = nI y ∧ Q (some (.int 0)) (uEmit v y (uTake b a g))) ∧ (oTake b a g = 0 → Q (some (.int 0)) (uTake b a g)) := fun b hb v hv => by
        by_cases hu : pUn k a = true
        · have hb := hb.mpr hu
          subst hb
          by_cases a4' : a < 400
          · obtain ⟨u1, u2⟩ := uTake_y s8 a4'
            have l4 : z + e.length < 408 := by omega
            refine ⟨fun _ => ⟨z + e.length, by omega, by rw [u1, xg_off _ _ _ (by decide)]; exact sz, ?_⟩, fun y => by rw [u2] at y; exact absurd y (by decide)⟩
            rw [u1]
            have em : uEmit v (z + e.length) (xm_sI g 3 7 (nI (a + 1))) = xm_sI (xm_sI (xm_sI g 3 7 (nI (a + 1))) 45 (z + e.length) v) 38 12 (nI (z + e.length + 1)) := by unfold uEmit; rw [if_pos l4]
            refine hQ _ _ ⟨(xFs.rf.p3 _ (by omega)).em _ _, fun j hj => by rw [em, xg_off _ _ _ (by decide), xg_in, if_neg (by omega), xg_off _ _ _ (by decide)], Or.inr (Or.inr (Or.inl ⟨k40, hu, a4', rfl, ?_, ?_, ?_, ?_, ?_, ?_⟩))⟩
            · rw [em, xg_off _ _ _ (by decide), xg_off _ _ _ (by decide), xg_in, if_neg (by decide)]; exact s8
            · rw [em, xg_off _ _ _ (by decide), xg_off _ _ _ (by decide), xg_in, if_pos rfl]
            · rw [em, xg_off _ _ _ (by decide), xg_off _ _ _ (by decide), xg_in, if_neg (by decide)]; exact s6
            · exact ⟨by rw [em, xg_off _ _ _ (by decide), xg_off _ _ _ (by decide), xg_in, if_neg (by decide)]; exact sW.1, sW.2.1, sW.2.2.1, fun i y hy => by rw [em, xg_off _ _ _ (by decide), xg_off _ _ _ (by decide), xg_off _ _ _ (by decide)]; exact sW.2.2.2 i y hy⟩
            · rw [em, xg_in, if_pos rfl, List.length_append]; rfl
            · intro i q hq
              rw [em, xg_off _ _ _ (by decide), xg_in]
              rcases Nat.lt_or_ge i e.length with r | r
              · rw [List.getElem?_append_left r] at hq
                rw [if_neg (by omega), xg_off _ _ _ (by decide)]; exact sc i q hq
              · rw [List.getElem?_append_right r] at hq
                have := (List.getElem?_eq_some_iff.mp hq).1
                simp only [List.length_singleton] at this
                have ei : i = e.length := by omega
                subst ei
                rw [Nat.sub_self] at hq
                cases hq
                rw [if_pos rfl]; exact hv hu a4'
          · obtain ⟨f, u1, -, u3, u4, u5⟩ := uTake_n (b := true) s8 (Or.inr (by omega : 400 ≤ a))
            refine ⟨fun y => absurd u5 y, fun _ => ?_⟩
            rw [u4, u3 rfl]
            exact hQ _ _ ⟨xFs.rf.fl _ _, fun j hj => by rw [uFail_o (by decide)], Or.inr (Or.inr (Or.inr (Or.inl ⟨k40, hu, by omega, rfl, bdW 2 _ _ (uFail_ft s8 (Or.inr rfl) a4 s7 t2) (uFail_w s8 sW) (by rw [uFail_o (by decide)]; exact sz)⟩)))⟩
        · have hb : b = false := by
            cases b with
            | false => rfl
            | true => exact absurd (hb.mp rfl) hu
          subst hb
          obtain ⟨f, u1, u2, -, u4, u5⟩ := uTake_n (b := false) (a := a) s8 (Or.inl rfl)
          refine ⟨fun y => absurd u5 y, fun _ => ?_⟩
          rw [u4, u2 rfl]
          have hu : pUn k a = false := by cases hh : pUn k a with | false => rfl | true => exact absurd hh hu
          exact hQ _ _ ⟨xFs.rf.fl _ _, fun j hj => by rw [uFail_o (by decide)], Or.inr (Or.inr (Or.inr (Or.inr ⟨k40, hu, rfl, bdW 1 _ _ (uFail_ft s8 (Or.inl rfl) a4 s7 t2) (uFail_w s8 sW) (by rw [uFail_o (by decide)]; exact sz)⟩)))⟩
      have var : 139 ≤ g.1 8 a ∧ g.1 8 a ≤ 147 ↔ 139 ≤ k.1 a ∧ k.1 a ≤ 147 := by
        rw [t1]
        exact and_congr (nI_leI (a := 139) (by decide) (by omega)) (nI_leI (b := 147) (by omega) (by decide))
      have isI : g.1 8 a = 3 ↔ k.1 a = 3 := lit 3 (by omega)
      have vv : 139 ≤ k.1 a ∧ k.1 a ≤ 147 → -1 - (g.1 8 a - 139) = xEn (pU k a) := fun q => by
        have : ∀ j, j < 148 → 139 ≤ j → -1 - (nI j - 139) = xEn (1, j - 139) := by decide +kernel
        rw [t1, this (k.1 a) t3 q.1]
        unfold pU
        rw [if_neg (by omega)]
      have nvv : k.1 a = 3 → a < 400 → ∀ g1 : xG, g1.2 = g.2 → (g1.2.1 10 a).toInt32 = xEn (pU k a) := fun q _ g1 e2 => by
        rw [e2, (t5 q).1, lN_i32]
        unfold pU
        rw [if_pos q]; rfl
      have n3 : ∀ q : Nat, q < 1000 → ¬ k.1 a = q → ¬ g.1 8 a = nI q := fun q hq h1 h2 => h1 ((lit q hq).mp h2)
      by_cases k3 : k.1 a = 3
      · have g3 : g.1 8 a = 3 := isI.mpr k3
        have lt139 : g.1 8 a < 139 := by rw [g3]; decide
        have u : pUn k a = true := pUn_i.mpr (Or.inl k3)
        by_cases a4' : a < 400
        · obtain ⟨u1, u2⟩ := uTake_y s8 a4'
          obtain ⟨t1', -⟩ := tkf true ⟨fun _ => u, fun _ => rfl⟩ ((uTake true a g).2.1 10 a).toInt32 (fun _ h4 => nvv k3 h4 _ (by rw [u1]; rfl))
          obtain ⟨y, y1, y2, y3⟩ := t1' (by rw [u2]; decide)
          have ix : (uTake true a g).1 3 7 - 1 = nI a := by rw [u1, xg_in, if_pos rfl, nI_pred]
          refine xm_run_go hm 60 ⟨a, ⟨rfl, a4, s7⟩, ⟨fun _ => ⟨fun _ => ⟨fun _ => ⟨(true, a), ⟨rfl, a4, s7⟩, ⟨fun q => ?_, fun _ => ⟨fun _ => ⟨a, ⟨by omega, ix⟩, (((uTake true a g).2.1 10 a).toInt32, y), ⟨rfl, y1, y2⟩, ⟨Or.inl rfl, y3⟩⟩, fun q => absurd rfl q⟩⟩⟩, fun q => absurd g3 q⟩, fun q => absurd lt139 (Int32.not_lt.mpr q)⟩, fun q => absurd q n40⟩⟩
          rw [u2] at q; exact absurd q (by decide)
        · obtain ⟨f, -, -, -, -, u5⟩ := uTake_n (b := true) s8 (Or.inr (by omega : 400 ≤ a))
          obtain ⟨-, t2'⟩ := tkf true ⟨fun _ => u, fun _ => rfl⟩ 0 (fun _ h4 => absurd h4 a4')
          exact xm_run_go hm 60 ⟨a, ⟨rfl, a4, s7⟩, ⟨fun _ => ⟨fun _ => ⟨fun _ => ⟨(true, a), ⟨rfl, a4, s7⟩, ⟨fun q => ⟨Or.inl rfl, t2' q⟩, fun q => absurd u5 q⟩⟩, fun q => absurd g3 q⟩, fun q => absurd lt139 (Int32.not_lt.mpr q)⟩, fun q => absurd q n40⟩⟩
      · have ng3 : ¬ g.1 8 a = 3 := fun q => k3 (isI.mp q)
        by_cases kv : 139 ≤ k.1 a ∧ k.1 a ≤ 147
        · obtain ⟨v1, v2⟩ := var.mpr kv
          have u : pUn k a = true := pUn_i.mpr (Or.inr kv)
          by_cases a4' : a < 400
          · obtain ⟨u1, u2⟩ := uTake_y s8 a4'
            obtain ⟨t1', -⟩ := tkf true ⟨fun _ => u, fun _ => rfl⟩ (-1 - (g.1 8 a - 139)) (fun _ _ => vv kv)
            obtain ⟨y, y1, y2, y3⟩ := t1' (by rw [u2]; decide)
            refine xm_run_go hm 60 ⟨a, ⟨rfl, a4, s7⟩, ⟨fun _ => ⟨fun q => absurd v1 (Int32.not_le.mpr q), fun _ => ⟨fun q => absurd v2 (Int32.not_le.mpr q), fun _ => ⟨fun q => absurd q ng3, fun _ => ⟨fun q => absurd q (by decide), fun _ => ⟨(true, a), ⟨rfl, a4, s7⟩, ⟨fun q => ?_, fun _ => ⟨fun q => absurd q (by decide), fun _ => ⟨(-1 - (g.1 8 a - 139), y), ⟨rfl, y1, y2⟩, ⟨Or.inl rfl, y3⟩⟩⟩⟩⟩⟩⟩⟩⟩, fun q => absurd q n40⟩⟩
            rw [u2] at q; exact absurd q (by decide)
          · obtain ⟨f, -, -, -, -, u5⟩ := uTake_n (b := true) s8 (Or.inr (by omega : 400 ≤ a))
            obtain ⟨-, t2'⟩ := tkf true ⟨fun _ => u, fun _ => rfl⟩ 0 (fun _ h4 => absurd h4 a4')
            exact xm_run_go hm 60 ⟨a, ⟨rfl, a4, s7⟩, ⟨fun _ => ⟨fun q => absurd v1 (Int32.not_le.mpr q), fun _ => ⟨fun q => absurd v2 (Int32.not_le.mpr q), fun _ => ⟨fun q => absurd q ng3, fun _ => ⟨fun q => absurd q (by decide), fun _ => ⟨(true, a), ⟨rfl, a4, s7⟩, ⟨fun q => ⟨Or.inl rfl, t2' q⟩, fun q => absurd u5 q⟩⟩⟩⟩⟩⟩, fun q => absurd q n40⟩⟩
        · have nu : ¬ pUn k a = true := fun q => by rcases pUn_i.mp q with q | q; exact k3 q; exact kv q
          obtain ⟨f, -, -, -, -, u5⟩ := uTake_n (b := false) (a := a) s8 (Or.inl rfl)
          obtain ⟨-, t2'⟩ := tkf false ⟨(fun q => by cases q), fun q => absurd q nu⟩ 0 (fun q _ => absurd q nu)
          refine xm_run_go hm 60 ⟨a, ⟨rfl, a4, s7⟩, ⟨fun _ => ⟨fun _ => ⟨fun q => absurd q ng3, fun _ => ⟨fun _ => ⟨(false, a), ⟨rfl, a4, s7⟩, ⟨fun q => ⟨Or.inl rfl, t2' q⟩, fun q => absurd u5 q⟩⟩, fun q => absurd rfl q⟩⟩, fun q1 => ⟨fun _ => ⟨fun q => absurd q ng3, fun _ => ⟨fun _ => ⟨(false, a), ⟨rfl, a4, s7⟩, ⟨fun q => ⟨Or.inl rfl, t2' q⟩, fun q => absurd u5 q⟩⟩, fun q => absurd rfl q⟩⟩, fun q2 => absurd (var.mp ⟨q1, q2⟩) kv⟩⟩, fun q => absurd q n40⟩⟩
