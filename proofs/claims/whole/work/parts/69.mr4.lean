-- THE REFERENCE READS: its list of names
def pKn (lo : Nat) (n : List Nat) : List (List Nat × Nat) → Option Nat
  | [] => none
  | q :: r => if q.1 = n ∧ lo ≤ q.2 ∧ q.2 < lo + 10 then some (q.2 - lo) else pKn lo n r
def pAny (n : List Nat) : List (List Nat × Nat) → Bool
  | [] => false
  | q :: r => if q.1 = n then true else pAny n r
theorem pKn_app (lo : Nat) (n : List Nat) (q : List Nat × Nat) : ∀ l : List (List Nat × Nat), pKn lo n (l ++ [q]) = match pKn lo n l with
    | some x => some x
    | none => if q.1 = n ∧ lo ≤ q.2 ∧ q.2 < lo + 10 then some (q.2 - lo) else none
  | [] => rfl
  | p :: l => by
    have ih := pKn_app lo n q l
    rw [List.cons_append]
    unfold pKn
    by_cases c : p.1 = n ∧ lo ≤ p.2 ∧ p.2 < lo + 10
    · rw [if_pos c, if_pos c]
    · rw [if_neg c, if_neg c]; exact ih
theorem pFd_app (n m : List Nat) : ∀ l : List (List Nat), pFd n (l ++ [m]) = match pFd n l with
    | some x => some x
    | none => if m = n then some l.length else none
  | [] => by
    show (if m = n then some 0 else (none : Option Nat).map (· + 1)) = _
    rfl
  | p :: l => by
    have ih := pFd_app n m l
    rw [List.cons_append]
    unfold pFd
    by_cases c : p = n
    · rw [if_pos c, if_pos c]
    · rw [if_neg c, if_neg c, ih]
      cases pFd n l with
      | some x => rfl
      | none =>
        by_cases d : m = n
        · simp only [if_pos d]; rfl
        · simp only [if_neg d]; rfl
theorem pAny_k (n : List Nat) : ∀ nm : List (List Nat × Nat), (∀ q, q ∈ nm → q.2 < 20) → pAny n nm = ((pKn 0 n nm).isSome || (pKn 10 n nm).isSome)
  | [], _ => rfl
  | q :: r, h => by
    have ih := pAny_k n r (fun x hx => h x (List.mem_cons_of_mem _ hx))
    have hq := h q (List.mem_cons_self ..)
    unfold pAny pKn
    by_cases c : q.1 = n
    · rw [if_pos c]
      by_cases d : q.2 < 10
      · rw [if_pos ⟨c, by omega, by omega⟩]; rfl
      · rw [if_pos (show q.1 = n ∧ 10 ≤ q.2 ∧ q.2 < 10 + 10 from ⟨c, by omega, by omega⟩)]
        simp
    · rw [if_neg c, if_neg (fun z => c z.1), if_neg (fun z => c z.1)]; exact ih
def mNt (nm : List (List Nat × Nat)) (g : xG) : Prop := g.1 0 20 = nI nm.length ∧ nm.length ≤ 11 ∧ ∀ i q, nm[i]? = some q → g.2.1 8 i = pNm 27 q.1 ∧ g.1 9 i = nI q.2 ∧ pNok q.1 ∧ q.2 < 20
def pNn (nm : List (List Nat × Nat)) (s : pSt) : Prop := nm.length = (qS s).length + (qP s).length ∧ ∀ n, pKn 0 n nm = pFd n (pNs s) ∧ pKn 10 n nm = pFd n (pNp s)
theorem mNt.w {nm : List (List Nat × Nat)} {g g' : xG} (h : mNt nm g) (f : mFw g g') : mNt nm g' := ⟨(f.2.2 20 (by decide) (by decide) (by decide) (by decide) (by decide)).trans h.1, h.2.1, fun i q hq => by rw [f.1, f.2.1 9 (by decide)]; exact h.2.2 i q hq⟩
theorem mNt.dp {nm : List (List Nat × Nat)} {g : xG} {s : pSt} (h : mNt nm g) (hs : pNn nm s) (n : List Nat) : pAny n nm = pDp s n := by
  rw [pAny_k n nm (fun q hq => by obtain ⟨i, hi⟩ := List.mem_iff_getElem?.mp hq; exact (h.2.2 i q hi).2.2.2), (hs.2 n).1, (hs.2 n).2]; rfl
theorem nWr_2 (n p : Nat) (g : xG) (hn : 3 ≤ n ∧ n ≤ 5) : nWr n p (nWr n p g) = nWr n p g := by
  by_cases c : g.1 0 13 = 0 ∧ g.1 0 15 = 0
  · have e : nWr n p g = xm_sI (xm_sI g 0 15 (nI n)) 0 16 (nI p) := by unfold nWr; rw [if_pos c]
    rw [e]
    unfold nWr
    rw [if_neg (fun z => ?_)]
    have := z.2
    rw [xg_in, if_neg (by decide), xg_in, if_pos rfl] at this
    have := nI_inj (b := 0) (by omega) (by omega) this
    omega
  · have e : nWr n p g = g := by unfold nWr; rw [if_neg c]
    rw [e, e]
def xt_X9_named : xT := xm_rl (Z := vTk × Nat × (pF ⊕ Nat) × Option pF × List (List Nat × Nat)) (fun (k, N, r, l, nm) av g => av = [.ref 0] ∧ mTk k N g ∧ pKk k N ∧ mAt N r g ∧ mLq k r l g ∧ mNt nm g)
  (fun (k, N, r, l, nm) g o g' => ∃ tk, o = some (.int (nI tk)) ∧ tk ≤ 400 ∧ mFw g g' ∧ mAt N (pBn r (pMu k 2)) g' ∧ ∀ b, pBn r (pMu k 2) = .inr (b + 1) → tk = b ∧ mLate (pLt l (pAny (k.2.2.2 b) nm) 3 (k.2.1 b)) (k.2.1 (b + 1)) g')
set_option maxRecDepth 100000 in
set_option maxHeartbeats 400000 in
theorem xp_X9_named {l : Launch} {D : va_G} {cA : Nat → ClassId} {B : List (Nat × Cell)} : xm_Met l D cA B xs_M 3 yX9_named cX9_named 3 (some .int) xt_X9_named := by
  have hm : xm_monos [xt_X9_must, xt_X9_wrong] := ⟨(by first | exact xm_fn_mono _ _ _ | exact xm_rl_mono _ _), (by first | exact xm_fn_mono _ _ _ | exact xm_rl_mono _ _), trivial⟩
  refine xm_meth (own := RX9) (ks := xk_X9_named) (C := xc_X9_named) (Ts := [xt_X9_must, xt_X9_wrong]) (by decide +kernel) rfl xm_clsok xs_M_ok xf_X9_ok xi_X9_ok xj_X9_ok (xm_lk xl_X9_275 xp_X9_must (by decide) (xm_lk xl_X9_281 xp_X9_wrong (by decide) xm_lk0)) xo_X9_named ?_ ?_
  · rintro av g Q ⟨z, ⟨rfl, -⟩, -⟩
    exact Nat.le_of_ble_eq_true rfl
  · rintro av g Q ⟨⟨k, N, r, l, nm⟩, ⟨rfl, tk, kk, hat, hla, nt⟩, hQ⟩
    dsimp only at tk kk hat hla nt hQ
    obtain ⟨a, a4, e11, ok, hr⟩ := hat.pos tk
    have at0 := hat.mu tk a4 e11 (c := 2) (by decide) (by decide) (by decide)
    have f1 : mFw g (nMust 1 a g) := mFw.rf.mu _ _
    generalize hg1 : nMust 1 a g = g1 at f1
    have at1 : mAt N (pBn r (pMu k 2)) g1 := by rw [← hg1]; exact at0
    clear at0
    have nt1 := nt.w f1
    have tk1 := tk.w f1
    have nl := nt.2.1
    cases hb : pBn r (pMu k 2) with
    | inl q =>
      rw [hb] at at1 hQ
      have fl : mFl q.1 q.2 g1 := at1
      have fin := hQ _ _ ⟨a, rfl, a4, f1, fl, fun b hb => by cases hb⟩
      have go : xm_go xs_M xk_X9_named [xt_X9_must, xt_X9_wrong] xc_X9_named Q (xm_drop 8 xc_X9_named) [.ref 0, .int (nI a), .int 0] [] g1 := xm_run_go hm 40 ⟨fun _ => fin, fun _ => ⟨fun _ => fin, fun z => absurd z fl.n0⟩⟩
      rw [← hg1] at go
      rw [← e11] at go
      exact xm_run_go hm 20 ⟨(1, a), ⟨rfl, a4, e11, ok⟩, xm_cut hm go⟩
    | inr b' =>
      obtain ⟨b, rb, hmu⟩ := pBn_i.mp hb
      obtain ⟨k2, b4, rfl⟩ := pMu_i.mp hmu
      obtain ⟨rfl, bN⟩ := hr b rb
      rw [hb] at at1 hQ
      obtain ⟨h13, h11, bN'⟩ := id at1
      have lt0 : mLate l (k.2.1 b) g1 := by
        have := hla b rb
        have en : nMust 1 b g = xm_sI g 0 11 (nI (b + 1)) := by
          have h13' : g.1 0 13 = 0 := by rw [rb] at hat; exact hat.1
          unfold nMust nGo
          rw [if_pos ⟨h13', (nI_lit tk bN (c := 2) (by decide) (by decide)).mpr k2⟩, if_neg (by omega)]
        exact this.k (Nat.le_refl _) (by rw [← hg1, en, xg_in, if_neg (by decide)]) (by rw [← hg1, en, xg_in, if_neg (by decide)])
      obtain ⟨t1, t2, -, t4, -⟩ := tk1.2.2 b bN
      have nok := (kk.1 b bN).1 k2
      have p2 := (kk.1 b bN).2
      have pp := kk.2 b (b + 1) (by omega) bN'
      have wf := nWr_f 3 (k.2.1 b) g1
      have loop : ∀ (rs : List (List Nat × Nat)) (i : Nat), i + rs.length = nm.length → (∀ j, rs[j]? = nm[i + j]?) → ∀ (d : Bool) (g2 : xG), g2 = (if d then nWr 3 (k.2.1 b) g1 else g1) → pAny (k.2.2.2 b) nm = (d || pAny (k.2.2.2 b) rs) → ∀ x, x = nI i → xm_go xs_M xk_X9_named [xt_X9_must, xt_X9_wrong] xc_X9_named Q (xm_drop 8 xc_X9_named) [.ref 0, .int (nI b), .int x] [] g2 := by
        intro rs
        induction rs with
        | nil =>
          intro i hi hj d g2 hg2 hA x hx
          have hi : i = nm.length := hi
          have f2 : mFw g1 g2 := by rw [hg2]; split; exact wf.1; exact mFw.rf
          have ge : g2.1 0 20 ≤ x := by rw [(nt1.w f2).1, hx, hi]; exact Int32.le_refl _
          refine xm_run_go hm 40 ⟨fun _ => hQ _ _ ⟨b, rfl, a4, f1.tr f2, ?_, fun b' hb' => ?_⟩, fun z => absurd ge (Int32.not_le.mpr z)⟩
          · have k2 : ∀ j, j ≠ 15 → j ≠ 16 → g2.1 0 j = g1.1 0 j := fun j h1 h2 => by rw [hg2]; split; exact wf.2 j h1 h2; rfl
            exact ⟨by rw [k2 13 (by decide) (by decide)]; exact h13, by rw [k2 11 (by decide) (by decide)]; exact h11, bN'⟩
          · cases hb'
            refine ⟨rfl, ?_⟩
            have hA : pAny (k.2.2.2 b) nm = d := by rw [hA]; cases d <;> rfl
            rw [hA, hg2]
            cases d with
            | true => rw [if_pos rfl]; exact (nWr_l h13 ⟨by decide, by decide⟩ p2 lt0).k (by omega) rfl rfl
            | false =>
              rw [if_neg (by decide)]
              have : pLt l false 3 (k.2.1 b) = l := by unfold pLt; cases l <;> rfl
              rw [this]; exact lt0.k (by omega) rfl rfl
        | cons q rs ih =>
          intro i hi hj d g2 hg2 hA x hx
          have hi' : i + rs.length + 1 = nm.length := by rw [← hi, List.length_cons]; omega
          have hq : nm[i]? = some q := by have := hj 0; rw [Nat.add_zero] at this; rw [← this]; rfl
          have hj' : ∀ j, rs[j]? = nm[i + 1 + j]? := fun j => by
            have := hj (j + 1)
            rw [List.getElem?_cons_succ] at this
            rw [this]; congr 1; omega
          have f2 : mFw g1 g2 := by rw [hg2]; split; exact wf.1; exact mFw.rf
          have k2 : ∀ j, j ≠ 15 → j ≠ 16 → g2.1 0 j = g1.1 0 j := fun j h1 h2 => by rw [hg2]; split; exact wf.2 j h1 h2; rfl
          have nt2 := nt1.w f2
          have lt : ¬ g2.1 0 20 ≤ x := by rw [nt2.1, hx]; exact nI_ge (by omega) (by omega)
          have e13 : g2.1 0 13 = 0 := by rw [k2 13 (by decide) (by decide)]; exact h13
          obtain ⟨n1, n2, n3, n4⟩ := nt2.2.2 i q hq
          have nb : g2.2.1 6 b = pNm 27 (k.2.2.2 b) := by rw [f2.1]; exact t4 (by assumption)
          have same : g2.2.1 8 i = g2.2.1 6 b ↔ q.1 = k.2.2.2 b := by rw [n1, nb]; exact pNm_inj (b := 27) ⟨by decide, by decide⟩ n3 nok
          have inc : x + 1 = nI (i + 1) := by rw [hx]; exact nI_1 i
          by_cases c : q.1 = k.2.2.2 b
          · have go := ih (i + 1) (by omega) hj' true (nWr 3 (k.2.1 b) g2) (by
              rw [if_pos rfl, hg2]
              cases d with
              | true => rw [if_pos rfl, nWr_2 _ _ _ ⟨by decide, by decide⟩]
              | false => rw [if_neg (by decide)]) (by
              rw [hA]
              have : pAny (k.2.2.2 b) (q :: rs) = true := by show (if q.1 = _ then true else _) = true; rw [if_pos c]
              rw [this]; cases d <;> rfl) (x + 1) inc
            have e4 : g2.1 4 b = nI (k.2.1 b) := by rw [f2.2.1 4 (by decide)]; exact t2
            have pre : g2.1 0 15 = 0 ∨ ∃ m q, 3 ≤ m ∧ m ≤ 5 ∧ q ≤ k.2.1 b ∧ (q = k.2.1 b → m ≤ 3) ∧ g2.1 0 15 = nI m ∧ g2.1 0 16 = nI q := by
              rw [hg2]
              cases d with
              | false => rw [if_neg (by decide)]; exact lt0.pre
              | true =>
                rw [if_pos rfl]
                unfold nWr
                by_cases cc : g1.1 0 13 = 0 ∧ g1.1 0 15 = 0
                · rw [if_pos cc]
                  exact Or.inr ⟨3, k.2.1 b, by decide, by decide, Nat.le_refl _, fun _ => Nat.le_refl _, by rw [xg_in, if_neg (by decide), xg_in, if_pos rfl], by rw [xg_in, if_pos rfl]⟩
                · rw [if_neg cc]; exact lt0.pre
            exact xm_run_go hm 60 ⟨fun z => absurd z lt, fun _ => ⟨fun z => absurd e13 z, fun _ => ⟨i, ⟨by omega, hx⟩, b, ⟨by omega, rfl⟩, ⟨fun z => absurd ((lg_cmp_eq _ _).mpr (same.mpr c)) z, fun _ => ⟨(3, b, k.2.1 b), ⟨rfl, a4, e4, p2, by decide, by decide, Or.inl e13, pre⟩, xm_cut hm go⟩⟩⟩⟩⟩
          · have go := ih (i + 1) (by omega) hj' d g2 hg2 (by
              rw [hA]
              have : pAny (k.2.2.2 b) (q :: rs) = pAny (k.2.2.2 b) rs := by show (if q.1 = _ then true else _) = _; rw [if_neg c]
              rw [this]) (x + 1) inc
            exact xm_run_go hm 60 ⟨fun z => absurd z lt, fun _ => ⟨fun z => absurd e13 z, fun _ => ⟨i, ⟨by omega, hx⟩, b, ⟨by omega, rfl⟩, ⟨fun _ => xm_cut hm go, fun z => absurd (same.mp ((lg_cmp_eq _ _).mp z)) c⟩⟩⟩⟩
      have go := loop nm 0 (by omega) (fun j => by rw [Nat.zero_add]) false g1 (by rw [if_neg (by decide)]) rfl 0 rfl
      rw [← hg1, ← e11] at go
      exact xm_run_go hm 20 ⟨(1, b), ⟨rfl, a4, e11, ok⟩, xm_cut hm go⟩
/-- the list of names may grow -/
def mFn (g g' : xG) : Prop := g'.2.2 = g.2.2 ∧ (∀ k, k ≠ 8 → g'.2.1 k = g.2.1 k) ∧ (∀ k, k ≠ 0 → k ≠ 9 → g'.1 k = g.1 k) ∧ ∀ j, j ≠ 11 → j ≠ 13 → j ≠ 14 → j ≠ 15 → j ≠ 16 → j ≠ 20 → g'.1 0 j = g.1 0 j
theorem mFw.n {g g' : xG} (f : mFw g g') : mFn g g' := ⟨by rw [f.1], fun k _ => by rw [f.1], fun k h _ => f.2.1 k h, fun j a b c d e _ => f.2.2 j a b c d e⟩
def xt_X9_endsName : xT := xm_rl (Z := vTk × Nat × (pF ⊕ Nat) × List (List Nat × Nat) × Nat × Nat) (fun (k, N, r, nm, tk, p) av g => av = [.ref 0, .int (nI tk), .int (nI p)] ∧ tk ≤ 400 ∧ mTk k N g ∧ mAt N r g ∧ mNt nm g ∧ nm.length ≤ 10)
  (fun (k, N, r, nm, tk, p) g o g' => o = none ∧ mFn g g' ∧ (g'.1 0 15 = g.1 0 15 ∧ g'.1 0 16 = g.1 0 16) ∧ mAt N (pBn r (pMu k 59)) g' ∧ ∀ b, pBn r (pMu k 59) = .inr b → tk ≤ N → k.1 tk = 2 → pNok (k.2.2.2 tk) → p < 20 → mNt (nm ++ [(k.2.2.2 tk, p)]) g')
set_option maxRecDepth 100000 in
set_option maxHeartbeats 400000 in
theorem xp_X9_endsName {l : Launch} {D : va_G} {cA : Nat → ClassId} {B : List (Nat × Cell)} : xm_Met l D cA B xs_M 3 yX9_endsName cX9_endsName 3 none xt_X9_endsName := by
  have hm : xm_monos [xt_X9_must] := ⟨(by first | exact xm_fn_mono _ _ _ | exact xm_rl_mono _ _), trivial⟩
  refine xm_meth (own := RX9) (ks := xk_X9_endsName) (C := xc_X9_endsName) (Ts := [xt_X9_must]) (by decide +kernel) rfl xm_clsok xs_M_ok xf_X9_ok xi_X9_ok xj_X9_ok (xm_lk xl_X9_275 xp_X9_must (by decide) xm_lk0) xo_X9_endsName ?_ ?_
  · rintro av g Q ⟨z, ⟨rfl, -⟩, -⟩
    exact Nat.le_of_ble_eq_true rfl
  · rintro av g Q ⟨⟨k, N, r, nm, tk, p⟩, ⟨rfl, tk4, hk, hat, nt, nl⟩, hQ⟩
    dsimp only at tk4 hk hat nt nl hQ
    obtain ⟨a, a4, e11, ok, hr⟩ := hat.pos hk
    have at0 := hat.mu hk a4 e11 (c := 59) (by decide) (by decide) (by decide)
    have f1 : mFw g (nMust 4 a g) := mFw.rf.mu _ _
    have j1 : ∀ j, j ≠ 11 → j ≠ 13 → j ≠ 14 → (nMust 4 a g).1 0 j = g.1 0 j := fun j h1 h2 h3 => by
      unfold nMust nGo
      split
      · split
        · exact nFail_j h2 h3
        · rw [xg_in, if_neg h1]
      · exact nFail_j h2 h3
    generalize hg1 : nMust 4 a g = g1 at f1 j1
    have at1 : mAt N (pBn r (pMu k 59)) g1 := by rw [← hg1]; exact at0
    clear at0
    have nt1 := nt.w f1
    have k1 := hk.w f1
    cases hb : pBn r (pMu k 59) with
    | inl q =>
      rw [hb] at at1 hQ
      have fl : mFl q.1 q.2 g1 := at1
      have fin := hQ _ _ ⟨rfl, f1.n, ⟨j1 15 (by decide) (by decide) (by decide), j1 16 (by decide) (by decide) (by decide)⟩, fl, fun b hb => by cases hb⟩
      have gt : ¬ g1.1 0 13 ≤ 0 := by
        rw [fl.1]; rcases fl.2.1 with z | z <;> rw [z] <;> decide
      rw [← hg1] at fin gt
      exact xm_run_go hm 40 ⟨(4, a), ⟨rfl, a4, e11, ok⟩, ⟨fun z => absurd z gt, fun _ => fin⟩⟩
    | inr b =>
      rw [hb] at at1 hQ
      obtain ⟨h13, h11, bN'⟩ := id at1
      have le : g1.1 0 13 ≤ 0 := by rw [h13]; decide
      generalize hg2 : xm_sI (xm_sI (xm_sL g1 8 nm.length (g1.2.1 6 tk)) 9 nm.length (nI p)) 0 20 ((xm_sI (xm_sL g1 8 nm.length (g1.2.1 6 tk)) 9 nm.length (nI p)).1 0 20 + 1) = g2
      have q1 : g2.2.2 = g1.2.2 := by rw [← hg2]; rfl
      have q2 : ∀ k i, g2.2.1 k i = if k = 8 then (if i = nm.length then g1.2.1 6 tk else g1.2.1 8 i) else g1.2.1 k i := fun k i => by
        rw [← hg2]
        show (xm_u2L g1.2.1 8 nm.length (g1.2.1 6 tk)) k i = _
        unfold xm_u2L
        by_cases c : k = 8
        · subst c; rfl
        · rw [if_neg c, if_neg c]
      have q3 : ∀ k, k ≠ 0 → k ≠ 9 → g2.1 k = g1.1 k := fun k h1 h2 => by
        rw [← hg2, xg_off _ _ _ h1, xg_off _ _ _ h2]; rfl
      have q4 : ∀ j, j ≠ 20 → g2.1 0 j = g1.1 0 j := fun j h => by
        rw [← hg2, xg_in, if_neg h, xg_off _ _ _ (by decide)]; rfl
      have q5 : g2.1 0 20 = nI (nm.length + 1) := by
        rw [← hg2, xg_in, if_pos rfl, xg_off _ _ _ (by decide)]
        show g1.1 0 20 + 1 = _
        rw [nt1.1, nI_1]
      have q6 : ∀ i, g2.1 9 i = if i = nm.length then nI p else g1.1 9 i := fun i => by
        rw [← hg2, xg_off _ _ _ (by decide), xg_in]; rfl
      have fin := hQ none g2 ⟨rfl, ⟨q1.trans (by rw [f1.1]), fun k h => by funext i; rw [q2, if_neg h, f1.1], fun k h1 h2 => (q3 k h1 h2).trans (f1.2.1 k h1), fun j a b c d e h => (q4 j h).trans (f1.2.2 j a b c d e)⟩, ⟨(q4 15 (by decide)).trans (j1 15 (by decide) (by decide) (by decide)), (q4 16 (by decide)).trans (j1 16 (by decide) (by decide) (by decide))⟩, ⟨(q4 13 (by decide)).trans h13, (q4 11 (by decide)).trans h11, bN'⟩, fun b' _ tN tk2 nok p20 => ?_⟩
      · have e20 : g1.1 0 20 = nI nm.length := nt1.1
        have e20' : (xm_sL g1 8 nm.length (g1.2.1 6 tk)).1 0 20 = nI nm.length := e20
        rw [← hg2] at fin
        rw [← hg1] at fin e20 e20' le
        exact xm_run_go hm 60 ⟨(4, a), ⟨rfl, a4, e11, ok⟩, ⟨fun _ => ⟨tk, ⟨by omega, rfl⟩, nm.length, ⟨by omega, e20⟩, nm.length, ⟨by omega, e20'⟩, fin⟩, fun z => absurd le (Int32.not_le.mpr z)⟩⟩
      · obtain ⟨-, -, -, t4, -⟩ := k1.2.2 tk tN
        refine ⟨by rw [q5, List.length_append]; rfl, by rw [List.length_append, List.length_singleton]; omega, fun i q hq => ?_⟩
        by_cases c : i < nm.length
        · rw [List.getElem?_append_left c] at hq
          rw [q2, if_pos rfl, if_neg (by omega), q6, if_neg (by omega)]
          exact nt1.2.2 i q hq
        · rw [List.getElem?_append_right (by omega)] at hq
          have ei : i = nm.length := by
            have := (List.getElem?_eq_some_iff.mp hq).1
            simp only [List.length_singleton] at this
            omega
          subst ei
          rw [Nat.sub_self] at hq
          cases hq
          rw [q2, if_pos rfl, if_pos rfl, q6, if_pos rfl]
          exact ⟨t4 tk2, rfl, nok, p20⟩
def xt_X9_known : xT := xm_rl (Z := vTk × Nat × (pF ⊕ Nat) × Option pF × List (List Nat × Nat) × Nat) (fun (k, N, r, l, nm, lo) av g => av = [.ref 0, .int (nI lo)] ∧ lo ≤ 10 ∧ mTk k N g ∧ pKk k N ∧ mAt N r g ∧ mLq k r l g ∧ mNt nm g)
  (fun (k, N, r, l, nm, lo) g o g' => ∃ v, o = some (.int v) ∧ mFw g g' ∧ mAt N (pBn r (pMu k 2)) g' ∧ ∀ b, pBn r (pMu k 2) = .inr (b + 1) → (∀ x, pKn lo (k.2.2.2 b) nm = some x → v = nI x) ∧ mLate (pLt l (pKn lo (k.2.2.2 b) nm).isNone 4 (k.2.1 b)) (k.2.1 (b + 1)) g')
set_option maxRecDepth 100000 in
set_option maxHeartbeats 400000 in
theorem xp_X9_known {l : Launch} {D : va_G} {cA : Nat → ClassId} {B : List (Nat × Cell)} : xm_Met l D cA B xs_M 3 yX9_known cX9_known 4 (some .int) xt_X9_known := by
  have hm : xm_monos [xt_X9_must, xt_X9_wrong] := ⟨(by first | exact xm_fn_mono _ _ _ | exact xm_rl_mono _ _), (by first | exact xm_fn_mono _ _ _ | exact xm_rl_mono _ _), trivial⟩
  refine xm_meth (own := RX9) (ks := xk_X9_known) (C := xc_X9_known) (Ts := [xt_X9_must, xt_X9_wrong]) (by decide +kernel) rfl xm_clsok xs_M_ok xf_X9_ok xi_X9_ok xj_X9_ok (xm_lk xl_X9_275 xp_X9_must (by decide) (xm_lk xl_X9_281 xp_X9_wrong (by decide) xm_lk0)) xo_X9_known ?_ ?_
  · rintro av g Q ⟨z, ⟨rfl, -⟩, -⟩
    exact Nat.le_of_ble_eq_true rfl
  · rintro av g Q ⟨⟨k, N, r, l, nm, lo⟩, ⟨rfl, lo10, tk, kk, hat, hla, nt⟩, hQ⟩
    dsimp only at lo10 tk kk hat hla nt hQ
    obtain ⟨a, a4, e11, ok, hr⟩ := hat.pos tk
    have at0 := hat.mu tk a4 e11 (c := 2) (by decide) (by decide) (by decide)
    have f1 : mFw g (nMust 1 a g) := mFw.rf.mu _ _
    generalize hg1 : nMust 1 a g = g1 at f1
    have at1 : mAt N (pBn r (pMu k 2)) g1 := by rw [← hg1]; exact at0
    clear at0
    have nt1 := nt.w f1
    have tk1 := tk.w f1
    have nl := nt.2.1
    cases hb : pBn r (pMu k 2) with
    | inl q =>
      rw [hb] at at1 hQ
      have fl : mFl q.1 q.2 g1 := at1
      have fin := hQ _ _ ⟨-1, rfl, f1, fl, fun b hb => by cases hb⟩
      have gt : ¬ g1.1 0 13 ≤ 0 := by
        rw [fl.1]; rcases fl.2.1 with z | z <;> rw [z] <;> decide
      rw [← hg1] at fin gt
      exact xm_run_go hm 40 ⟨(1, a), ⟨rfl, a4, e11, ok⟩, ⟨fun z => absurd z gt, fun _ => fin⟩⟩
    | inr b' =>
      obtain ⟨b, rb, hmu⟩ := pBn_i.mp hb
      obtain ⟨k2, b4, rfl⟩ := pMu_i.mp hmu
      obtain ⟨rfl, bN⟩ := hr b rb
      rw [hb] at at1 hQ
      obtain ⟨h13, h11, bN'⟩ := id at1
      have lt0 : mLate l (k.2.1 b) g1 := by
        have := hla b rb
        have en : nMust 1 b g = xm_sI g 0 11 (nI (b + 1)) := by
          have h13' : g.1 0 13 = 0 := by rw [rb] at hat; exact hat.1
          unfold nMust nGo
          rw [if_pos ⟨h13', (nI_lit tk bN (c := 2) (by decide) (by decide)).mpr k2⟩, if_neg (by omega)]
        exact this.k (Nat.le_refl _) (by rw [← hg1, en, xg_in, if_neg (by decide)]) (by rw [← hg1, en, xg_in, if_neg (by decide)])
      obtain ⟨t1, t2, -, t4, -⟩ := tk1.2.2 b bN
      have nok := (kk.1 b bN).1 k2
      have p2 := (kk.1 b bN).2
      have pp := kk.2 b (b + 1) (by omega) bN'
      have wf := nWr_f 4 (k.2.1 b) g1
      have loop : ∀ (rs : List (List Nat × Nat)) (i : Nat), i + rs.length = nm.length → (∀ j, rs[j]? = nm[i + j]?) → pKn lo (k.2.2.2 b) nm = pKn lo (k.2.2.2 b) rs → ∀ x, x = nI i → xm_go xs_M xk_X9_known [xt_X9_must, xt_X9_wrong] xc_X9_known Q (xm_drop 13 xc_X9_known) [.ref 0, .int (nI lo), .int (nI b), .int x] [] g1 := by
        intro rs
        induction rs with
        | nil =>
          intro i hi hj hA x hx
          have hi : i = nm.length := hi
          have ge : g1.1 0 20 ≤ x := by rw [nt1.1, hx, hi]; exact Int32.le_refl _
          refine xm_run_go hm 40 ⟨fun _ => ⟨(4, b, k.2.1 b), ⟨rfl, a4, t2, p2, by decide, by decide, Or.inl h13, lt0.pre⟩, hQ _ _ ⟨-1, rfl, f1.tr wf.1, ?_, fun b' hb' => ?_⟩⟩, fun z => absurd ge (Int32.not_le.mpr z)⟩
          · exact ⟨by rw [wf.2 13 (by decide) (by decide)]; exact h13, by rw [wf.2 11 (by decide) (by decide)]; exact h11, bN'⟩
          · cases hb'
            rw [hA]
            exact ⟨(fun x hx => by cases hx), (nWr_l h13 ⟨by decide, by decide⟩ p2 lt0).k (by omega) rfl rfl⟩
        | cons q rs ih =>
          intro i hi hj hA x hx
          have hi' : i + rs.length + 1 = nm.length := by rw [← hi, List.length_cons]; omega
          have hq : nm[i]? = some q := by have := hj 0; rw [Nat.add_zero] at this; rw [← this]; rfl
          have hj' : ∀ j, rs[j]? = nm[i + 1 + j]? := fun j => by
            have := hj (j + 1)
            rw [List.getElem?_cons_succ] at this
            rw [this]; congr 1; omega
          have lt : ¬ g1.1 0 20 ≤ x := by rw [nt1.1, hx]; exact nI_ge (by omega) (by omega)
          obtain ⟨n1, n2, n3, n4⟩ := nt1.2.2 i q hq
          have nb : g1.2.1 6 b = pNm 27 (k.2.2.2 b) := t4 (by assumption)
          have same : g1.2.1 8 i = g1.2.1 6 b ↔ q.1 = k.2.2.2 b := by rw [n1, nb]; exact pNm_inj (b := 27) ⟨by decide, by decide⟩ n3 nok
          have inc : x + 1 = nI (i + 1) := by rw [hx]; exact nI_1 i
          have ad : nI lo + 10 = nI (lo + 10) := nI_add lo 10
          have ge : g1.1 9 i < nI lo ↔ q.2 < lo := by rw [n2]; exact nI_ltI (by omega) (by omega)
          have le : nI lo + 10 ≤ g1.1 9 i ↔ lo + 10 ≤ q.2 := by rw [n2, ad]; exact nI_leI (by omega) (by omega)
          have eqk : pKn lo (k.2.2.2 b) (q :: rs) = if q.1 = k.2.2.2 b ∧ lo ≤ q.2 ∧ q.2 < lo + 10 then some (q.2 - lo) else pKn lo (k.2.2.2 b) rs := rfl
          rw [eqk] at hA
          by_cases c : q.1 = k.2.2.2 b ∧ lo ≤ q.2 ∧ q.2 < lo + 10
          · rw [if_pos c] at hA
            have es : g1.1 9 i - nI lo = nI (q.2 - lo) := by
              have : nI q.2 = nI (q.2 - lo) + nI lo := by rw [nI_add]; congr 1; omega
              rw [n2, this]; exact Int32.add_sub_cancel _ _
            have fin := hQ (some (.int (g1.1 9 i - nI lo))) g1 ⟨_, rfl, f1, at1, fun b' hb' => ?_⟩
            · exact xm_run_go hm 60 ⟨fun z => absurd z lt, fun _ => ⟨i, ⟨by omega, hx⟩, b, ⟨by omega, rfl⟩, ⟨fun z => absurd ((lg_cmp_eq _ _).mpr (same.mpr c.1)) z, fun _ => ⟨i, ⟨by omega, hx⟩, ⟨fun z => absurd (ge.mp z) (by omega), fun _ => ⟨i, ⟨by omega, hx⟩, ⟨fun z => absurd (le.mp z) (by omega), fun _ => ⟨i, ⟨by omega, hx⟩, fin⟩⟩⟩⟩⟩⟩⟩⟩
            · cases hb'
              rw [hA]
              refine ⟨fun x hx => by cases hx; exact es, ?_⟩
              have : pLt l (some (q.2 - lo)).isNone 4 (k.2.1 b) = l := by unfold pLt; cases l <;> rfl
              rw [this]; exact lt0.k (by omega) rfl rfl
          · rw [if_neg c] at hA
            have go := ih (i + 1) (by omega) hj' hA (x + 1) inc
            exact xm_run_go hm 60 ⟨fun z => absurd z lt, fun _ => ⟨i, ⟨by omega, hx⟩, b, ⟨by omega, rfl⟩, ⟨fun _ => xm_cut hm go, fun z => ⟨i, ⟨by omega, hx⟩, ⟨fun _ => xm_cut hm go, fun z2 => ⟨i, ⟨by omega, hx⟩, ⟨fun _ => xm_cut hm go, fun z3 => absurd ⟨same.mp ((lg_cmp_eq _ _).mp z), by
              have : ¬ q.2 < lo := fun w => absurd (ge.mpr w) (Int32.not_lt.mpr z2)
              omega, by
              have : ¬ lo + 10 ≤ q.2 := fun w => absurd (le.mpr w) (Int32.not_le.mpr z3)
              omega⟩ c⟩⟩⟩⟩⟩⟩⟩
      have go := loop nm 0 (by omega) (fun j => by rw [Nat.zero_add]) rfl 0 rfl
      have le : g1.1 0 13 ≤ 0 := by rw [h13]; decide
      rw [← hg1, ← e11] at go
      rw [← hg1] at le
      exact xm_run_go hm 20 ⟨(1, b), ⟨rfl, a4, e11, ok⟩, ⟨fun _ => xm_cut hm go, fun z => absurd le (Int32.not_le.mpr z)⟩⟩
