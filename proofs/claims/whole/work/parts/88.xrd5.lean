-- THE CLASS READS: the start
def uEm (z : Nat) (v : Int32) (k : Nat) (g : xG) : xG := xm_sI (xm_sI g (z + 7) k v) z 12 (nI (k + 1))
def uPl (z l : Nat) (v : Int32) (k : Nat) (g : xG) : xG := uEm z (-15) (k + 1) (uEm z v k (xm_sI g (z + 8) l (nI k)))
def uClr (z : Nat) (g : xG) : xG := uPl z 3 0 6 (uPl z 2 (-1) 4 (uPl z 1 1 2 (uPl z 0 (-3) 0 (xm_sI (xm_sI (xm_sI (xm_sI (xm_sI g z 8 0) z 9 0) z 10 0) z 11 0) z 12 0))))
theorem uEmit_m {v : Int32} {k : Nat} {g : xG} (h : k < 408) : uEmit v k g = uEm 38 v k g := by unfold uEmit; rw [if_pos h]; rfl
def xt_X5_addPlainLaw : xT := xm_fn (Z := Nat × Int32 × Nat) (fun (l, v, k) av g => av = [.ref 38, .int (nI l), .int v] ∧ l < 4 ∧ k ≤ 400 ∧ g.1 38 12 = nI k) (fun _ _ => none) (fun (l, v, k) g => uPl 38 l v k g)
set_option maxRecDepth 100000 in
set_option maxHeartbeats 400000 in
theorem xp_X5_addPlainLaw {l : Launch} {D : va_G} {cA : Nat → ClassId} {B : List (Nat × Cell)} : xm_Met l D cA B xs_X 1 yX5_addPlainLaw cX5_addPlainLaw 3 none xt_X5_addPlainLaw := by
  have hm : xm_monos [xt_X5_beginLaw, xt_X5_emit] := ⟨(by first | exact xm_fn_mono _ _ _ | exact xm_rl_mono _ _), (by first | exact xm_fn_mono _ _ _ | exact xm_rl_mono _ _), trivial⟩
  refine xm_meth (own := RX5) (ks := xk_X5_addPlainLaw) (C := xc_X5_addPlainLaw) (Ts := [xt_X5_beginLaw, xt_X5_emit]) (by decide +kernel) rfl xm_clsok xs_X_ok xf_X5_ok xi_X5_ok xj_X5_ok (xm_lk xl_X5_58 xp_X5_beginLaw (by decide) (xm_lk xl_X5_62 xp_X5_emit (by decide) xm_lk0)) xo_X5_addPlainLaw ?_ ?_
  · rintro av g Q ⟨z, ⟨rfl, -⟩, -⟩
    exact Nat.le_of_ble_eq_true rfl
  · rintro av g Q ⟨⟨l, v, k⟩, ⟨rfl, hl, hk, h⟩, hQ⟩
    dsimp only at hl hk h hQ
    unfold uPl at hQ
    rw [← uEmit_m (by omega), ← uEmit_m (by omega)] at hQ
    have e1 : (xm_sI g 46 l (nI k)).1 38 12 = nI k := by rw [xg_off _ _ _ (by decide)]; exact h
    have e2 : (uEmit v k (xm_sI g 46 l (nI k))).1 38 12 = nI (k + 1) := by rw [uEmit_m (by omega)]; unfold uEm; rw [xg_in, if_pos rfl]
    have k8 : k ≤ 408 := by omega
    have k9 : k + 1 ≤ 408 := by omega
    exact xm_run_go hm 20 ⟨(l, k), ⟨rfl, hl, h⟩, (v, k), ⟨rfl, k8, e1⟩, (-15, k + 1), ⟨rfl, k9, e2⟩, hQ⟩
def xt_X5_clear : xT := xm_fn (Z := Unit) (fun _ av _ => av = [.ref 38] ∧ True) (fun _ _ => none) (fun _ g => uClr 38 g)
set_option maxRecDepth 100000 in
set_option maxHeartbeats 400000 in
theorem xp_X5_clear {l : Launch} {D : va_G} {cA : Nat → ClassId} {B : List (Nat × Cell)} : xm_Met l D cA B xs_X 2 yX5_clear cX5_clear 1 none xt_X5_clear := by
  have hm : xm_monos [xt_X5_addPlainLaw] := ⟨(by first | exact xm_fn_mono _ _ _ | exact xm_rl_mono _ _), trivial⟩
  refine xm_meth (own := RX5) (ks := xk_X5_clear) (C := xc_X5_clear) (Ts := [xt_X5_addPlainLaw]) (by decide +kernel) rfl xm_clsok xs_X_ok xf_X5_ok xi_X5_ok xj_X5_ok (xm_lk xl_X5_54 xp_X5_addPlainLaw (by decide) xm_lk0) xo_X5_clear ?_ ?_
  · rintro av g Q ⟨z, ⟨rfl, -⟩, -⟩
    exact Nat.le_of_ble_eq_true rfl
  · rintro av g Q ⟨_, ⟨rfl, -⟩, hQ⟩
    dsimp only at hQ
    exact xm_run_go hm 60 ⟨(0, -3, 0), ⟨rfl, by decide, by decide, rfl⟩, (1, 1, 2), ⟨rfl, by decide, by decide, rfl⟩, (2, -1, 4), ⟨rfl, by decide, by decide, rfl⟩, (3, 0, 6), ⟨rfl, by decide, by decide, rfl⟩, hQ⟩
theorem uClr_o (z : Nat) (g : xG) (k : Nat) (h1 : k ≠ z) (h2 : k ≠ z + 7) (h3 : k ≠ z + 8) : (uClr z g).1 k = g.1 k := by
  funext j
  simp only [uClr, uPl, uEm, xm_sI, xm_u2, if_neg h1, if_neg h2, if_neg h3]
theorem uClr_r (z : Nat) (g : xG) : (uClr z g).2 = g.2 := rfl
theorem uClr_tr (g : xG) : xTr 0 (qX pS0) (uClr 38 g) := by
  refine ⟨8, by decide, by decide, rfl, fun i hi => ?_⟩
  have c : i = 0 ∨ i = 1 ∨ i = 2 ∨ i = 3 := by omega
  have one : ∀ (q : Nat × Nat) (i : Nat) (p : Nat × Nat), ([q] : vX)[i]? = some p → i = 0 ∧ p = q := fun q i p h => by
    cases i with
    | zero => exact ⟨rfl, (Option.some.inj h).symm⟩
    | succ i => cases h
  rcases c with rfl | rfl | rfl | rfl
  · exact ⟨0, rfl, 0, rfl, fun i q h => by obtain ⟨rfl, rfl⟩ := one (1, 2) i q h; rfl, rfl, by decide⟩
  · exact ⟨2, rfl, 2, rfl, fun i q h => by obtain ⟨rfl, rfl⟩ := one (0, 1) i q h; rfl, rfl, by decide⟩
  · exact ⟨4, rfl, 4, rfl, fun i q h => by obtain ⟨rfl, rfl⟩ := one (1, 0) i q h; rfl, rfl, by decide⟩
  · exact ⟨6, rfl, 6, rfl, fun i q h => by obtain ⟨rfl, rfl⟩ := one (0, 0) i q h; rfl, rfl, by decide⟩
def xFS (g g' : xG) : Prop := g'.2.2 = g.2.2 ∧ ∀ k, ¬ (3 ≤ k ∧ k ≤ 10) → ¬ (38 ≤ k ∧ k ≤ 46) → g'.1 k = g.1 k
theorem xFS.rf {g : xG} : xFS g g := ⟨rfl, fun _ _ _ => rfl⟩
theorem xFS.tr {g g1 g2 : xG} (h : xFS g g1) (h2 : xFS g1 g2) : xFS g g2 := ⟨h2.1.trans h.1, fun k a b => (h2.2 k a b).trans (h.2 k a b)⟩
theorem xFR.S {g g' : xG} (h : xFR g g') : xFS g g' := ⟨h.1, fun k a b => h.2.2.1 k (by omega) (by omega) b⟩
theorem xFk.S {g g' : xG} (h : xFk g g') : xFS g g' := ⟨h.2.2.2, fun k a b => h.1 k (by omega) (by omega) (by omega)⟩
theorem xFS.p3 {g g1 : xG} (h : xFS g g1) (j : Nat) (v : Int32) : xFS g (xm_sI g1 3 j v) := ⟨h.1, fun k a b => (xg_off g1 j v (by omega)).trans (h.2 k a b)⟩
def xt_X1_start : xT := xm_rl (Z := Nat × (Nat → Int32)) (fun (n, tb) av g => av = [.ref 3] ∧ n ≤ 2000 ∧ xTape n tb g ∧ xBt n tb)
  (fun (n, tb) g o g' => o = none ∧ xFS g g' ∧ xTk (pTk n (pC n tb)) (pN n (pC n tb)) g' ∧ xTl (pN n (pC n tb)) 0 pS0 g')
set_option maxRecDepth 100000 in
set_option maxHeartbeats 400000 in
theorem xp_X1_start {l : Launch} {D : va_G} {cA : Nat → ClassId} {B : List (Nat × Cell)} : xm_Met l D cA B xs_X 9 yX1_start cX1_start 1 none xt_X1_start := by
  have hm : xm_monos [xt_X5_clear, xt_X7_scan] := ⟨(by first | exact xm_fn_mono _ _ _ | exact xm_rl_mono _ _), (by first | exact xm_fn_mono _ _ _ | exact xm_rl_mono _ _), trivial⟩
  refine xm_meth (own := RX1) (ks := xk_X1_start) (C := xc_X1_start) (Ts := [xt_X5_clear, xt_X7_scan]) (by decide +kernel) rfl xm_clsok xs_X_ok xf_X1_ok xi_X1_ok xj_X1_ok (xm_lk xl_X1_38 xp_X5_clear (by decide) (xm_lk xl_X1_41 xp_X7_scan (by decide) xm_lk0)) xo_X1_start ?_ ?_
  · rintro av g Q ⟨z, ⟨rfl, -⟩, -⟩
    exact Nat.le_of_ble_eq_true rfl
  · rintro av g Q ⟨⟨n, tb⟩, ⟨rfl, hn, ht, hb⟩, hQ⟩
    dsimp only at hn ht hb hQ
    have t1 : xTape n tb (uClr 38 g) := ht.fr (uClr_o _ _ _ (by decide) (by decide) (by decide)) (uClr_o _ _ _ (by decide) (by decide) (by decide))
    refine xm_run_go hm 40 ⟨(), ⟨rfl, trivial⟩, (n, tb), ⟨rfl, hn, t1, hb⟩, ?_⟩
    rintro o g1 ⟨rfl, tk, fk⟩
    have f0 : xFS g (uClr 38 g) := ⟨rfl, fun k a b => uClr_o _ _ _ (by omega) (by omega) (by omega)⟩
    have f1 := ((((((f0.tr fk.S).p3 7 0).p3 8 0).p3 9 (-1)).p3 10 0).p3 11 (-1))
    obtain ⟨g2, hg2⟩ : ∃ g2, g2 = xm_sI (xm_sI (xm_sI (xm_sI (xm_sI g1 3 7 0) 3 8 0) 3 9 (-1)) 3 10 0) 3 11 (-1) := ⟨_, rfl⟩
    have o2 : ∀ k, k ≠ 3 → g2.1 k = g1.1 k := fun k hk => by rw [hg2, xg_off _ _ _ hk, xg_off _ _ _ hk, xg_off _ _ _ hk, xg_off _ _ _ hk, xg_off _ _ _ hk]
    have r2 : g2.2 = g1.2 := by rw [hg2]; rfl
    have v7 : g2.1 3 7 = 0 := by rw [hg2]; rfl
    have v8 : g2.1 3 8 = 0 := by rw [hg2]; rfl
    have v10 : g2.1 3 10 = 0 := by rw [hg2]; rfl
    have v11 : g2.1 3 11 = -1 := by rw [hg2]; rfl
    have k38 : g2.1 38 = (uClr 38 g).1 38 := (o2 38 (by decide)).trans (fk.1 38 (by decide) (by decide) (by decide))
    have k45 : g2.1 45 = (uClr 38 g).1 45 := (o2 45 (by decide)).trans (fk.1 45 (by decide) (by decide) (by decide))
    have k46 : g2.1 46 = (uClr 38 g).1 46 := (o2 46 (by decide)).trans (fk.1 46 (by decide) (by decide) (by decide))
    rw [← hg2] at f1
    have fin := hQ none g2 ⟨rfl, f1, ⟨tk.1, tk.2.1, fun i hi => by rw [o2 8 (by decide), o2 9 (by decide), r2]; exact tk.2.2 i hi⟩, ⟨⟨v8, v7, Nat.zero_le _⟩, Or.inl ⟨rfl, v10, v11⟩, ⟨⟨fun i q h => (by cases h), (by rw [k38]; rfl), by decide⟩, fun i q h => (by cases h), (by rw [k38]; rfl), by decide⟩, (by rw [k38]; rfl), (fun i q h => by cases h), (fun i q h => by cases h), (fun _ i q h => by cases h), (by rw [k38]; rfl)⟩, (uClr_tr g).k (Nat.le_refl _) (by rw [k38]) k45 k46⟩
    rw [hg2] at fin
    exact fin
def oGo (k : vTk) (r : pF ⊕ Nat) : Int32 := match r with
  | .inl _ => 0
  | .inr a => if k.1 a = 0 then 0 else 1
def xt_X1_goesOn : xT := xm_fn (Z := vTk × Nat × (pF ⊕ Nat)) (fun (k, N, r) av g => av = [.ref 3] ∧ xTk k N g ∧ xAt N r g) (fun (k, _, r) _ => some (.int (oGo k r))) (fun _ g => g)
set_option maxRecDepth 100000 in
set_option maxHeartbeats 400000 in
theorem xp_X1_goesOn {l : Launch} {D : va_G} {cA : Nat → ClassId} {B : List (Nat × Cell)} : xm_Met l D cA B xs_X 1 yX1_goesOn cX1_goesOn 1 (some .boolean) xt_X1_goesOn := by
  have hm : xm_monos [xt_X1_kind] := ⟨(by first | exact xm_fn_mono _ _ _ | exact xm_rl_mono _ _), trivial⟩
  refine xm_meth (own := RX1) (ks := xk_X1_goesOn) (C := xc_X1_goesOn) (Ts := [xt_X1_kind]) (by decide +kernel) rfl xm_clsok xs_X_ok xf_X1_ok xi_X1_ok xj_X1_ok (xm_lk xl_X1_60 xp_X1_kind (by decide) xm_lk0) xo_X1_goesOn ?_ ?_
  · rintro av g Q ⟨z, ⟨rfl, -⟩, -⟩
    exact Nat.le_of_ble_eq_true rfl
  · rintro av g Q ⟨⟨k, N, r⟩, ⟨rfl, tk, hat⟩, hQ⟩
    dsimp only at tk hat hQ
    cases r with
    | inl q =>
      have n0 : ¬ g.1 3 8 = 0 := by
        have := hat.1
        rw [this]
        rcases hat.2.1 with z | z <;> rw [z] <;> decide
      exact xm_run_go hm 20 ⟨fun _ => ⟨Or.inl rfl, hQ⟩, fun z => absurd z n0⟩
    | inr a =>
      obtain ⟨h8, h7, aN⟩ := hat
      have a4 : a ≤ 400 := by have := tk.1; omega
      obtain ⟨t1, -, t3, -⟩ := tk.2.2 a aN
      by_cases c : k.1 a = 0
      · have e : g.1 8 a = 0 := by rw [t1, c]; rfl
        have q : Q (some (.int 0)) g := by dsimp only [oGo] at hQ; rw [if_pos c] at hQ; exact hQ
        exact xm_run_go hm 20 ⟨fun z => absurd h8 z, fun _ => ⟨a, ⟨rfl, a4, h7⟩, ⟨fun _ => ⟨Or.inl rfl, q⟩, fun z => absurd e z⟩⟩⟩
      · have e : ¬ g.1 8 a = 0 := by rw [t1]; exact fun z => c (nI_inj (b := 0) (by omega) (by omega) z)
        have q : Q (some (.int 1)) g := by dsimp only [oGo] at hQ; rw [if_neg c] at hQ; exact hQ
        exact xm_run_go hm 20 ⟨fun z => absurd h8 z, fun _ => ⟨a, ⟨rfl, a4, h7⟩, ⟨fun z => absurd z e, fun _ => ⟨Or.inr rfl, q⟩⟩⟩⟩
def xt_X1_faultNumber : xT := xm_fn (Z := Unit) (fun _ av _ => av = [.ref 3] ∧ True) (fun _ g => some (.int (if g.1 3 8 = 0 then g.1 3 10 else g.1 3 8))) (fun _ g => g)
set_option maxRecDepth 100000 in
set_option maxHeartbeats 400000 in
theorem xp_X1_faultNumber {l : Launch} {D : va_G} {cA : Nat → ClassId} {B : List (Nat × Cell)} : xm_Met l D cA B xs_X 0 yX1_faultNumber cX1_faultNumber 1 (some .int) xt_X1_faultNumber := by
  have hm : xm_monos [] := xm_m0
  refine xm_meth (own := RX1) (ks := xk_X1_faultNumber) (C := xc_X1_faultNumber) (Ts := []) (by decide +kernel) rfl xm_clsok xs_X_ok xf_X1_ok xi_X1_ok xj_X1_ok xm_lk0 xo_X1_faultNumber ?_ ?_
  · rintro av g Q ⟨z, ⟨rfl, -⟩, -⟩
    exact Nat.le_of_ble_eq_true rfl
  · rintro av g Q ⟨_, ⟨rfl, -⟩, hQ⟩
    dsimp only at hQ
    exact xm_run_go hm 20 ⟨fun z => by rw [if_pos z] at hQ; exact hQ, fun z => by rw [if_neg z] at hQ; exact hQ⟩
def xt_X1_faultPlace : xT := xm_fn (Z := Unit) (fun _ av _ => av = [.ref 3] ∧ True) (fun _ g => some (.int (if g.1 3 8 = 0 then g.1 3 11 else g.1 3 9))) (fun _ g => g)
set_option maxRecDepth 100000 in
set_option maxHeartbeats 400000 in
theorem xp_X1_faultPlace {l : Launch} {D : va_G} {cA : Nat → ClassId} {B : List (Nat × Cell)} : xm_Met l D cA B xs_X 0 yX1_faultPlace cX1_faultPlace 1 (some .int) xt_X1_faultPlace := by
  have hm : xm_monos [] := xm_m0
  refine xm_meth (own := RX1) (ks := xk_X1_faultPlace) (C := xc_X1_faultPlace) (Ts := []) (by decide +kernel) rfl xm_clsok xs_X_ok xf_X1_ok xi_X1_ok xj_X1_ok xm_lk0 xo_X1_faultPlace ?_ ?_
  · rintro av g Q ⟨z, ⟨rfl, -⟩, -⟩
    exact Nat.le_of_ble_eq_true rfl
  · rintro av g Q ⟨_, ⟨rfl, -⟩, hQ⟩
    dsimp only at hQ
    exact xm_run_go hm 20 ⟨fun z => by rw [if_pos z] at hQ; exact hQ, fun z => by rw [if_neg z] at hQ; exact hQ⟩
-- the numbers of the laws
def pNx (s : pSt) : Prop := ∀ i, (∀ q, q ∈ (qX s i).1 → pNu q.1 ∧ pNu q.2.1 ∧ pNu q.2.2) ∧ pNu (qX s i).2
theorem pIf_nu {k : vTk} (hk : ∀ i, k.1 i = 3 → k.2.2.1 i < 10000) {a a' : Nat} {u v w : vX} (h : pIf k a = .inr (a', u, v, w)) : pNu u ∧ pNu v ∧ pNu w := by
  unfold pIf at h
  obtain ⟨a1, h1, h⟩ := pBn_i.mp h
  obtain ⟨⟨a2, u'⟩, h2, h⟩ := pBn_i.mp h
  obtain ⟨a3, h3, h⟩ := pBn_i.mp h
  obtain ⟨⟨a4, v'⟩, h4, h⟩ := pBn_i.mp h
  obtain ⟨a5, h5, h⟩ := pBn_i.mp h
  obtain ⟨⟨a6, w'⟩, h6, h⟩ := pBn_i.mp h
  obtain ⟨a7, h7, h⟩ := pBn_i.mp h
  cases h
  exact ⟨pEx_nu hk h2, pEx_nu hk h4, pEx_nu hk h6⟩
theorem pIfs_nu {k : vTk} (hk : ∀ i, k.1 i = 3 → k.2.2.1 i < 10000) : ∀ (m a : Nat) (bs : List (vX × vX × vX)) (a' : Nat) (bs' : List (vX × vX × vX)) (e : vX), pIfs k m a bs = .inr (a', bs', e) → (∀ q, q ∈ bs → pNu q.1 ∧ pNu q.2.1 ∧ pNu q.2.2) → (∀ q, q ∈ bs' → pNu q.1 ∧ pNu q.2.1 ∧ pNu q.2.2) ∧ pNu e
  | 0, a, bs, a', bs', e, h, hb => by
    unfold pIfs at h
    by_cases c : k.1 a = 136
    · rw [if_pos c] at h; cases h
    · rw [if_neg c] at h
      obtain ⟨⟨a2, e'⟩, h2, h⟩ := pBn_i.mp h
      cases h
      exact ⟨hb, pEx_nu hk h2⟩
  | m + 1, a, bs, a', bs', e, h, hb => by
    unfold pIfs at h
    by_cases c : k.1 a = 136
    · rw [if_pos c] at h
      obtain ⟨⟨a2, u, v, w⟩, h2, h⟩ := pBn_i.mp h
      refine pIfs_nu hk m a2 _ a' bs' e h (fun q hq => ?_)
      rcases List.mem_append.mp hq with hq | hq
      · exact hb q hq
      · rw [List.mem_singleton] at hq
        subst hq
        exact pIf_nu hk h2
    · rw [if_neg c] at h
      obtain ⟨⟨a2, e'⟩, h2, h⟩ := pBn_i.mp h
      cases h
      exact ⟨hb, pEx_nu hk h2⟩
theorem pTell_nu {k : vTk} (hk : ∀ i, k.1 i = 3 → k.2.2.1 i < 10000) {a a' : Nat} {s s' : pSt} (h : pTell k a s = .inr (a', s')) (hb : pNx s) : pNx s' := by
  by_cases c1 : k.1 a = 128
  · rw [pTell_1 c1] at h
    obtain ⟨a1, -, h⟩ := pBn_i.mp h
    obtain ⟨b, -, h⟩ := pBn_i.mp h
    cases h
    exact hb
  by_cases c2 : k.1 a = 129
  · rw [pTell_2 c2] at h
    obtain ⟨a1, -, h⟩ := pBn_i.mp h
    obtain ⟨b, -, h⟩ := pBn_i.mp h
    cases h
    exact hb
  by_cases c3 : k.1 a = 130
  · rw [pTell_3 c3] at h
    obtain ⟨a1, -, h⟩ := pBn_i.mp h
    obtain ⟨b, -, h⟩ := pBn_i.mp h
    cases h
    exact hb
  by_cases c4 : 131 ≤ k.1 a ∧ k.1 a ≤ 134
  · rw [pTell_4' c4] at h
    obtain ⟨⟨a2, bs, e⟩, h2, h⟩ := pBn_i.mp h
    obtain ⟨b, -, h⟩ := pBn_i.mp h
    cases h
    unfold pLx at h2
    obtain ⟨a3, -, h2⟩ := pBn_i.mp h2
    have n := pIfs_nu hk 4 a3 [] a2 bs e h2 (fun q hq => by cases hq)
    intro i
    show (∀ q, q ∈ (if i = k.1 a - 131 then (bs, e) else qX s i).1 → _) ∧ pNu (if i = k.1 a - 131 then (bs, e) else qX s i).2
    split
    · exact n
    · exact hb i
  by_cases c5 : k.1 a = 135
  · rw [pTell_5 c5] at h
    obtain ⟨a1, -, h⟩ := pBn_i.mp h
    obtain ⟨b, -, h⟩ := pBn_i.mp h
    cases h
    exact hb
  rw [pTell_6 (by omega)] at h
  cases h
theorem pNx0 : pNx pS0 := by
  intro i
  refine ⟨(fun q hq => by cases hq), ?_⟩
  show pNu (vDf i)
  unfold vDf
  split
  · intro q hq h0; rw [List.mem_singleton] at hq; subst hq; cases h0
  · split
    · intro q hq h0; rw [List.mem_singleton] at hq; subst hq; decide
    · split
      · intro q hq h0; rw [List.mem_singleton] at hq; subst hq; cases h0
      · intro q hq h0; rw [List.mem_singleton] at hq; subst hq; decide
theorem pTk_nu (n : Nat) (c : Nat → Nat) : ∀ i, (pTk n c).1 i = 3 → (pTk n c).2.2.1 i < 10000 := fun i => (pTo_ok (n := n) (c := c) _).2.2.2
/-- a story read, as the class has it in its draft -/
theorem xSto_rd {s : pSt} {N a : Nat} {g : xG} (h : xTl N a s g) (hi : pInv s) (hn : pNx s) : xSto 38 (pTs s) g := by
  obtain ⟨⟨-, -, ns, sd⟩, sz, z1, z2, z3, z4⟩ := h
  obtain ⟨⟨⟨-, n2, n3⟩, -, n5, n6⟩, s1, s2, s3, s4, s5⟩ := And.intro ns sd
  have l1 : (pNs s).length = (qS s).length := List.length_map _
  have l2 : (pNp s).length = (qP s).length := List.length_map _
  refine ⟨by rw [n2, l1]; rfl, by rw [n5, l2]; rfl, fun i hi' => ?_, fun i hi' => ?_, s5, sz, z2, z3, fun i hi' vars => ?_⟩
  · have hi' : i < (qS s).length := hi'
    have e : (qS s)[i]? = some (qS s)[i] := List.getElem?_eq_getElem hi'
    obtain ⟨a1, a2, a3⟩ := s2 i _ e
    refine ⟨?_, ?_, ?_⟩
    · show _ = nI (((qS s)[i]?).getD ([], 0, 0, 0)).2.1
      rw [e]; exact a1
    · show _ = nI (((qS s)[i]?).getD ([], 0, 0, 0)).2.2.1
      rw [e]; exact a2
    · show _ = nI (((qS s)[i]?).getD ([], 0, 0, 0)).2.2.2
      rw [e]; exact a3
  · have hi' : i < (qP s).length := hi'
    have e : (qP s)[i]? = some (qP s)[i] := List.getElem?_eq_getElem hi'
    show _ = nI (((qP s)[i]?).getD ([], 0)).2
    rw [e]; exact s3 i _ e
  · obtain ⟨st, e1, m, m1, m2, m3, m4⟩ := z4 i hi'
    rw [e1]
    have d := hi.2.2.2.1 i
    have lm := xLb_le m1
    exact (xEv_law z2 m2 m3 m4 d.1 (hn i).2 (qX s i).1 st 408 m1 (by omega) (fun q hq => ⟨d.2 q hq, (hn i).1 q hq⟩)).symm
