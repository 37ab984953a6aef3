-- an expression
def xt_X9_unit : xT := xm_rl (Z := vTk × Nat × Nat × Nat × vX) (fun (k, N, z, a, e) av g => av = [.ref 0] ∧ (g.1 0 13 = 0 ∧ mTk k N g ∧ a ≤ N ∧ g.1 0 11 = nI a ∧ g.1 0 41 = nI (z + e.length) ∧ mCz g z e ∧ z + e.length < 840 ∨ ∃ f p, mFl f p g))
  (fun (k, N, z, a, e) g r g' => r = none ∧ mFs g g' ∧ (∀ j, j ≠ 11 → j ≠ 13 → j ≠ 14 → j ≠ 41 → g'.1 0 j = g.1 0 j) ∧ g'.1 29 = g.1 29 ∧ (∀ j, j ≠ z + e.length → g'.1 27 j = g.1 27 j ∧ g'.1 28 j = g.1 28 j) ∧ (¬ g.1 0 13 = 0 → g' = g) ∧
    (g.1 0 13 = 0 → (∃ y, y ≤ 840 ∧ g'.1 0 41 = nI y) ∧ ((pUn k a = true ∧ a < 400 ∧ g'.1 0 13 = 0 ∧ g'.1 0 11 = nI (a + 1) ∧ g'.1 0 41 = nI (z + (e ++ [pU k a]).length) ∧ mCz g' z (e ++ [pU k a])) ∨ (pUn k a = true ∧ 400 ≤ a ∧ mFl 2 (k.2.1 a) g') ∨ (pUn k a = false ∧ mFl 1 (k.2.1 a) g'))))
set_option maxRecDepth 100000 in
set_option maxHeartbeats 400000 in
theorem xp_X9_unit {l : Launch} {D : va_G} {cA : Nat → ClassId} {B : List (Nat × Cell)} : xm_Met l D cA B xs_M 2 yX9_unit cX9_unit 1 none xt_X9_unit := by
  have hm : xm_monos [xt_X9_is, xt_X9_emit, xt_X9_goesOn, xt_X9_fail] := ⟨(by first | exact xm_fn_mono _ _ _ | exact xm_rl_mono _ _), (by first | exact xm_fn_mono _ _ _ | exact xm_rl_mono _ _), (by first | exact xm_fn_mono _ _ _ | exact xm_rl_mono _ _), (by first | exact xm_fn_mono _ _ _ | exact xm_rl_mono _ _), trivial⟩
  refine xm_meth (own := RX9) (ks := xk_X9_unit) (C := xc_X9_unit) (Ts := [xt_X9_is, xt_X9_emit, xt_X9_goesOn, xt_X9_fail]) (by decide +kernel) rfl xm_clsok xs_M_ok xf_X9_ok xi_X9_ok xj_X9_ok (xm_lk xl_X9_218 xp_X9_is (by decide) (xm_lk xl_X9_293 xp_X9_emit (by decide) (xm_lk xl_X9_221 xp_X9_goesOn (by decide) (xm_lk xl_X9_215 xp_X9_fail (by decide) xm_lk0)))) xo_X9_unit ?_ ?_
  · rintro av g Q ⟨z, ⟨rfl, -⟩, -⟩
    exact Nat.le_of_ble_eq_true rfl
  · rintro av g Q ⟨⟨k, N, z, a, e⟩, ⟨rfl, hst⟩, hQ⟩
    dsimp only at hst hQ
    rcases hst with ⟨s8, tk, aN, s7, sz, sc, lt⟩ | ⟨f, p, fl⟩
    · have N4 := tk.1
      have a4 : a ≤ 400 := by omega
      obtain ⟨t1, t2, ⟨t3, tv⟩, t4, t5⟩ := tk.2.2 a aN
      have mk := pMk_lt _ t3 tv
      have ok : mOk g := Or.inl s8
      -- a unit comes out, and on
      have out : ∀ kk v, pUn k a = true → kk = nI (pU k a).1 → v = nI (pU k a).2 → Q none (nGo a (nEmit kk v (z + e.length) g)) := fun kk v hu hk hv => by
        have e8 : (nEmit kk v (z + e.length) g).1 0 13 = 0 := by rw [nEmit_j (by decide)]; exact s8
        have e7 : (nEmit kk v (z + e.length) g).1 0 11 = nI a := by rw [nEmit_j (by decide)]; exact s7
        have ep : (nEmit kk v (z + e.length) g).1 4 a = nI (k.2.1 a) := by rw [nEmit_o (by decide) (by decide) (by decide)]; exact t2
        have lo : ∀ j, j ≠ z + e.length → (nEmit kk v (z + e.length) g).1 27 j = g.1 27 j ∧ (nEmit kk v (z + e.length) g).1 28 j = g.1 28 j := fun j hj => by
          rw [nEmit_27, nEmit_28]
          dsimp only
          rw [if_neg (by omega), if_neg (by omega)]; exact ⟨rfl, rfl⟩
        have cd : mCz (nEmit kk v (z + e.length) g) z (e ++ [pU k a]) := sc.one (by rw [nEmit_27, hk]) (by rw [nEmit_28, hv])
        have e29 : (nEmit kk v (z + e.length) g).1 29 = g.1 29 := nEmit_o (by decide) (by decide) (by decide)
        by_cases a4' : a = 400
        · have en : nGo a (nEmit kk v (z + e.length) g) = nFail (nI 2) a (nEmit kk v (z + e.length) g) := by unfold nGo; rw [if_pos a4']; rfl
          rw [en]
          refine hQ _ _ ⟨rfl, (mFs.rf.em _ _ _).fl _ _, fun j h1 h2 h3 h4 => by rw [nFail_j h2 h3, nEmit_j h4], by rw [nFail_o (by decide)]; exact e29, fun j hj => by rw [nFail_o (by decide), nFail_o (by decide)]; exact lo j hj, fun h => absurd s8 h, fun _ => ⟨⟨_, lt, by rw [nFail_j (by decide) (by decide), nEmit_41]⟩, Or.inr (Or.inl ⟨hu, by omega, nFail_fl e8 (Or.inr rfl) a4 e7 ep⟩)⟩⟩
        · have en : nGo a (nEmit kk v (z + e.length) g) = xm_sI (nEmit kk v (z + e.length) g) 0 11 (nI (a + 1)) := by unfold nGo; rw [if_neg a4']
          rw [en]
          refine hQ _ _ ⟨rfl, (mFs.rf.em _ _ _).p0 _ (by omega), fun j h1 h2 h3 h4 => by rw [xg_in, if_neg h1, nEmit_j h4], by rw [xg_off _ _ _ (by decide)]; exact e29, fun j hj => by rw [xg_off _ _ _ (by decide), xg_off _ _ _ (by decide)]; exact lo j hj, fun h => absurd s8 h, fun _ => ⟨⟨_, lt, by rw [xg_in, if_neg (by decide), nEmit_41]⟩, Or.inl ⟨hu, by omega, ?_, ?_, ?_, ?_⟩⟩⟩
          · rw [xg_in, if_neg (by decide)]; exact e8
          · rw [xg_in, if_pos rfl]
          · rw [xg_in, if_neg (by decide), nEmit_41, List.length_append]; rfl
          · exact fun i q hq => by rw [xg_off _ _ _ (by decide), xg_off _ _ _ (by decide)]; exact cd i q hq
      have isN : ∀ j, j < 148 → pVk j = true → (g.1 3 a = nI (pMk j) ↔ k.1 a = j) := fun j hj hv => by
        rw [t1, nI_eq (by omega) (by have := pMk_lt j hj hv; omega)]
        exact pMk_inj _ t3 tv j hj hv
      have e41 : ∀ kk v, (nEmit kk v (z + e.length) g).1 0 11 = nI a ∧ mOk (nEmit kk v (z + e.length) g) := fun kk v => ⟨by rw [nEmit_j (by decide)]; exact s7, Or.inl (by rw [nEmit_j (by decide)]; exact s8)⟩
      by_cases k3 : k.1 a = 3
      · have g3 : g.1 3 a = 2 := (isN 3 (by decide) (by decide)).mpr k3
        have o1 := out 0 (g.1 5 a) (pUn_i.mpr (Or.inl k3)) (by unfold pU; rw [if_pos k3]; rfl) (by unfold pU; rw [if_pos k3]; exact (t5 k3).1)
        refine xm_run_go hm 40 ⟨(2, a), ⟨rfl, a4, s7⟩, ⟨fun q => ?_, fun _ => ⟨a, ⟨by omega, s7⟩, (0, g.1 5 a, z + e.length), ⟨rfl, lt, sz⟩, a, ⟨rfl, a4, e41 _ _⟩, o1⟩⟩⟩
        rw [if_pos ⟨s8, g3⟩] at q; exact absurd q (by decide)
      · have ng3 : ¬ g.1 3 a = 2 := fun q => k3 ((isN 3 (by decide) (by decide)).mp q)
        have is0 : (if g.1 0 13 = 0 ∧ g.1 3 a = 2 then (1 : Int32) else 0) = 0 := by rw [if_neg (fun q => ng3 q.2)]
        have vr := pMk_var _ t3 tv
        have le31 : (31 : Int32) ≤ g.1 3 a ↔ 31 ≤ pMk (k.1 a) := by rw [t1]; exact nI_leI (a := 31) (by decide) (by omega)
        have le39 : g.1 3 a ≤ (39 : Int32) ↔ pMk (k.1 a) ≤ 39 := by rw [t1]; exact nI_leI (b := 39) (by omega) (by decide)
        by_cases kv : 139 ≤ k.1 a ∧ k.1 a ≤ 147
        · obtain ⟨v1, v2⟩ := vr.mpr kv
          obtain ⟨m1, m2⟩ := pMk_v _ t3 kv.1
          have ev : g.1 3 a - 31 = nI (k.1 a - 139) := by
            rw [t1, ← m1]
            have : pMk (k.1 a) = (pMk (k.1 a) - 31) + 31 := by omega
            rw [this, ← nI_add, Nat.add_sub_cancel]
            exact Int32.add_sub_cancel _ _
          have o1 := out 1 (g.1 3 a - 31) (pUn_i.mpr (Or.inr kv)) (by unfold pU; rw [if_neg k3]; rfl) (by unfold pU; rw [if_neg k3]; exact ev)
          exact xm_run_go hm 60 ⟨(2, a), ⟨rfl, a4, s7⟩, ⟨fun _ => ⟨fun q => absurd s8 q, fun _ => ⟨a, ⟨by omega, s7⟩, ⟨fun q => absurd (le31.mpr v1) (Int32.not_le.mpr q), fun _ => ⟨a, ⟨by omega, s7⟩, ⟨fun q => absurd (le39.mpr v2) (Int32.not_le.mpr q), fun _ => ⟨a, ⟨by omega, s7⟩, (1, g.1 3 a - 31, z + e.length), ⟨rfl, lt, sz⟩, a, ⟨rfl, a4, e41 _ _⟩, o1⟩⟩⟩⟩⟩⟩, fun q => absurd is0 q⟩⟩
        · have nu : pUn k a = false := by
            cases hh : pUn k a with
            | false => rfl
            | true => rcases pUn_i.mp hh with q | q; exact absurd q k3; exact absurd q kv
          have fin : Q none (nFail 1 a g) := hQ _ _ ⟨rfl, mFs.rf.fl _ _, fun j h1 h2 h3 h4 => nFail_j h2 h3, nFail_o (by decide), fun j hj => by rw [nFail_o (by decide), nFail_o (by decide)]; exact ⟨rfl, rfl⟩, fun h => absurd s8 h, fun _ => ⟨⟨_, Nat.le_of_lt lt, by rw [nFail_j (by decide) (by decide)]; exact sz⟩, Or.inr (Or.inr ⟨nu, nFail_fl s8 (Or.inl rfl) a4 s7 t2⟩)⟩⟩
          exact xm_run_go hm 60 ⟨(2, a), ⟨rfl, a4, s7⟩, ⟨fun _ => ⟨fun q => absurd s8 q, fun _ => ⟨a, ⟨by omega, s7⟩, ⟨fun _ => ⟨(1, a), ⟨rfl, a4, s7, ok⟩, fin⟩, fun q1 => ⟨a, ⟨by omega, s7⟩, ⟨fun _ => ⟨(1, a), ⟨rfl, a4, s7, ok⟩, fin⟩, fun q2 => absurd (vr.mp ⟨le31.mp q1, le39.mp q2⟩) kv⟩⟩⟩⟩⟩, fun q => absurd is0 q⟩⟩
    · have n0 := fl.n0
      have ok := fl.ok
      obtain ⟨-, -, -, b, b4, b7⟩ := id fl
      have fin : Q none (nFail 1 b g) := by
        rw [nFail_n n0]
        exact hQ _ _ ⟨rfl, mFs.rf, fun _ _ _ _ _ => rfl, rfl, fun _ _ => ⟨rfl, rfl⟩, fun _ => rfl, fun h => absurd h n0⟩
      refine xm_run_go hm 60 ⟨(2, b), ⟨rfl, b4, b7⟩, ⟨fun _ => ⟨fun _ => ⟨(1, b), ⟨rfl, b4, b7, ok⟩, fin⟩, fun q => absurd q n0⟩, fun q => ?_⟩⟩
      rw [if_neg (fun z => n0 z.1)] at q; exact absurd rfl q
theorem nGo_c {a p : Nat} {g : xG} (h13 : g.1 0 13 = 0) (a4 : a ≤ 400) (h11 : g.1 0 11 = nI a) (hp : g.1 4 a = nI p) : (a = 400 ∧ mFl 2 p (nGo a g) ∧ (∀ j, j ≠ 13 → j ≠ 14 → (nGo a g).1 0 j = g.1 0 j) ∧ (∀ k, k ≠ 0 → (nGo a g).1 k = g.1 k)) ∨ (a < 400 ∧ nGo a g = xm_sI g 0 11 (nI (a + 1))) := by
  unfold nGo
  by_cases h : a = 400
  · rw [if_pos h]
    exact Or.inl ⟨h, nFail_fl (f := 2) h13 (Or.inr rfl) a4 h11 hp, fun j h1 h2 => nFail_j h1 h2, fun k hk => nFail_o hk⟩
  · rw [if_neg h]
    exact Or.inr ⟨by omega, rfl⟩
def mSm (z a o : Nat) (W : List Nat) (e : vX) (g : xG) : Prop := g.1 0 13 = 0 ∧ g.1 0 11 = nI a ∧ g.1 0 12 = nI o ∧ mWt W g ∧ g.1 0 41 = nI (z + e.length) ∧ mCz g z e
def mBd (f p z u : Nat) (g : xG) : Prop := mFl f p g ∧ ∃ W y, mWt W g ∧ g.1 0 41 = nI y ∧ y + W.length ≤ u ∧ z ≤ y
def xt_X9_expression : xT := xm_rl (Z := vTk × Nat × Nat × Nat) (fun (k, N, z, a) av g => av = [.ref 0] ∧ g.1 0 41 = nI z ∧ z ≤ 840 ∧ ((g.1 0 13 = 0 ∧ mTk k N g ∧ a ≤ N ∧ g.1 0 11 = nI a ∧ g.1 0 12 = 0 ∧ z ≤ a + 430) ∨ ∃ f p, mFl f p g))
  (fun (k, N, z, a) g r g' => r = none ∧ mFs g g' ∧ (∀ j, (j < z ∨ z + (401 - a) ≤ j) → g'.1 27 j = g.1 27 j ∧ g'.1 28 j = g.1 28 j) ∧ (∃ y, y ≤ 840 ∧ g'.1 0 41 = nI y) ∧ (∀ f p, mFl f p g → mFl f p g') ∧ (g.1 0 13 = 0 → (∀ f p, pE k (401 - a) a 0 [] [] true = .inl (f, p) → mFl f p g') ∧ ∀ a' e, pE k (401 - a) a 0 [] [] true = .inr (a', e) → g'.1 0 13 = 0 ∧ g'.1 0 11 = nI a' ∧ g'.1 0 12 = 0 ∧ g'.1 0 41 = nI (z + e.length) ∧ mCz g' z e))
set_option maxRecDepth 100000 in
set_option maxHeartbeats 400000 in
theorem xp_X9_expression {l : Launch} {D : va_G} {cA : Nat → ClassId} {B : List (Nat × Cell)} : xm_Met l D cA B xs_M 3 yX9_expression cX9_expression 3 none xt_X9_expression := by
  have hm : xm_monos [xt_X9_is, xt_X9_fail, xt_X9_goesOn, xt_X9_unit, xt_X9_comesOut] := ⟨(by first | exact xm_fn_mono _ _ _ | exact xm_rl_mono _ _), (by first | exact xm_fn_mono _ _ _ | exact xm_rl_mono _ _), (by first | exact xm_fn_mono _ _ _ | exact xm_rl_mono _ _), (by first | exact xm_fn_mono _ _ _ | exact xm_rl_mono _ _), (by first | exact xm_fn_mono _ _ _ | exact xm_rl_mono _ _), trivial⟩
  refine xm_meth (own := RX9) (ks := xk_X9_expression) (C := xc_X9_expression) (Ts := [xt_X9_is, xt_X9_fail, xt_X9_goesOn, xt_X9_unit, xt_X9_comesOut]) (by decide +kernel) rfl xm_clsok xs_M_ok xf_X9_ok xi_X9_ok xj_X9_ok (xm_lk xl_X9_218 xp_X9_is (by decide) (xm_lk xl_X9_215 xp_X9_fail (by decide) (xm_lk xl_X9_221 xp_X9_goesOn (by decide) (xm_lk xl_X9_296 xp_X9_unit (by decide) (xm_lk xl_X9_299 xp_X9_comesOut (by decide) xm_lk0))))) xo_X9_expression ?_ ?_
  · rintro av g Q ⟨z, ⟨rfl, -⟩, -⟩
    exact Nat.le_of_ble_eq_true rfl
  · rintro av g Q ⟨⟨k, N, z, a0⟩, ⟨rfl, hz, z8, hst⟩, hQ⟩
    dsimp only at hz z8 hst hQ
    -- a fault stands: out
    have fin0 : ∀ g1 f p, mFs g g1 → (∀ j, (j < z ∨ z + (401 - a0) ≤ j) → g1.1 27 j = g.1 27 j ∧ g1.1 28 j = g.1 28 j) → mFl f p g1 → (∃ y, y ≤ 840 ∧ g1.1 0 41 = nI y) → (∀ f' p', mFl f' p' g → mFl f' p' g1) → (g.1 0 13 = 0 → pE k (401 - a0) a0 0 [] [] true = .inl (f, p)) → Q none g1 := fun g1 f p f1 lo fl hy ho hp =>
      hQ _ _ ⟨rfl, f1, lo, hy, ho, fun h0 => ⟨fun f' p' h' => by rw [hp h0] at h'; cases h'; exact fl, fun a' e h' => by rw [hp h0] at h'; cases h'⟩⟩
    rcases hst with ⟨s8, tk, aN, s7, s12, za⟩ | ⟨f, p, fl⟩
    · have nf : ∀ f p, ¬ mFl f p g := fun f p h => h.n0 s8
      have nfo : ∀ (g1 : xG) f' p', mFl f' p' g → mFl f' p' g1 := fun _ f' p' h => absurd h (nf _ _)
      have bad8 : ∀ g1 f p, mFs g g1 → (∀ j, (j < z ∨ z + (401 - a0) ≤ j) → g1.1 27 j = g.1 27 j ∧ g1.1 28 j = g.1 28 j) → mBd f p z (z + (401 - a0)) g1 → pE k (401 - a0) a0 0 [] [] true = .inl (f, p) → ∀ x1 x2, xm_go xs_M xk_X9_expression [xt_X9_is, xt_X9_fail, xt_X9_goesOn, xt_X9_unit, xt_X9_comesOut] xc_X9_expression Q (xm_drop 8 xc_X9_expression) [.ref 0, .int x1, .int x2] [] g1 := by
        rintro g1 f p f1 lo ⟨fl, W, y, wt, yz, yb, zy⟩ hp x1 x2
        have fin := fin0 g1 f p f1 lo fl ⟨y, by omega, yz⟩ (nfo g1) (fun _ => hp)
        exact xm_run_go hm 20 ⟨fun _ => fin, fun _ => ⟨fun _ => fin, fun q => absurd q fl.n0⟩⟩
      have bad13 : ∀ g1 f p, mFs g g1 → (∀ j, (j < z ∨ z + (401 - a0) ≤ j) → g1.1 27 j = g.1 27 j ∧ g1.1 28 j = g.1 28 j) → mBd f p z (z + (401 - a0)) g1 → pE k (401 - a0) a0 0 [] [] true = .inl (f, p) → ∀ x1 x2, xm_go xs_M xk_X9_expression [xt_X9_is, xt_X9_fail, xt_X9_goesOn, xt_X9_unit, xt_X9_comesOut] xc_X9_expression Q (xm_drop 13 xc_X9_expression) [.ref 0, .int x1, .int x2] [] g1 := by
        rintro g1 f p f1 lo ⟨fl, W, y, wt, yz, yb, zy⟩ hp x1 x2
        have n0 := fl.n0
        have fin := fin0 g1 f p f1 lo fl ⟨y, by omega, yz⟩ (nfo g1) (fun _ => hp)
        obtain ⟨h1, h2, -, b, b4, b7⟩ := id fl
        refine xm_run_go hm 40 ⟨(6, b), ⟨rfl, b4, b7⟩, ⟨fun _ => ⟨(k, N, z, 0, []), ⟨rfl, Or.inr ⟨f, p, fl⟩⟩, ?_⟩, fun q => ?_⟩⟩
        · rintro r g2 ⟨rfl, -, -, -, -, same, -⟩
          rw [same n0]
          refine ⟨fun q => ?_, fun _ => fin⟩
          rw [h1] at q
          rcases h2 with h2 | h2 <;> rw [h2] at q <;> exact absurd q (by decide)
        · rw [if_neg (fun z => n0 z.1)] at q; exact absurd rfl q
      have bad51 : ∀ g1 f p, mFs g g1 → (∀ j, (j < z ∨ z + (401 - a0) ≤ j) → g1.1 27 j = g.1 27 j ∧ g1.1 28 j = g.1 28 j) → mBd f p z (z + (401 - a0)) g1 → pE k (401 - a0) a0 0 [] [] true = .inl (f, p) → ∀ x1 x2, xm_go xs_M xk_X9_expression [xt_X9_is, xt_X9_fail, xt_X9_goesOn, xt_X9_unit, xt_X9_comesOut] xc_X9_expression Q (xm_drop 51 xc_X9_expression) [.ref 0, .int x1, .int x2] [] g1 := by
        rintro g1 f p f1 lo ⟨fl, W, y, wt, yz, yb, zy⟩ hp x1 x2
        have n0 := fl.n0
        have ok := fl.ok
        obtain ⟨-, -, -, b, b4, b7⟩ := id fl
        have i0 : ∀ j : Int32, (if g1.1 0 13 = 0 ∧ g1.1 3 b = j then (1 : Int32) else 0) = 0 := fun j => by rw [if_neg (fun z => n0 z.1)]
        have nf1 : nFail 1 b g1 = g1 := nFail_n n0
        have yb8 : y + W.length ≤ 840 := by have := tk.1; omega
        have rl := pRel_len 1 W
        have rel : ∀ (r : Option Value) (g2 : xG), (r = none ∧ mFs g1 g2 ∧ (∀ j, j ≠ 41 → j ≠ 45 → g2.1 0 j = g1.1 0 j) ∧ mWt (pRel 1 W).2 g2 ∧ g2.1 0 41 = nI (y + (pRel 1 W).1.length) ∧ mCz g2 y (pRel 1 W).1 ∧ ∀ j, (j < y ∨ y + W.length ≤ j) → g2.1 27 j = g1.1 27 j ∧ g2.1 28 j = g1.1 28 j) → Q none g2 := by
          rintro r g2 ⟨-, f2, k2, w2, z2, cd2, lo2⟩
          exact fin0 g2 f p (f1.tr f2) (fun j hj => ⟨(lo2 j (by omega)).1.trans (lo j hj).1, (lo2 j (by omega)).2.trans (lo j hj).2⟩) (fl.k (k2 11 (by decide) (by decide)) (k2 13 (by decide) (by decide)) (k2 14 (by decide) (by decide))) ⟨_, by omega, z2⟩ (nfo g2) (fun _ => hp)
        have rel' : ∀ (r : Option Value) (g2 : xG), (r = none ∧ mFs (nFail 1 b g1) g2 ∧ (∀ j, j ≠ 41 → j ≠ 45 → g2.1 0 j = (nFail 1 b g1).1 0 j) ∧ mWt (pRel 1 W).2 g2 ∧ g2.1 0 41 = nI (y + (pRel 1 W).1.length) ∧ mCz g2 y (pRel 1 W).1 ∧ ∀ j, (j < y ∨ y + W.length ≤ j) → g2.1 27 j = (nFail 1 b g1).1 27 j ∧ g2.1 28 j = (nFail 1 b g1).1 28 j) → Q none g2 := by rw [nf1]; exact rel
        have pre2 : mWt W (nFail 1 b g1) := by rw [nf1]; exact wt
        have pre3 : (nFail 1 b g1).1 0 41 = nI y := by rw [nf1]; exact yz
        refine xm_run_go hm 80 ⟨(7, b), ⟨rfl, b4, b7⟩, ⟨fun _ => ⟨(8, b), ⟨rfl, b4, b7⟩, ⟨fun q => absurd (i0 8) q, fun _ => ⟨(9, b), ⟨rfl, b4, b7⟩, ⟨fun q => absurd (i0 9) q, fun _ => ⟨(10, b), ⟨rfl, b4, b7⟩, ⟨fun q => absurd (i0 10) q, fun _ => ⟨(15, b), ⟨rfl, b4, b7⟩, ⟨fun _ => ⟨fun q => absurd rfl q, fun _ => ⟨fun _ => ⟨(false, W, y), ⟨rfl, wt, yz, yb8⟩, ?_⟩, fun _ => ⟨(1, b), ⟨rfl, b4, b7, ok⟩, (false, W, y), ⟨rfl, pre2, pre3, yb8⟩, ?_⟩⟩⟩, fun q => absurd (i0 15) q⟩⟩⟩⟩⟩⟩⟩⟩, fun q => absurd (i0 7) q⟩⟩
        · intro r g2 h2
          have x := rel r g2 h2
          obtain ⟨rfl, -⟩ := h2
          exact x
        · intro r g2 h2
          have x := rel' r g2 h2
          obtain ⟨rfl, -⟩ := h2
          exact x
      have both : ∀ f, (∀ a o W e, a + f = 401 → a0 ≤ a → pE k f a o W e true = pE k (401 - a0) a0 0 [] [] true → a ≤ N → pWf o 3 W → o ≤ 6 → e.length + W.length + a0 ≤ a → ∀ g1, mFs g g1 → (∀ j, (j < z ∨ z + (401 - a0) ≤ j) → g1.1 27 j = g.1 27 j ∧ g1.1 28 j = g.1 28 j) → mSm z a o W e g1 → ∀ x1, x1 = 0 → xm_go xs_M xk_X9_expression [xt_X9_is, xt_X9_fail, xt_X9_goesOn, xt_X9_unit, xt_X9_comesOut] xc_X9_expression Q (xm_drop 13 xc_X9_expression) [.ref 0, .int x1, .int 1] [] g1) ∧
          (∀ a o W e, a + f = 401 → a0 ≤ a → pE k f a o W e false = pE k (401 - a0) a0 0 [] [] true → a ≤ N → pWf o 3 W → o ≤ 6 → e.length + W.length + a0 ≤ a → ∀ g1, mFs g g1 → (∀ j, (j < z ∨ z + (401 - a0) ≤ j) → g1.1 27 j = g.1 27 j ∧ g1.1 28 j = g.1 28 j) → mSm z a o W e g1 → ∀ x1 x2, x1 = 0 → xm_go xs_M xk_X9_expression [xt_X9_is, xt_X9_fail, xt_X9_goesOn, xt_X9_unit, xt_X9_comesOut] xc_X9_expression Q (xm_drop 51 xc_X9_expression) [.ref 0, .int x1, .int x2] [] g1) := by
        intro f
        induction f with
        | zero =>
          refine ⟨fun a o W e ha => ?_, fun a o W e ha => ?_⟩
          all_goals
            have := tk.1
            intros
            omega
        | succ f ih =>
          obtain ⟨ih13, ih51⟩ := ih
          refine ⟨fun a o W e ha aa hE aN wf o6 el g1 f1 lo sm x1 hx1 => ?_, fun a o W e ha aa hE aN wf o6 el g1 f1 lo sm x1 x2 hx1 => ?_⟩
          · -- a unit is wanted
            have N4 := tk.1
            have a4 : a ≤ 400 := by omega
            have tk1 := tk.s f1
            obtain ⟨q8, q7, q6, qW, qz, qc⟩ := id sm
            obtain ⟨t1, t2, ⟨t3, tv⟩, t4, t5⟩ := tk1.2.2 a aN
            have mk := pMk_lt _ t3 tv
            have wl := pWf_len wf (by omega)
            have ok : mOk g1 := Or.inl q8
            have isN : ∀ j, j < 148 → pVk j = true → (g1.1 3 a = nI (pMk j) ↔ k.1 a = j) := fun j hj hv => by
              rw [t1, nI_eq (by omega) (by have := pMk_lt j hj hv; omega)]
              exact pMk_inj _ t3 tv j hj hv
            have eqE : pE k (f + 1) a o W e true = if k.1 a = 40 then (if 6 ≤ o then .inl (2, k.2.1 a) else if 400 ≤ a then .inl (2, k.2.1 a) else pE k f (a + 1) (o + 1) (40 :: W) e true) else if pUn k a then (if 400 ≤ a then .inl (2, k.2.1 a) else pE k f (a + 1) o W (e ++ [pU k a]) false) else .inl (1, k.2.1 a) := rfl
            rw [eqE] at hE
            by_cases c1 : k.1 a = 40
            · rw [if_pos c1] at hE
              have g6 : g1.1 3 a = 6 := (isN 40 (by decide) (by decide)).mpr c1
              have is1 : ¬ (if g1.1 0 13 = 0 ∧ g1.1 3 a = 6 then (1 : Int32) else 0) = 0 := by rw [if_pos ⟨q8, g6⟩]; decide
              -- behind the test: the bracket waits
              have push : ∀ g2, mFs g1 g2 → g2.1 29 = g1.1 29 → g2.1 0 45 = g1.1 0 45 → g2.1 27 = g1.1 27 → g2.1 28 = g1.1 28 → g2.1 0 41 = g1.1 0 41 →
                  mWt (40 :: W) (xm_sI (xm_sI g2 29 W.length 6) 0 45 ((xm_sI g2 29 W.length 6).1 0 45 + 1)) ∧ g2.1 0 45 = nI W.length := fun g2 f2 e29 e45 e27 e28 e41 => by
                have w2 := (qW.k e45 e29)
                have w3 := w2.push (x := 40) (Or.inl rfl) (by omega : W.length < 40)
                refine ⟨?_, w2.1⟩
                rw [xg_off _ _ _ (by decide), w2.1, nI_1]; exact w3
              by_cases c2 : 6 ≤ o
              · rw [if_pos c2] at hE
                have o6' : o = 6 := by omega
                have g12 : g1.1 0 12 = 6 := by rw [q6, o6']; rfl
                have fl2 := nFail_fl (f := 2) q8 (Or.inr rfl) a4 q7 t2
                have nfl : nFail (nI 2) a g1 = nFail 2 a g1 := rfl
                generalize hg2 : nFail 2 a g1 = g2
                rw [nfl, hg2] at fl2
                have j2 : ∀ j, j ≠ 13 → j ≠ 14 → g2.1 0 j = g1.1 0 j := fun j h1 h2 => by rw [← hg2]; exact nFail_j h1 h2
                have k2 : ∀ j, j ≠ 0 → g2.1 j = g1.1 j := fun j h => by rw [← hg2]; exact nFail_o h
                have f2 : mFs g1 g2 := by rw [← hg2]; exact mFs.rf.fl _ _
                generalize hg3 : xm_sI g2 0 12 (g2.1 0 12 + 1) = g3
                have f3 : mFs g1 g3 := by rw [← hg3]; exact f2.p0 _ (by omega)
                have fl3 : mFl 2 (k.2.1 a) g3 := fl2.k (by rw [← hg3, xg_in, if_neg (by decide)]) (by rw [← hg3, xg_in, if_neg (by decide)]) (by rw [← hg3, xg_in, if_neg (by decide)])
                have g3_11 : g3.1 0 11 = nI a := by rw [← hg3, xg_in, if_neg (by decide), j2 11 (by decide) (by decide)]; exact q7
                -- going on after the fault: one token on, or not
                have go4 : nGo a g3 = g3 ∧ a = 400 ∨ nGo a g3 = xm_sI g3 0 11 (nI (a + 1)) ∧ a < 400 := by
                  unfold nGo
                  by_cases a4' : a = 400
                  · left; rw [if_pos a4', nFail_n fl3.n0]; exact ⟨rfl, a4'⟩
                  · right; rw [if_neg a4']; exact ⟨rfl, by omega⟩
                generalize hg4 : nGo a g3 = g4 at go4
                have f4 : mFs g1 g4 := by rcases go4 with ⟨q, -⟩ | ⟨q, -⟩ <;> rw [q]; exact f3; exact f3.p0 _ (by omega)
                have fl4 : mFl 2 (k.2.1 a) g4 := by
                  rcases go4 with ⟨q, -⟩ | ⟨q, lt⟩ <;> rw [q]
                  · exact fl3
                  · obtain ⟨h1, h2, h3, -⟩ := fl3
                    exact ⟨by rw [xg_in, if_neg (by decide)]; exact h1, h2, by rw [xg_in, if_neg (by decide)]; exact h3, a + 1, by omega, by rw [xg_in, if_pos rfl]⟩
                have k4 : ∀ j, j ≠ 0 → g4.1 j = g1.1 j := fun j h => by
                  have e3 : g3.1 j = g1.1 j := by rw [← hg3, xg_off _ _ _ h]; exact k2 j h
                  rcases go4 with ⟨q, -⟩ | ⟨q, -⟩ <;> rw [q]
                  · exact e3
                  · rw [xg_off _ _ _ h]; exact e3
                have j4 : ∀ j, j ≠ 11 → j ≠ 12 → j ≠ 13 → j ≠ 14 → g4.1 0 j = g1.1 0 j := fun j h1 h2 h3 h4 => by
                  have e3 : g3.1 0 j = g1.1 0 j := by rw [← hg3, xg_in, if_neg h2]; exact j2 j h3 h4
                  rcases go4 with ⟨q, -⟩ | ⟨q, -⟩ <;> rw [q]
                  · exact e3
                  · rw [xg_in, if_neg h1]; exact e3
                obtain ⟨w5, e45⟩ := push g4 f4 (k4 29 (by decide)) (j4 45 (by decide) (by decide) (by decide) (by decide)) (k4 27 (by decide)) (k4 28 (by decide)) (j4 41 (by decide) (by decide) (by decide) (by decide))
                have g5 := bad13 (xm_sI (xm_sI g4 29 W.length 6) 0 45 ((xm_sI g4 29 W.length 6).1 0 45 + 1)) 2 _ (f1.tr ((f4.pc _ _ (by omega)).p0 _ (by omega))) (fun j hj => by rw [xg_off _ _ _ (by decide), xg_off _ _ _ (by decide), xg_off _ _ _ (by decide), xg_off _ _ _ (by decide), k4 27 (by decide), k4 28 (by decide)]; exact lo j hj) ⟨fl4.k (by rw [xg_in, if_neg (by decide), xg_off _ _ _ (by decide)]) (by rw [xg_in, if_neg (by decide), xg_off _ _ _ (by decide)]) (by rw [xg_in, if_neg (by decide), xg_off _ _ _ (by decide)]), 40 :: W, z + e.length, w5, by rw [xg_in, if_neg (by decide), xg_off _ _ _ (by decide), j4 41 (by decide) (by decide) (by decide) (by decide)]; exact qz, by simp only [List.length_cons]; omega, by omega⟩ hE.symm
                have ok3 : mOk g3 := fl3.ok
                rw [← hg4] at g5 e45
                rw [← hg3] at g5 e45 g3_11 ok3
                rw [← hg2] at g5 e45 g3_11 ok3
                exact xm_run_go hm 60 ⟨(6, a), ⟨rfl, a4, q7⟩, ⟨fun q => absurd q is1, fun _ => ⟨fun q => absurd g12 q, fun _ => ⟨(2, a), ⟨rfl, a4, q7, ok⟩, a, ⟨rfl, a4, g3_11, ok3⟩, W.length, ⟨by omega, e45⟩, xm_cut hm (g5 _ _)⟩⟩⟩⟩
              · rw [if_neg c2] at hE
                have g12 : ¬ g1.1 0 12 = 6 := fun q => by rw [q6] at q; have := (nI_eq (b := 6) (by omega) (by decide)).mp q; omega
                generalize hg3 : xm_sI g1 0 12 (g1.1 0 12 + 1) = g3
                have f3 : mFs g1 g3 := by rw [← hg3]; exact mFs.rf.p0 _ (by omega)
                have k3 : ∀ j, j ≠ 0 → g3.1 j = g1.1 j := fun j h => by rw [← hg3, xg_off _ _ _ h]
                have j3 : ∀ j, j ≠ 12 → g3.1 0 j = g1.1 0 j := fun j h => by rw [← hg3, xg_in, if_neg h]
                have g3_12 : g3.1 0 12 = nI (o + 1) := by rw [← hg3, xg_in, if_pos rfl, q6, nI_1]
                have g3_11 : g3.1 0 11 = nI a := by rw [j3 11 (by decide)]; exact q7
                have g3_13 : g3.1 0 13 = 0 := by rw [j3 13 (by decide)]; exact q8
                have ok3 : mOk g3 := Or.inl g3_13
                by_cases c3 : 400 ≤ a
                · rw [if_pos c3] at hE
                  have en : nGo a g3 = nFail (nI 2) a g3 := by unfold nGo; rw [if_pos (by omega)]; rfl
                  have fl4 := nFail_fl (f := 2) g3_13 (Or.inr rfl) a4 g3_11 (show g3.1 4 a = nI (k.2.1 a) by rw [k3 4 (by decide)]; exact t2)
                  rw [← en] at fl4
                  generalize hg4 : nGo a g3 = g4 at fl4 en
                  have k4 : ∀ j, j ≠ 0 → g4.1 j = g1.1 j := fun j h => by rw [en, nFail_o h]; exact k3 j h
                  have j4 : ∀ j, j ≠ 12 → j ≠ 13 → j ≠ 14 → g4.1 0 j = g1.1 0 j := fun j h1 h2 h3 => by rw [en, nFail_j h2 h3]; exact j3 j h1
                  have f4 : mFs g1 g4 := by rw [en]; exact f3.fl _ _
                  obtain ⟨w5, e45⟩ := push g4 f4 (k4 29 (by decide)) (j4 45 (by decide) (by decide) (by decide)) (k4 27 (by decide)) (k4 28 (by decide)) (j4 41 (by decide) (by decide) (by decide))
                  have g5 := bad13 (xm_sI (xm_sI g4 29 W.length 6) 0 45 ((xm_sI g4 29 W.length 6).1 0 45 + 1)) 2 _ (f1.tr ((f4.pc _ _ (by omega)).p0 _ (by omega))) (fun j hj => by rw [xg_off _ _ _ (by decide), xg_off _ _ _ (by decide), xg_off _ _ _ (by decide), xg_off _ _ _ (by decide), k4 27 (by decide), k4 28 (by decide)]; exact lo j hj) ⟨fl4.k (by rw [xg_in, if_neg (by decide), xg_off _ _ _ (by decide)]) (by rw [xg_in, if_neg (by decide), xg_off _ _ _ (by decide)]) (by rw [xg_in, if_neg (by decide), xg_off _ _ _ (by decide)]), 40 :: W, z + e.length, w5, by rw [xg_in, if_neg (by decide), xg_off _ _ _ (by decide), j4 41 (by decide) (by decide) (by decide)]; exact qz, by simp only [List.length_cons]; omega, by omega⟩ hE.symm
                  rw [← hg4] at g5 e45
                  rw [← hg3] at g5 e45 g3_11 ok3
                  exact xm_run_go hm 60 ⟨(6, a), ⟨rfl, a4, q7⟩, ⟨fun q => absurd q is1, fun _ => ⟨fun _ => ⟨a, ⟨rfl, a4, g3_11, ok3⟩, W.length, ⟨by omega, e45⟩, xm_cut hm (g5 _ _)⟩, fun q => absurd q g12⟩⟩⟩
                · rw [if_neg c3] at hE
                  have en : nGo a g3 = xm_sI g3 0 11 (nI (a + 1)) := by unfold nGo; rw [if_neg (by omega)]
                  generalize hg4 : nGo a g3 = g4 at en
                  have k4 : ∀ j, j ≠ 0 → g4.1 j = g1.1 j := fun j h => by rw [en, xg_off _ _ _ h]; exact k3 j h
                  have j4 : ∀ j, j ≠ 11 → j ≠ 12 → g4.1 0 j = g1.1 0 j := fun j h1 h2 => by rw [en, xg_in, if_neg h1]; exact j3 j h2
                  have f4 : mFs g1 g4 := by rw [en]; exact f3.p0 _ (by omega)
                  obtain ⟨w5, e45⟩ := push g4 f4 (k4 29 (by decide)) (j4 45 (by decide) (by decide)) (k4 27 (by decide)) (k4 28 (by decide)) (j4 41 (by decide) (by decide))
                  have aN' := tk.lt aN (by omega) (by omega) (by omega)
                  have g5 := ih13 (a + 1) (o + 1) (40 :: W) e (by omega) (by omega) hE aN' (Or.inl ⟨rfl, by omega, wf⟩) (by omega) (by simp only [List.length_cons]; omega) (xm_sI (xm_sI g4 29 W.length 6) 0 45 ((xm_sI g4 29 W.length 6).1 0 45 + 1)) (f1.tr ((f4.pc _ _ (by omega)).p0 _ (by omega))) (fun j hj => by rw [xg_off _ _ _ (by decide), xg_off _ _ _ (by decide), xg_off _ _ _ (by decide), xg_off _ _ _ (by decide), k4 27 (by decide), k4 28 (by decide)]; exact lo j hj) ⟨by rw [xg_in, if_neg (by decide), xg_off _ _ _ (by decide), j4 13 (by decide) (by decide)]; exact q8, by rw [xg_in, if_neg (by decide), xg_off _ _ _ (by decide), en, xg_in, if_pos rfl], by rw [xg_in, if_neg (by decide), xg_off _ _ _ (by decide), en, xg_in, if_neg (by decide)]; exact g3_12, w5, by rw [xg_in, if_neg (by decide), xg_off _ _ _ (by decide), j4 41 (by decide) (by decide)]; exact qz, fun i q hq => by rw [xg_off _ _ _ (by decide), xg_off _ _ _ (by decide), xg_off _ _ _ (by decide), xg_off _ _ _ (by decide), k4 27 (by decide), k4 28 (by decide)]; exact qc i q hq⟩ x1 hx1
                  rw [← hg4] at g5 e45
                  rw [← hg3] at g5 e45 g3_11 ok3
                  exact xm_run_go hm 60 ⟨(6, a), ⟨rfl, a4, q7⟩, ⟨fun q => absurd q is1, fun _ => ⟨fun _ => ⟨a, ⟨rfl, a4, g3_11, ok3⟩, W.length, ⟨by omega, e45⟩, xm_cut hm g5⟩, fun q => absurd q g12⟩⟩⟩
            · rw [if_neg c1] at hE
              have ng6 : ¬ g1.1 3 a = 6 := fun q => c1 ((isN 40 (by decide) (by decide)).mp q)
              refine xm_run_go hm 40 ⟨(6, a), ⟨rfl, a4, q7⟩, ⟨fun _ => ⟨(k, N, z, a, e), ⟨rfl, Or.inl ⟨q8, tk1, aN, q7, qz, qc, by show z + e.length < 840; omega⟩⟩, ?_⟩, fun q => ?_⟩⟩
              · rintro r g2 ⟨rfl, f2, j2, e29, lo2, -, h2⟩
                obtain ⟨hy, h2⟩ := h2 q8
                have lo' : ∀ j, (j < z ∨ z + (401 - a0) ≤ j) → g2.1 27 j = g.1 27 j ∧ g2.1 28 j = g.1 28 j := fun j hj => ⟨(lo2 j (by omega)).1.trans (lo j hj).1, (lo2 j (by omega)).2.trans (lo j hj).2⟩
                have flout : ∀ f' p', mFl f' p' g2 → pE k (401 - a0) a0 0 [] [] true = .inl (f', p') → (g2.1 0 13 ≤ 0 → False) ∧ Q none g2 := fun f' p' fl hp => by
                  refine ⟨fun q => ?_, ?_⟩
                  · rw [fl.1] at q
                    rcases fl.2.1 with h | h <;> rw [h] at q <;> exact absurd q (by decide)
                  · exact fin0 g2 f' p' (f1.tr f2) lo' fl hy (nfo g2) (fun _ => hp)
                rcases h2 with ⟨c2, c3, p8, p7, pz, pc⟩ | ⟨c2, c3, fl⟩ | ⟨c2, fl⟩
                · rw [if_pos c2, if_neg (by omega)] at hE
                  have ku := pUn_i.mp c2
                  have aN' := tk.lt aN (by omega) (by omega) c3
                  have go := ih51 (a + 1) o W (e ++ [pU k a]) (by omega) (by omega) hE aN' wf o6 (by rw [List.length_append]; simp only [List.length_singleton]; omega) g2 (f1.tr f2) lo' ⟨p8, p7, by rw [j2 12 (by decide) (by decide) (by decide) (by decide)]; exact q6, qW.k (j2 45 (by decide) (by decide) (by decide) (by decide)) e29, pz, pc⟩ x1 1 hx1
                  have le : g2.1 0 13 ≤ 0 := by rw [p8]; decide
                  exact ⟨fun _ => xm_cut hm go, fun q => absurd le (Int32.not_le.mpr q)⟩
                · rw [if_pos c2, if_pos c3] at hE
                  obtain ⟨y1, y2⟩ := flout 2 _ fl hE.symm
                  exact ⟨fun q => absurd q y1, fun _ => y2⟩
                · rw [if_neg (by rw [c2]; decide)] at hE
                  obtain ⟨y1, y2⟩ := flout 1 _ fl hE.symm
                  exact ⟨fun q => absurd q y1, fun _ => y2⟩
              · rw [if_neg (fun z => ng6 z.2)] at q; exact absurd rfl q
          · -- no unit is wanted
            have N4 := tk.1
            have a4 : a ≤ 400 := by omega
            have tk1 := tk.s f1
            obtain ⟨q8, q7, q6, qW, qz, qc⟩ := id sm
            obtain ⟨t1, t2, ⟨t3, tv⟩, t4, t5⟩ := tk1.2.2 a aN
            have wl := pWf_len wf (by omega)
            have isN : ∀ j, j < 148 → pVk j = true → (g1.1 3 a = nI (pMk j) ↔ k.1 a = j) := fun j hj hv => by
              rw [t1, nI_eq (by have := pMk_lt _ t3 tv; omega) (by have := pMk_lt j hj hv; omega)]
              exact pMk_inj _ t3 tv j hj hv
            have isY : ∀ j, j < 148 → pVk j = true → k.1 a = j → ¬ (if g1.1 0 13 = 0 ∧ g1.1 3 a = nI (pMk j) then (1 : Int32) else 0) = 0 := fun j h1 h2 h3 => by
              rw [if_pos ⟨q8, (isN j h1 h2).mpr h3⟩]; decide
            have isX : ∀ j, j < 148 → pVk j = true → k.1 a ≠ j → (if g1.1 0 13 = 0 ∧ g1.1 3 a = nI (pMk j) then (1 : Int32) else 0) = 0 := fun j h1 h2 h3 => by
              rw [if_neg (fun q => h3 ((isN j h1 h2).mp q.2))]
            have op : g1.1 0 12 ≤ x1 ↔ o = 0 := by
              rw [q6, hx1]
              exact ⟨fun q => by have := (nI_leI (b := 0) (by omega) (by omega)).mp q; omega, fun q => by rw [q]; decide⟩
            have eqE : pE k (f + 1) a o W e false = if k.1 a = 41 ∧ 0 < o then (if 400 ≤ a then .inl (2, k.2.1 a) else pE k f (a + 1) (o - 1) (pRel 1 W).2.tail (e ++ (pRel 1 W).1) false) else if 0 < pStr (k.1 a) then (if 400 ≤ a then .inl (2, k.2.1 a) else pE k f (a + 1) o (k.1 a :: (pRel (pStr (k.1 a)) W).2) (e ++ (pRel (pStr (k.1 a)) W).1) true) else if 0 < o then .inl (1, k.2.1 a) else .inr (a, e ++ (pRel 1 W).1) := rfl
            rw [eqE] at hE
            have rl1 := pRel_len 1 W
            have y7 : k.1 a = 41 → ¬ (if g1.1 0 13 = 0 ∧ g1.1 3 a = 7 then (1 : Int32) else 0) = 0 := isY 41 (by decide) (by decide)
            have n7 : k.1 a ≠ 41 → (if g1.1 0 13 = 0 ∧ g1.1 3 a = 7 then (1 : Int32) else 0) = 0 := isX 41 (by decide) (by decide)
            have y8 : k.1 a = 43 → ¬ (if g1.1 0 13 = 0 ∧ g1.1 3 a = 8 then (1 : Int32) else 0) = 0 := isY 43 (by decide) (by decide)
            have n8 : k.1 a ≠ 43 → (if g1.1 0 13 = 0 ∧ g1.1 3 a = 8 then (1 : Int32) else 0) = 0 := isX 43 (by decide) (by decide)
            have y9 : k.1 a = 45 → ¬ (if g1.1 0 13 = 0 ∧ g1.1 3 a = 9 then (1 : Int32) else 0) = 0 := isY 45 (by decide) (by decide)
            have n9 : k.1 a ≠ 45 → (if g1.1 0 13 = 0 ∧ g1.1 3 a = 9 then (1 : Int32) else 0) = 0 := isX 45 (by decide) (by decide)
            have y10 : k.1 a = 42 → ¬ (if g1.1 0 13 = 0 ∧ g1.1 3 a = 10 then (1 : Int32) else 0) = 0 := isY 42 (by decide) (by decide)
            have n10 : k.1 a ≠ 42 → (if g1.1 0 13 = 0 ∧ g1.1 3 a = 10 then (1 : Int32) else 0) = 0 := isX 42 (by decide) (by decide)
            have y15 : k.1 a = 47 → ¬ (if g1.1 0 13 = 0 ∧ g1.1 3 a = 15 then (1 : Int32) else 0) = 0 := isY 47 (by decide) (by decide)
            have n15 : k.1 a ≠ 47 → (if g1.1 0 13 = 0 ∧ g1.1 3 a = 15 then (1 : Int32) else 0) = 0 := isX 47 (by decide) (by decide)
            by_cases c1 : k.1 a = 41 ∧ 0 < o
            · rw [if_pos c1] at hE
              have nle : ¬ g1.1 0 12 ≤ x1 := fun q => by have := op.mp q; omega
              refine xm_run_go hm 60 ⟨(7, a), ⟨rfl, a4, q7⟩, ⟨fun q => absurd q (y7 c1.1), fun _ => ⟨fun q => absurd q nle, fun _ => ⟨(false, W, z + e.length), ⟨rfl, qW, qz, by show z + e.length + W.length ≤ 840; omega⟩, ?_⟩⟩⟩⟩
              rintro r g2 ⟨rfl, f2, k2, w2, z2, cd2, lo2⟩
              rw [if_neg (by decide)] at w2 z2 cd2
              rcases pRel_1 wf with ⟨q, -⟩ | ⟨-, r, hr, hwf⟩
              · omega
              rw [hr] at w2 hE rl1
              simp only [List.length_cons] at rl1
              generalize hg4 : xm_sI (xm_sI g2 0 45 (g2.1 0 45 - 1)) 0 12 ((xm_sI g2 0 45 (g2.1 0 45 - 1)).1 0 12 - 1) = g4
              have f4 : mFs g1 g4 := by rw [← hg4]; exact (f2.p0 _ (by omega)).p0 _ (by omega)
              have k4 : ∀ j, j ≠ 0 → g4.1 j = g2.1 j := fun j h => by rw [← hg4, xg_off _ _ _ h, xg_off _ _ _ h]
              have j4 : ∀ j, j ≠ 12 → j ≠ 41 → j ≠ 45 → g4.1 0 j = g1.1 0 j := fun j h1 h2 h3 => by rw [← hg4, xg_in, if_neg h1, xg_in, if_neg h3]; exact k2 j h2 h3
              have e45 : g4.1 0 45 = nI r.length := by
                rw [← hg4, xg_in, if_neg (by decide), xg_in, if_pos rfl, w2.1, List.length_cons]
                exact (xn_dec (by omega)).trans (by rw [Nat.add_sub_cancel])
              have e12 : g4.1 0 12 = nI (o - 1) := by
                rw [← hg4, xg_in, if_pos rfl, xg_in, if_neg (by decide), k2 12 (by decide) (by decide), q6]
                exact xn_dec (by omega)
              have w4 : mWt r g4 := w2.tl e45 (k4 29 (by decide))
              have e41 : g4.1 0 41 = nI (z + e.length + (pRel 1 W).1.length) := by rw [← hg4, xg_in, if_neg (by decide), xg_in, if_neg (by decide)]; exact z2
              have cz : mCz g4 z (e ++ (pRel 1 W).1) := by
                have := (qc.lo (g' := g2) (fun j hj => lo2 j (Or.inl hj))).app cd2
                exact fun i q hq => by rw [k4 27 (by decide), k4 28 (by decide)]; exact this i q hq
              have lo4 : ∀ j, (j < z ∨ z + (401 - a0) ≤ j) → g4.1 27 j = g.1 27 j ∧ g4.1 28 j = g.1 28 j := fun j hj => by rw [k4 27 (by decide), k4 28 (by decide)]; exact ⟨(lo2 j (by omega)).1.trans (lo j hj).1, (lo2 j (by omega)).2.trans (lo j hj).2⟩
              have p11 : g4.1 0 11 = nI a := by rw [j4 11 (by decide) (by decide) (by decide)]; exact q7
              have p13 : g4.1 0 13 = 0 := by rw [j4 13 (by decide) (by decide) (by decide)]; exact q8
              have p4 : g4.1 4 a = nI (k.2.1 a) := by rw [f4.2.1 4 (by decide) (by decide) (by decide) (by decide)]; exact t2
              have go : xm_go xs_M xk_X9_expression [xt_X9_is, xt_X9_fail, xt_X9_goesOn, xt_X9_unit, xt_X9_comesOut] xc_X9_expression Q (xm_drop 51 xc_X9_expression) [.ref 0, .int x1, .int x2] [] (nGo a g4) := by
                rcases nGo_c p13 a4 p11 p4 with ⟨h1, h2, h3, h4⟩ | ⟨h1, h2⟩
                · rw [if_pos (by omega)] at hE
                  exact bad51 _ 2 _ ((f1.tr f4).go a) (fun j hj => by rw [h4 27 (by decide), h4 28 (by decide)]; exact lo4 j hj) ⟨h2, r, _, w4.k (h3 45 (by decide) (by decide)) (h4 29 (by decide)), by rw [h3 41 (by decide) (by decide)]; exact e41, by omega, by omega⟩ hE.symm _ _
                · rw [if_neg (by omega)] at hE
                  rw [h2]
                  have aN' := tk.lt aN (by omega) (by omega) h1
                  exact ih51 (a + 1) (o - 1) r (e ++ (pRel 1 W).1) (by omega) (by omega) hE aN' hwf (by omega) (by rw [List.length_append]; omega) _ ((f1.tr f4).p0 _ (by omega)) (fun j hj => by rw [xg_off _ _ _ (by decide), xg_off _ _ _ (by decide)]; exact lo4 j hj) ⟨by rw [xg_in, if_neg (by decide)]; exact p13, by rw [xg_in, if_pos rfl], by rw [xg_in, if_neg (by decide)]; exact e12, w4.k (by rw [xg_in, if_neg (by decide)]) (by rw [xg_off _ _ _ (by decide)]), by rw [xg_in, if_neg (by decide), e41, List.length_append, Nat.add_assoc], fun i q hq => by rw [xg_off _ _ _ (by decide), xg_off _ _ _ (by decide)]; exact cz i q hq⟩ _ _ hx1
              have ok4 : mOk g4 := Or.inl p13
              rw [← hg4] at go ok4 p11
              exact ⟨a, ⟨rfl, a4, p11, ok4⟩, xm_cut hm go⟩
            · rw [if_neg c1] at hE
              by_cases c2 : 0 < pStr (k.1 a)
              · rw [if_pos c2] at hE
                have kop := pStr_op c2
                have pl := pStr_le (k.1 a)
                have n41 : k.1 a ≠ 41 := by omega
                -- the sign comes after those that bind as strongly
                have sig : ∀ (s : Nat), s = pStr (k.1 a) → ∀ (r : Option Value) (g2 : xG), (r = none ∧ mFs g1 g2 ∧ (∀ j, j ≠ 41 → j ≠ 45 → g2.1 0 j = g1.1 0 j) ∧ mWt (pRel s W).2 g2 ∧ g2.1 0 41 = nI (z + e.length + (pRel s W).1.length) ∧ mCz g2 (z + e.length) (pRel s W).1 ∧ ∀ j, (j < z + e.length ∨ z + e.length + W.length ≤ j) → g2.1 27 j = g1.1 27 j ∧ g2.1 28 j = g1.1 28 j) → ∃ w, w < 64 ∧ g2.1 0 45 = nI w ∧ g2.1 0 11 = nI a ∧ (xm_sI (xm_sI g2 29 w (g2.1 3 a)) 0 45 ((xm_sI g2 29 w (g2.1 3 a)).1 0 45 + 1)).1 0 11 = nI a ∧ mOk (xm_sI (xm_sI g2 29 w (g2.1 3 a)) 0 45 ((xm_sI g2 29 w (g2.1 3 a)).1 0 45 + 1)) ∧ xm_go xs_M xk_X9_expression [xt_X9_is, xt_X9_fail, xt_X9_goesOn, xt_X9_unit, xt_X9_comesOut] xc_X9_expression Q (xm_drop 8 xc_X9_expression) [.ref 0, .int x1, .int 1] [] (nGo a (xm_sI (xm_sI g2 29 w (g2.1 3 a)) 0 45 ((xm_sI g2 29 w (g2.1 3 a)).1 0 45 + 1))) := by
                  rintro s hs r g2 ⟨-, f2, k2, w2, z2, cd2, lo2⟩
                  have rl := pRel_len s W
                  have rwf := (pRel_wf (t := s) (by omega) wf).1
                  have rwl := pWf_len rwf (by omega)
                  have g3a : g2.1 3 a = nI (pMk (k.1 a)) := by rw [f2.2.1 3 (by decide) (by decide) (by decide) (by decide)]; exact t1
                  refine ⟨(pRel s W).2.length, by omega, w2.1, by rw [k2 11 (by decide) (by decide)]; exact q7, ?_⟩
                  have w3 := w2.push (x := k.1 a) (by omega) (by omega)
                  have eg : xm_sI (xm_sI g2 29 (pRel s W).2.length (g2.1 3 a)) 0 45 ((xm_sI g2 29 (pRel s W).2.length (g2.1 3 a)).1 0 45 + 1) = xm_sI (xm_sI g2 29 (pRel s W).2.length (nI (pMk (k.1 a)))) 0 45 (nI ((pRel s W).2.length + 1)) := by rw [xg_off _ _ _ (by decide), w2.1, nI_1, g3a]
                  rw [eg]
                  generalize hg4 : xm_sI (xm_sI g2 29 (pRel s W).2.length (nI (pMk (k.1 a)))) 0 45 (nI ((pRel s W).2.length + 1)) = g4 at w3
                  have f4 : mFs g1 g4 := by rw [← hg4]; exact (f2.pc _ _ (by omega)).p0 _ (by omega)
                  have k4 : ∀ j, j ≠ 0 → j ≠ 29 → g4.1 j = g2.1 j := fun j h h2 => by rw [← hg4, xg_off _ _ _ h, xg_off _ _ _ h2]
                  have j4 : ∀ j, j ≠ 41 → j ≠ 45 → g4.1 0 j = g1.1 0 j := fun j h2 h3 => by rw [← hg4, xg_in, if_neg h3, xg_off _ _ _ (by decide)]; exact k2 j h2 h3
                  have e41 : g4.1 0 41 = nI (z + e.length + (pRel s W).1.length) := by rw [← hg4, xg_in, if_neg (by decide), xg_off _ _ _ (by decide)]; exact z2
                  have cz : mCz g4 z (e ++ (pRel s W).1) := by
                    have := (qc.lo (g' := g2) (fun j hj => lo2 j (Or.inl hj))).app cd2
                    exact fun i q hq => by rw [k4 27 (by decide) (by decide), k4 28 (by decide) (by decide)]; exact this i q hq
                  have lo4 : ∀ j, (j < z ∨ z + (401 - a0) ≤ j) → g4.1 27 j = g.1 27 j ∧ g4.1 28 j = g.1 28 j := fun j hj => by rw [k4 27 (by decide) (by decide), k4 28 (by decide) (by decide)]; exact ⟨(lo2 j (by omega)).1.trans (lo j hj).1, (lo2 j (by omega)).2.trans (lo j hj).2⟩
                  have p11 : g4.1 0 11 = nI a := by rw [j4 11 (by decide) (by decide)]; exact q7
                  have p12 : g4.1 0 12 = nI o := by rw [j4 12 (by decide) (by decide)]; exact q6
                  have p13 : g4.1 0 13 = 0 := by rw [j4 13 (by decide) (by decide)]; exact q8
                  have p4 : g4.1 4 a = nI (k.2.1 a) := by rw [f4.2.1 4 (by decide) (by decide) (by decide) (by decide)]; exact t2
                  rw [← hs] at hE
                  refine ⟨p11, Or.inl p13, ?_⟩
                  rcases nGo_c p13 a4 p11 p4 with ⟨h1, h2, h3, h4⟩ | ⟨h1, h2⟩
                  · rw [if_pos (by omega)] at hE
                    exact bad8 _ 2 _ ((f1.tr f4).go a) (fun j hj => by rw [h4 27 (by decide), h4 28 (by decide)]; exact lo4 j hj) ⟨h2, _, _, w3.k (h3 45 (by decide) (by decide)) (h4 29 (by decide)), by rw [h3 41 (by decide) (by decide)]; exact e41, by simp only [List.length_cons]; omega, by omega⟩ hE.symm _ _
                  · rw [if_neg (by omega)] at hE
                    rw [h2]
                    have aN' := tk.lt aN (by omega) (by omega) h1
                    have p13' : (xm_sI g4 0 11 (nI (a + 1))).1 0 13 = 0 := by rw [xg_in, if_neg (by decide)]; exact p13
                    have go := ih13 (a + 1) o (k.1 a :: (pRel s W).2) (e ++ (pRel s W).1) (by omega) (by omega) hE aN' (Or.inr ⟨kop, by omega, by rw [← hs]; exact rwf⟩) (by omega) (by rw [List.length_append]; simp only [List.length_cons]; omega) _ ((f1.tr f4).p0 _ (by omega)) (fun j hj => by rw [xg_off _ _ _ (by decide), xg_off _ _ _ (by decide)]; exact lo4 j hj) ⟨p13', by rw [xg_in, if_pos rfl], by rw [xg_in, if_neg (by decide)]; exact p12, w3.k (by rw [xg_in, if_neg (by decide)]) (by rw [xg_off _ _ _ (by decide)]), by rw [xg_in, if_neg (by decide), e41, List.length_append, Nat.add_assoc], fun i q hq => by rw [xg_off _ _ _ (by decide), xg_off _ _ _ (by decide)]; exact cz i q hq⟩ x1 hx1
                    exact xm_run_go hm 20 ⟨fun q => absurd q (by decide), fun _ => ⟨fun q => absurd p13' q, fun _ => xm_cut hm go⟩⟩
                have fin : ∀ (b : Bool), (if b then 2 else 1) = pStr (k.1 a) → ∀ (r : Option Value) (g2 : xG), (r = none ∧ mFs g1 g2 ∧ (∀ j, j ≠ 41 → j ≠ 45 → g2.1 0 j = g1.1 0 j) ∧ mWt (pRel (if b then 2 else 1) W).2 g2 ∧ g2.1 0 41 = nI (z + e.length + (pRel (if b then 2 else 1) W).1.length) ∧ mCz g2 (z + e.length) (pRel (if b then 2 else 1) W).1 ∧ ∀ j, (j < z + e.length ∨ z + e.length + W.length ≤ j) → g2.1 27 j = g1.1 27 j ∧ g2.1 28 j = g1.1 28 j) → r = none ∧ ∃ w, w < 64 ∧ g2.1 0 45 = nI w ∧ g2.1 0 11 = nI a ∧ (xm_sI (xm_sI g2 29 w (g2.1 3 a)) 0 45 ((xm_sI g2 29 w (g2.1 3 a)).1 0 45 + 1)).1 0 11 = nI a ∧ mOk (xm_sI (xm_sI g2 29 w (g2.1 3 a)) 0 45 ((xm_sI g2 29 w (g2.1 3 a)).1 0 45 + 1)) ∧ xm_go xs_M xk_X9_expression [xt_X9_is, xt_X9_fail, xt_X9_goesOn, xt_X9_unit, xt_X9_comesOut] xc_X9_expression Q (xm_drop 8 xc_X9_expression) [.ref 0, .int x1, .int 1] [] (nGo a (xm_sI (xm_sI g2 29 w (g2.1 3 a)) 0 45 ((xm_sI g2 29 w (g2.1 3 a)).1 0 45 + 1))) := fun b hb r g2 h => ⟨h.1, sig _ hb r g2 h⟩
                have wz : z + e.length + W.length ≤ 840 := by omega
                rcases kop with c | c | c | c
                · refine xm_run_go hm 80 ⟨(7, a), ⟨rfl, a4, q7⟩, ⟨fun _ => ⟨(8, a), ⟨rfl, a4, q7⟩, ⟨fun _ => ⟨fun _ => ⟨(10, a), ⟨rfl, a4, q7⟩, ⟨fun q => absurd (n10 (by omega)) q, fun _ => ⟨(15, a), ⟨rfl, a4, q7⟩, ⟨fun _ => ⟨(false, W, z + e.length), ⟨rfl, qW, qz, wz⟩, ?_⟩, fun q => absurd (n15 (by omega)) q⟩⟩⟩⟩, fun q => absurd q (by decide)⟩, fun q => absurd q (y8 c)⟩⟩, fun q => absurd (n7 n41) q⟩⟩
                  intro r g2 h2
                  obtain ⟨rfl, w, w6, x1, x2, x3, x4, x5⟩ := fin false (by rw [c]; rfl) r g2 h2
                  exact ⟨a, ⟨by omega, x2⟩, w, ⟨w6, x1⟩, a, ⟨rfl, a4, x3, x4⟩, xm_cut hm x5⟩
                · refine xm_run_go hm 80 ⟨(7, a), ⟨rfl, a4, q7⟩, ⟨fun _ => ⟨(8, a), ⟨rfl, a4, q7⟩, ⟨fun q => absurd (n8 (by omega)) q, fun _ => ⟨(9, a), ⟨rfl, a4, q7⟩, ⟨fun _ => ⟨fun _ => ⟨(10, a), ⟨rfl, a4, q7⟩, ⟨fun q => absurd (n10 (by omega)) q, fun _ => ⟨(15, a), ⟨rfl, a4, q7⟩, ⟨fun _ => ⟨(false, W, z + e.length), ⟨rfl, qW, qz, wz⟩, ?_⟩, fun q => absurd (n15 (by omega)) q⟩⟩⟩⟩, fun q => absurd q (by decide)⟩, fun q => absurd q (y9 c)⟩⟩⟩⟩, fun q => absurd (n7 n41) q⟩⟩
                  intro r g2 h2
                  obtain ⟨rfl, w, w6, x1, x2, x3, x4, x5⟩ := fin false (by rw [c]; rfl) r g2 h2
                  exact ⟨a, ⟨by omega, x2⟩, w, ⟨w6, x1⟩, a, ⟨rfl, a4, x3, x4⟩, xm_cut hm x5⟩
                · refine xm_run_go hm 80 ⟨(7, a), ⟨rfl, a4, q7⟩, ⟨fun _ => ⟨(8, a), ⟨rfl, a4, q7⟩, ⟨fun q => absurd (n8 (by omega)) q, fun _ => ⟨(9, a), ⟨rfl, a4, q7⟩, ⟨fun q => absurd (n9 (by omega)) q, fun _ => ⟨(10, a), ⟨rfl, a4, q7⟩, ⟨fun _ => ⟨fun _ => ⟨(10, a), ⟨rfl, a4, q7⟩, ⟨fun _ => ⟨(true, W, z + e.length), ⟨rfl, qW, qz, wz⟩, ?_⟩, fun q => absurd q (y10 c)⟩⟩, fun q => absurd q (by decide)⟩, fun q => absurd q (y10 c)⟩⟩⟩⟩⟩⟩, fun q => absurd (n7 n41) q⟩⟩
                  intro r g2 h2
                  obtain ⟨rfl, w, w6, x1, x2, x3, x4, x5⟩ := fin true (by rw [c]; rfl) r g2 h2
                  exact ⟨a, ⟨by omega, x2⟩, w, ⟨w6, x1⟩, a, ⟨rfl, a4, x3, x4⟩, xm_cut hm x5⟩
                · refine xm_run_go hm 80 ⟨(7, a), ⟨rfl, a4, q7⟩, ⟨fun _ => ⟨(8, a), ⟨rfl, a4, q7⟩, ⟨fun q => absurd (n8 (by omega)) q, fun _ => ⟨(9, a), ⟨rfl, a4, q7⟩, ⟨fun q => absurd (n9 (by omega)) q, fun _ => ⟨(10, a), ⟨rfl, a4, q7⟩, ⟨fun q => absurd (n10 (by omega)) q, fun _ => ⟨(15, a), ⟨rfl, a4, q7⟩, ⟨fun q => absurd q (y15 c), fun _ => ⟨fun _ => ⟨(10, a), ⟨rfl, a4, q7⟩, ⟨fun q => absurd (n10 (by omega)) q, fun _ => ⟨(15, a), ⟨rfl, a4, q7⟩, ⟨fun q => absurd q (y15 c), fun _ => ⟨(true, W, z + e.length), ⟨rfl, qW, qz, wz⟩, ?_⟩⟩⟩⟩⟩, fun q => absurd q (by decide)⟩⟩⟩⟩⟩⟩⟩⟩⟩, fun q => absurd (n7 n41) q⟩⟩
                  intro r g2 h2
                  obtain ⟨rfl, w, w6, x1, x2, x3, x4, x5⟩ := fin true (by rw [c]; rfl) r g2 h2
                  exact ⟨a, ⟨by omega, x2⟩, w, ⟨w6, x1⟩, a, ⟨rfl, a4, x3, x4⟩, xm_cut hm x5⟩
              · rw [if_neg c2] at hE
                have nop : k.1 a ≠ 43 ∧ k.1 a ≠ 45 ∧ k.1 a ≠ 42 ∧ k.1 a ≠ 47 := by
                  refine ⟨fun h => c2 ?_, fun h => c2 ?_, fun h => c2 ?_, fun h => c2 ?_⟩ <;> rw [h] <;> decide
                obtain ⟨o1, o2, o3, o4⟩ := nop
                have at77 : xm_go xs_M xk_X9_expression [xt_X9_is, xt_X9_fail, xt_X9_goesOn, xt_X9_unit, xt_X9_comesOut] xc_X9_expression Q (xm_drop 77 xc_X9_expression) [.ref 0, .int x1, .int x2] [] g1 := by
                  by_cases c4 : 0 < o
                  · rw [if_pos c4] at hE
                    have nle : ¬ g1.1 0 12 ≤ x1 := fun q => by have := op.mp q; omega
                    have fl1 := nFail_fl (f := 1) q8 (Or.inl rfl) a4 q7 t2
                    have fw : mWt W (nFail 1 a g1) := qW.k (nFail_j (by decide) (by decide)) (nFail_o (by decide))
                    have fz : (nFail 1 a g1).1 0 41 = nI (z + e.length) := by rw [nFail_j (by decide) (by decide)]; exact qz
                    have rel : ∀ (r : Option Value) (g2 : xG), (r = none ∧ mFs (nFail 1 a g1) g2 ∧ (∀ j, j ≠ 41 → j ≠ 45 → g2.1 0 j = (nFail 1 a g1).1 0 j) ∧ mWt (pRel 1 W).2 g2 ∧ g2.1 0 41 = nI (z + e.length + (pRel 1 W).1.length) ∧ mCz g2 (z + e.length) (pRel 1 W).1 ∧ ∀ j, (j < z + e.length ∨ z + e.length + W.length ≤ j) → g2.1 27 j = (nFail 1 a g1).1 27 j ∧ g2.1 28 j = (nFail 1 a g1).1 28 j) → Q none g2 := by
                      rintro r g2 ⟨-, f2, k2, w2, z2, cd2, lo2⟩
                      exact fin0 g2 1 _ ((f1.fl 1 a).tr f2) (fun j hj => by
                        have := lo2 j (by omega)
                        rw [nFail_o (by decide), nFail_o (by decide)] at this
                        exact ⟨this.1.trans (lo j hj).1, this.2.trans (lo j hj).2⟩) (mFl.k fl1 (k2 11 (by decide) (by decide)) (k2 13 (by decide) (by decide)) (k2 14 (by decide) (by decide))) ⟨_, by omega, z2⟩ (nfo g2) (fun _ => hE.symm)
                    refine xm_run_go hm 60 ⟨(8, a), ⟨rfl, a4, q7⟩, ⟨fun q => absurd (n8 o1) q, fun _ => ⟨(9, a), ⟨rfl, a4, q7⟩, ⟨fun q => absurd (n9 o2) q, fun _ => ⟨(10, a), ⟨rfl, a4, q7⟩, ⟨fun q => absurd (n10 o3) q, fun _ => ⟨(15, a), ⟨rfl, a4, q7⟩, ⟨fun _ => ⟨fun q => absurd rfl q, fun _ => ⟨fun q => absurd q nle, fun _ => ⟨(1, a), ⟨rfl, a4, q7, Or.inl q8⟩, (false, W, z + e.length), ⟨rfl, fw, fz, by show z + e.length + W.length ≤ 840; omega⟩, ?_⟩⟩⟩, fun q => absurd (n15 o4) q⟩⟩⟩⟩⟩⟩⟩⟩
                    intro r g2 h2
                    have x := rel r g2 h2
                    obtain ⟨rfl, -⟩ := h2
                    exact x
                  · rw [if_neg c4] at hE
                    have o0 : o = 0 := by omega
                    have rel : ∀ (r : Option Value) (g2 : xG), (r = none ∧ mFs g1 g2 ∧ (∀ j, j ≠ 41 → j ≠ 45 → g2.1 0 j = g1.1 0 j) ∧ mWt (pRel 1 W).2 g2 ∧ g2.1 0 41 = nI (z + e.length + (pRel 1 W).1.length) ∧ mCz g2 (z + e.length) (pRel 1 W).1 ∧ ∀ j, (j < z + e.length ∨ z + e.length + W.length ≤ j) → g2.1 27 j = g1.1 27 j ∧ g2.1 28 j = g1.1 28 j) → Q none g2 := by
                      rintro r g2 ⟨-, f2, k2, w2, z2, cd2, lo2⟩
                      refine hQ _ _ ⟨rfl, f1.tr f2, fun j hj => ⟨(lo2 j (by omega)).1.trans (lo j hj).1, (lo2 j (by omega)).2.trans (lo j hj).2⟩, ⟨_, by omega, z2⟩, nfo g2, fun h0 => ⟨fun f' p' h' => ?_, fun a' e' h' => ?_⟩⟩
                      · rw [← hE] at h'; cases h'
                      · rw [← hE] at h'; cases h'
                        exact ⟨by rw [k2 13 (by decide) (by decide)]; exact q8, by rw [k2 11 (by decide) (by decide)]; exact q7, by rw [k2 12 (by decide) (by decide), q6, o0]; rfl, by rw [z2, List.length_append, Nat.add_assoc], (qc.lo (g' := g2) (fun j hj => lo2 j (Or.inl hj))).app cd2⟩
                    have le : g1.1 0 12 ≤ x1 := op.mpr o0
                    refine xm_run_go hm 60 ⟨(8, a), ⟨rfl, a4, q7⟩, ⟨fun q => absurd (n8 o1) q, fun _ => ⟨(9, a), ⟨rfl, a4, q7⟩, ⟨fun q => absurd (n9 o2) q, fun _ => ⟨(10, a), ⟨rfl, a4, q7⟩, ⟨fun q => absurd (n10 o3) q, fun _ => ⟨(15, a), ⟨rfl, a4, q7⟩, ⟨fun _ => ⟨fun q => absurd rfl q, fun _ => ⟨fun _ => ⟨(false, W, z + e.length), ⟨rfl, qW, qz, by show z + e.length + W.length ≤ 840; omega⟩, ?_⟩, fun q => absurd le (Int32.not_le.mpr q)⟩⟩, fun q => absurd (n15 o4) q⟩⟩⟩⟩⟩⟩⟩⟩
                    intro r g2 h2
                    have x := rel r g2 h2
                    obtain ⟨rfl, -⟩ := h2
                    exact x
                by_cases c5 : k.1 a = 41
                · have le : g1.1 0 12 ≤ x1 := op.mpr (by omega)
                  exact xm_run_go hm 8 ⟨(7, a), ⟨rfl, a4, q7⟩, ⟨fun q => absurd q (y7 c5), fun _ => ⟨fun _ => at77, fun q => absurd le (Int32.not_le.mpr q)⟩⟩⟩
                · exact xm_run_go hm 4 ⟨(7, a), ⟨rfl, a4, q7⟩, ⟨fun _ => at77, fun q => absurd (n7 c5) q⟩⟩
      have g0 := (both (401 - a0)).1 a0 0 [] [] (by have := tk.1; omega) (Nat.le_refl _) rfl aN rfl (by omega) (by simp) (xm_sI g 0 45 0) (mFs.rf.p0 _ (by omega)) (fun j hj => by rw [xg_off _ _ _ (by decide), xg_off _ _ _ (by decide)]; exact ⟨rfl, rfl⟩) ⟨by rw [xg_in, if_neg (by decide)]; exact s8, by rw [xg_in, if_neg (by decide)]; exact s7, by rw [xg_in, if_neg (by decide)]; exact s12, ⟨by rw [xg_in, if_pos rfl]; rfl, by decide, (fun x hx => by cases hx), (fun i x hx => by cases hx)⟩, by rw [xg_in, if_neg (by decide)]; exact hz, (fun i q hq => by cases hq)⟩
      have e12 : (xm_sI g 0 45 0).1 0 12 = 0 := by rw [xg_in, if_neg (by decide)]; exact s12
      have e13 : (xm_sI g 0 45 0).1 0 13 = 0 := by rw [xg_in, if_neg (by decide)]; exact s8
      exact xm_run_go hm 20 (xm_cut hm (xm_run_go hm 20 ⟨fun q => absurd q (by decide), fun _ => ⟨fun q => absurd e13 q, fun _ => xm_cut hm (g0 _ e12)⟩⟩))
    · have n0 := fl.n0
      have fl2 : ∀ f p, mFl f p g → mFl f p (xm_sI g 0 45 0) := fun f p h => h.k (by rw [xg_in, if_neg (by decide)]) (by rw [xg_in, if_neg (by decide)]) (by rw [xg_in, if_neg (by decide)])
      have fin := fin0 (xm_sI g 0 45 0) f p (mFs.rf.p0 _ (by omega)) (fun j hj => by rw [xg_off _ _ _ (by decide), xg_off _ _ _ (by decide)]; exact ⟨rfl, rfl⟩) (fl2 f p fl) ⟨z, z8, by rw [xg_in, if_neg (by decide)]; exact hz⟩ fl2 (fun h => absurd h n0)
      have n1 : ¬ (xm_sI g 0 45 0).1 0 13 = 0 := by rw [xg_in, if_neg (by decide)]; exact n0
      exact xm_run_go hm 20 (xm_cut hm (xm_run_go hm 20 ⟨fun _ => fin, fun _ => ⟨fun _ => fin, fun q => absurd q n1⟩⟩))
