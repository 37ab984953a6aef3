-- THE CLASS'S OWN CALLS: the tape
theorem x8_id (x : Int32) : x.toInt8.toInt32.toInt8 = x.toInt8 := by simp
theorem vFb_s (w : Int32) (j : Nat) : (w >>> (nI (24 - 8 * j) &&& 31)).toInt8.toInt32.toInt8.toInt32 = vFb w j := by rw [x8_id]; rfl
theorem x8_ush (w : Int32) (s : Nat) (u v : Int32) (hu : u.toBitVec.toNat = s) (hv : v.toBitVec.toNat = s) (hs : s ≤ 24) : (w.toUInt32 >>> (u.toUInt32 &&& Int32.toUInt32 31)).toInt32.toInt8 = (w >>> (v &&& 31)).toInt8 := by
  apply Int8.toBitVec_inj.mp
  apply BitVec.eq_of_getLsbD_eq
  intro i hi
  have e31 : s % 32 = s := Nat.mod_eq_of_lt (by omega)
  have eu : (u.toBitVec &&& 31#32).toNat = s := by
    rw [BitVec.toNat_and, hu]
    show s &&& 31 = s
    rw [show 31 = 2 ^ 5 - 1 from rfl, Nat.and_two_pow_sub_one_eq_mod]; exact e31
  have ev : (v.toBitVec &&& 31#32).toNat = s := by
    rw [BitVec.toNat_and, hv]
    show s &&& 31 = s
    rw [show 31 = 2 ^ 5 - 1 from rfl, Nat.and_two_pow_sub_one_eq_mod]; exact e31
  have a : (w.toUInt32 >>> (u.toUInt32 &&& Int32.toUInt32 31)).toInt32.toInt8.toBitVec = (w.toBitVec >>> s).setWidth 8 := by
    show ((w.toUInt32 >>> (u.toUInt32 &&& Int32.toUInt32 31)).toBitVec).signExtend 8 = _
    rw [BitVec.signExtend_eq_setWidth_of_le _ (by decide)]
    rw [UInt32.toBitVec_shiftRight, UInt32.toBitVec_and]
    show (w.toBitVec >>> ((u.toBitVec &&& 31#32) % 32#32)).setWidth 8 = _
    rw [BitVec.ushiftRight_eq', BitVec.toNat_umod, eu]
    show (w.toBitVec >>> (s % 32)).setWidth 8 = _
    rw [e31]
  have b : (w >>> (v &&& 31)).toInt8.toBitVec = (w.toBitVec.sshiftRight s).setWidth 8 := by
    show ((w >>> (v &&& 31)).toBitVec).signExtend 8 = _
    rw [BitVec.signExtend_eq_setWidth_of_le _ (by decide)]
    rw [Int32.toBitVec_shiftRight, Int32.toBitVec_and]
    show (w.toBitVec.sshiftRight' ((v.toBitVec &&& 31#32).smod 32#32)).setWidth 8 = _
    rw [BitVec.sshiftRight_eq', BitVec.toNat_smod, show (v.toBitVec &&& 31#32).msb = false by rw [BitVec.msb_eq_false_iff_two_mul_lt, ev]; omega]
    simp [ev, e31, show (32#32).msb = false by decide]
  rw [a, b, BitVec.getLsbD_setWidth, BitVec.getLsbD_setWidth, BitVec.getLsbD_ushiftRight, BitVec.getLsbD_sshiftRight]
  have : s + i < 32 := by omega
  simp [hi, this, show i < 32 by omega]
theorem vFb_u (w : Int32) {j : Nat} (hj : j < 4) : (w.toUInt32 >>> ((nI (24 - 8 * j)).toUInt32 &&& Int32.toUInt32 31)).toInt32.toInt8.toInt32.toInt8.toInt32 = vFb w j := by
  rw [x8_id, x8_ush w (24 - 8 * j) (nI (24 - 8 * j)) (nI (24 - 8 * j)) ?_ ?_ (by omega)]
  · rfl
  all_goals
    show (BitVec.ofNat 32 (24 - 8 * j)).toNat = _
    rw [BitVec.toNat_ofNat]; exact Nat.mod_eq_of_lt (by omega)
def xt_X6_append : xT := xm_rl (Z := Nat × (Nat → Int32) × Int32) (fun (n, tb, w) av g => av = [.ref 1, .int w] ∧ n + 4 ≤ 2000 ∧ xTape n tb g) (fun (n, tb, w) g o g' => o = none ∧ xTape (n + 4) (vApp (n, tb) w).2 g' ∧ xFr 1 2 g g')
set_option maxRecDepth 100000 in
set_option maxHeartbeats 400000 in
theorem xp_X6_append {l : Launch} {D : va_G} {cA : Nat → ClassId} {B : List (Nat × Cell)} : xm_Met l D cA B xs_X 0 yX6_append cX6_append 3 none xt_X6_append := by
  have hm : xm_monos [] := xm_m0
  refine xm_meth (own := RX6) (ks := xk_X6_append) (C := xc_X6_append) (Ts := []) (by decide +kernel) rfl xm_clsok xs_X_ok xf_X6_ok xi_X6_ok xj_X6_ok xm_lk0 xo_X6_append ?_ ?_
  · rintro av g Q ⟨z, ⟨rfl, -⟩, -⟩
    exact Nat.le_of_ble_eq_true rfl
  · rintro av g Q ⟨⟨n, tb, w⟩, ⟨rfl, hn, h⟩, hQ⟩
    dsimp only at hn h hQ
    have loop : ∀ d j, j + d = 4 → ∀ v, v = (if j = 4 then -8 else nI (24 - 8 * j)) → ∀ g1, xFr 1 2 g g1 → xTape (n + j) (vApp (n, tb) w).2 g1 → xm_go xs_X xk_X6_append [] xc_X6_append Q (xm_drop 2 xc_X6_append) [.ref 1, .int w, .int v] [] g1 := by
      intro d
      induction d with
      | zero =>
        intro j hj v hv g1 hf ht
        have hj : j = 4 := by omega
        subst hj
        rw [if_pos rfl] at hv
        subst hv
        exact xm_run_go hm 10 ⟨fun _ => hQ _ _ ⟨rfl, ht, hf⟩, fun z => absurd z (by decide)⟩
      | succ d ih =>
        intro j hj v hv g1 hf ht
        have hj4 : j < 4 := by omega
        rw [if_neg (by omega)] at hv
        have hv8 : v + -8 = if j + 1 = 4 then -8 else nI (24 - 8 * (j + 1)) := by
          rw [hv]
          have : j = 0 ∨ j = 1 ∨ j = 2 ∨ j = 3 := by omega
          rcases this with rfl | rfl | rfl | rfl <;> decide
        have hl : ¬ v < 0 := by rw [hv]; exact nI_pos (by omega)
        have nj : n + j < 2000 := by omega
        have st : ((w.toUInt32 >>> (v.toUInt32 &&& Int32.toUInt32 31)).toInt32.toInt8.toInt32).toInt8.toInt32 = (vApp (n, tb) w).2 (n + j) := by
          rw [hv, vFb_u w hj4]
          show _ = if n + j < n then tb (n + j) else vFb w (n + j - n)
          rw [if_neg (by omega), Nat.add_sub_cancel_left]
        have nx := ih (j + 1) (by omega) (v + -8) hv8 (xm_sI (xm_sI g1 2 (n + j) ((w.toUInt32 >>> (v.toUInt32 &&& Int32.toUInt32 31)).toInt32.toInt8.toInt32).toInt8.toInt32) 1 1 ((xm_sI g1 2 (n + j) ((w.toUInt32 >>> (v.toUInt32 &&& Int32.toUInt32 31)).toInt32.toInt8.toInt32).toInt8.toInt32).1 1 1 + 1)) ((hf.put _ _ (by omega) (by omega)).put _ _ (by omega) (by omega)) (by
          refine ⟨?_, fun i hi => ?_⟩
          · rw [xg_in, if_pos rfl, xg_off _ _ _ (by decide), ht.1, nI_1]; rfl
          · rw [xg_off _ _ _ (by decide), xg_in]
            by_cases z : i = n + j
            · rw [if_pos z, z]; exact st
            · rw [if_neg z]; exact ht.2 i (by omega))
        refine xm_run_go hm 40 ⟨fun z => absurd z hl, fun _ => ⟨fun z => ?_, fun _ => ⟨n + j, ⟨nj, ht.1⟩, xm_cut hm nx⟩⟩⟩
        rw [ht.1] at z
        exact absurd z (nI_ge (b := 2000) nj (by decide))
    refine xm_run_go hm 10 (xm_cut hm (loop 4 0 rfl _ ?_ g xFr.rf ⟨h.1, fun i hi => ?_⟩))
    · decide
    · show _ = if i < n then tb i else vFb w (i - n)
      rw [if_pos (show i < n from hi)]; exact h.2 i hi
theorem xTop.tape {σ : vS} {g g' : xG} (h : xTop σ g) (hf : xFr 1 2 g g') {n : Nat} {tb : Nat → Int32} (hn : n ≤ 2000) (ht : xTape n tb g') : xTop (uT σ n tb) g' :=
  ⟨⟨h.1.1, h.1.2.1, hn, h.1.2.2.2⟩, ⟨Or.inl rfl, h.i.2.1, h.i.2.2.1.fr (fun k h1 h2 => hf.2 k (by omega)), h.i.2.2.2.fr hf.1 (fun k h1 h2 => hf.2 k (by omega))⟩, ht, by rw [hf.2 0 (by omega)]; exact h.2.2.2.1, h.2.2.2.2.1.fr (hf.2 47 (by omega)) (hf.2 48 (by omega)), h.2.2.2.2.2.fr (fun k hk => hf.2 k (by omega))⟩
def xt_X8_feed : xT := xm_rl (Z := vS × Int32 × Int32 × Int32 × Int32 × Int32) (fun (σ, a, b, c, d, e) av g => av = [.ref 0, .int a, .int b, .int c, .int d, .int e] ∧ xTop σ g) (fun (σ, a, b, c, d, e) g o g' => o = some (.int (aFeed σ)) ∧ xTop (sFeed σ a b c d e) g')
set_option maxRecDepth 100000 in
set_option maxHeartbeats 400000 in
theorem xp_X8_feed {l : Launch} {D : va_G} {cA : Nat → ClassId} {B : List (Nat × Cell)} : xm_Met l D cA B xs_X 1 yX8_feed cX8_feed 6 (some .int) xt_X8_feed := by
  have hm : xm_monos [xt_X6_append] := ⟨(by first | exact xm_fn_mono _ _ _ | exact xm_rl_mono _ _), trivial⟩
  refine xm_meth (own := RX8) (ks := xk_X8_feed) (C := xc_X8_feed) (Ts := [xt_X6_append]) (by decide +kernel) rfl xm_clsok xs_X_ok xf_X8_ok xi_X8_ok xj_X8_ok (xm_lk xl_X8_78 xp_X6_append (by decide) xm_lk0) xo_X8_feed ?_ ?_
  · rintro av g Q ⟨z, ⟨rfl, -⟩, -⟩
    exact Nat.le_of_ble_eq_true rfl
  · rintro av g Q ⟨⟨σ, a, b, c, d, e⟩, ⟨rfl, h⟩, hQ⟩
    dsimp only at h hQ
    have ht := h.2.2.1
    have hn := h.1.2.2.1
    by_cases hr : sN σ + 20 ≤ 2000
    · refine xm_run_go hm 60 ⟨fun _ => ⟨(sN σ, sB σ, a), ⟨rfl, by show sN σ + 4 ≤ 2000; omega, ht⟩, ?_⟩, fun z => ?_⟩
      · rintro o g1 ⟨rfl, t1, f1⟩
        refine ⟨(sN σ + 4, (vApp (sN σ, sB σ) a).2, b), ⟨rfl, by show sN σ + 4 + 4 ≤ 2000; omega, t1⟩, ?_⟩
        rintro o g2 ⟨rfl, t2, f2⟩
        refine ⟨(sN σ + 8, (vApp (vApp (sN σ, sB σ) a) b).2, c), ⟨rfl, by show sN σ + 8 + 4 ≤ 2000; omega, t2⟩, ?_⟩
        rintro o g3 ⟨rfl, t3, f3⟩
        refine ⟨(sN σ + 12, (vApp (vApp (vApp (sN σ, sB σ) a) b) c).2, d), ⟨rfl, by show sN σ + 12 + 4 ≤ 2000; omega, t3⟩, ?_⟩
        rintro o g4 ⟨rfl, t4, f4⟩
        refine ⟨(sN σ + 16, (vApp (vApp (vApp (vApp (sN σ, sB σ) a) b) c) d).2, e), ⟨rfl, by show sN σ + 16 + 4 ≤ 2000; omega, t4⟩, ?_⟩
        rintro o g5 ⟨rfl, t5, f5⟩
        refine hQ _ _ ⟨?_, ?_⟩
        · rw [aFeed, if_pos hr, t5.1]
        · rw [sFeed, if_pos hr]
          exact h.tape (((f1.tr f2).tr f3).tr (f4.tr f5)) hr t5
      · rw [ht.1, show (20 : Int32) = nI 20 from rfl, nI_add] at z
        exact absurd z (nI_nlt (b := sN σ + 20) (a := 2000) hr (by decide))
    · have fin := hQ (some (.int (-1))) g ⟨by rw [aFeed, if_neg hr], by rw [sFeed, if_neg hr]; exact h⟩
      refine xm_run_go hm 60 ⟨fun z => ?_, fun _ => fin⟩
      rw [ht.1, show (20 : Int32) = nI 20 from rfl, nI_add] at z
      exact absurd z (nI_ge (a := 2000) (by omega) (by omega))
def xt_X8_back : xT := xm_rl (Z := vS × Int32) (fun (σ, x) av g => av = [.ref 0, .int x] ∧ xTop σ g) (fun (σ, x) g o g' => o = some (.int (aBack σ x)) ∧ xTop (sBack σ x) g')
set_option maxRecDepth 100000 in
set_option maxHeartbeats 400000 in
theorem xp_X8_back {l : Launch} {D : va_G} {cA : Nat → ClassId} {B : List (Nat × Cell)} : xm_Met l D cA B xs_X 0 yX8_back cX8_back 2 (some .int) xt_X8_back := by
  have hm : xm_monos [] := xm_m0
  refine xm_meth (own := RX8) (ks := xk_X8_back) (C := xc_X8_back) (Ts := []) (by decide +kernel) rfl xm_clsok xs_X_ok xf_X8_ok xi_X8_ok xj_X8_ok xm_lk0 xo_X8_back ?_ ?_
  · rintro av g Q ⟨z, ⟨rfl, -⟩, -⟩
    exact Nat.le_of_ble_eq_true rfl
  · rintro av g Q ⟨⟨σ, x⟩, ⟨rfl, h⟩, hQ⟩
    dsimp only at h hQ
    have ht := h.2.2.1
    have hn := h.1.2.2.1
    rcases vDo_or (m := sN σ + 1) x (by omega) with hx | ⟨k, hk, rfl⟩
    · have fin := hQ (some (.int (-1))) g ⟨by rw [aBack, vDo_n hx], by rw [sBack, vDo_n hx]; exact h⟩
      refine xm_run_go hm 60 ⟨fun _ => fin, fun z => ⟨fun y => ?_, fun _ => fin⟩⟩
      rw [ht.1] at y
      exact absurd ((vR_is x (by omega)).mp ⟨z, y⟩) hx
    · have hs : nI (sN σ) - nI k = nI (sN σ - k) := by
        have : sN σ = (sN σ - k) + k := by omega
        rw [this, ← nI_add, Int32.add_sub_cancel, Nat.add_sub_cancel]
      refine xm_run_go hm 60 ⟨fun z => absurd z (nI_pos (by omega)), fun _ => ⟨fun _ => hQ _ _ ⟨?_, ?_⟩, fun z => ?_⟩⟩
      · rw [aBack, vDo_y hk (by omega), xg_in, if_pos rfl, ht.1, hs]
      · rw [sBack, vDo_y hk (by omega)]
        refine h.tape (xFr.rf.put _ _ (by omega) (by omega)) (by omega) ⟨?_, fun i hi => ?_⟩
        · rw [xg_in, if_pos rfl, ht.1, hs]
        · rw [xg_off _ _ _ (by decide)]; exact ht.2 i (by omega)
      · rw [ht.1] at z
        exact absurd z (nI_nlt (by omega) (by omega))
def xt_X8_place : xT := xm_rl (Z := vS) (fun σ av g => av = [.ref 0] ∧ xTop σ g) (fun σ g o g' => o = some (.int (sP σ)) ∧ xTop σ g')
set_option maxRecDepth 100000 in
set_option maxHeartbeats 400000 in
theorem xp_X8_place {l : Launch} {D : va_G} {cA : Nat → ClassId} {B : List (Nat × Cell)} : xm_Met l D cA B xs_X 0 yX8_place cX8_place 1 (some .int) xt_X8_place := by
  have hm : xm_monos [] := xm_m0
  refine xm_meth (own := RX8) (ks := xk_X8_place) (C := xc_X8_place) (Ts := []) (by decide +kernel) rfl xm_clsok xs_X_ok xf_X8_ok xi_X8_ok xj_X8_ok xm_lk0 xo_X8_place ?_ ?_
  · rintro av g Q ⟨z, ⟨rfl, -⟩, -⟩
    exact Nat.le_of_ble_eq_true rfl
  · rintro av g Q ⟨σ, ⟨rfl, h⟩, hQ⟩
    exact xm_run_go hm 10 (hQ _ _ ⟨by rw [h.2.2.2.1], h⟩)
