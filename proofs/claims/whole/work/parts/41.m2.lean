-- pictures, seats, joins
theorem vPk_sum (f : Nat → Int32) : ∀ n, (vPk f n).2.2 = vSum f n
  | 0 => rfl
  | n + 1 => by
    show (vPk f n).2.2 + f n = vSum f n + f n
    rw [vPk_sum f n]
theorem vSum_ext (f : Nat → Int32) {n : Nat} : ∀ d, (∀ k, n ≤ k → k < n + d → f k = 0) → vSum f (n + d) = vSum f n
  | 0, _ => rfl
  | d + 1, h => by
    show vSum f (n + d) + f (n + d) = _
    rw [h (n + d) (by omega) (by omega), Int32.add_zero, vSum_ext f d (fun k h1 h2 => h k h1 (by omega))]
theorem vTot_5 {t : vSt} {c : vSc} {p : Nat} (ht : vTok t) (h : vCok t c) (hp : p < 6) : vSum (fun s => cG c (p * 5 + s)) 5 = vTot t c p := by
  have n5 := ht.1
  have e := vSum_ext (fun s => cG c (p * 5 + s)) (n := tN t) (5 - tN t) (fun k h1 h2 => h.2.2.2.2 p k hp (by omega) h1)
  rw [show tN t + (5 - tN t) = 5 by omega] at e
  rw [e, vTot, vPk_sum]
def xt_X9_allGlow : xT := xm_fn (Z := Nat × Nat × vSt × vSc) (fun (p, lv, t, c) av g => av = [.ref 0, .int (nI p)] ∧ p < 6 ∧ mIn lv t c g) (fun (p, lv, t, c) _ => some (.int (vTot t c p))) (fun _ g => g)
set_option maxRecDepth 100000 in
set_option maxHeartbeats 400000 in
theorem xp_X9_allGlow {l : Launch} {D : va_G} {cA : Nat → ClassId} {B : List (Nat × Cell)} : xm_Met l D cA B xs_M 1 yX9_allGlow cX9_allGlow 4 (some .int) xt_X9_allGlow := by
  have hm : xm_monos [xt_X9_glowAt] := ⟨(by first | exact xm_fn_mono _ _ _ | exact xm_rl_mono _ _), trivial⟩
  refine xm_meth (own := RX9) (ks := xk_X9_allGlow) (C := xc_X9_allGlow) (Ts := [xt_X9_glowAt]) (by decide +kernel) rfl xm_clsok xs_M_ok xf_X9_ok xi_X9_ok xj_X9_ok (xm_lk xl_X9_327 xp_X9_glowAt (by decide) xm_lk0) xo_X9_allGlow ?_ ?_
  · rintro av g Q ⟨z, ⟨rfl, -⟩, -⟩
    exact Nat.le_of_ble_eq_true rfl
  · rintro av g Q ⟨⟨p, lv, t, c⟩, ⟨rfl, hp, h⟩, hQ⟩
    dsimp only at hp h hQ
    have loop : ∀ d s, s + d = 5 → ∀ v, v = vSum (fun s => cG c (p * 5 + s)) s → xm_go xs_M xk_X9_allGlow [xt_X9_glowAt] xc_X9_allGlow Q (xm_drop 4 xc_X9_allGlow) [.ref 0, .int (nI p), .int v, .int (nI s)] [] g := by
      intro d
      induction d with
      | zero =>
        intro s hs v hv
        have hs : s = 5 := by omega
        subst hs
        rw [vTot_5 h.1 h.2.1 hp] at hv
        exact xm_run_go hm 20 ⟨fun _ => xq_i hQ hv, fun z => absurd z (by decide)⟩
      | succ d ih =>
        intro s hs v hv
        have nx := ih (s + 1) (by omega)
        rw [nI_succ] at nx
        have s5 : s < 5 := by omega
        refine xm_run_go hm 20 ⟨fun z => absurd z (nI_ge (b := 5) (by omega) (by omega)), fun _ => ⟨(p, s), ⟨rfl, hp, s5⟩, xm_cut hm (nx _ ?_)⟩⟩
        rw [vSum, hv, h.2.2.2.1 (p * 5 + s) (by omega)]
    exact xm_run_go hm 20 (xm_cut hm (loop 5 0 rfl _ rfl))
def xt_X9_pictureOf : xT := xm_fn (Z := Nat × Nat × vSt × vSc) (fun (p, lv, t, c) av g => av = [.ref 0, .int (nI p)] ∧ p < 6 ∧ mIn lv t c g) (fun (p, lv, t, c) _ => some (.int (vPic t c p))) (fun _ g => g)
set_option maxRecDepth 100000 in
set_option maxHeartbeats 400000 in
theorem xp_X9_pictureOf {l : Launch} {D : va_G} {cA : Nat → ClassId} {B : List (Nat × Cell)} : xm_Met l D cA B xs_M 1 yX9_pictureOf cX9_pictureOf 5 (some .int) xt_X9_pictureOf := by
  have hm : xm_monos [xt_X9_glowAt] := ⟨(by first | exact xm_fn_mono _ _ _ | exact xm_rl_mono _ _), trivial⟩
  refine xm_meth (own := RX9) (ks := xk_X9_pictureOf) (C := xc_X9_pictureOf) (Ts := [xt_X9_glowAt]) (by decide +kernel) rfl xm_clsok xs_M_ok xf_X9_ok xi_X9_ok xj_X9_ok (xm_lk xl_X9_327 xp_X9_glowAt (by decide) xm_lk0) xo_X9_pictureOf ?_ ?_
  · rintro av g Q ⟨z, ⟨rfl, -⟩, -⟩
    exact Nat.le_of_ble_eq_true rfl
  · rintro av g Q ⟨⟨p, lv, t, c⟩, ⟨rfl, hp, h⟩, hQ⟩
    dsimp only at hp h hQ
    have n5 := h.n5
    have hl := h.lv
    have loop : ∀ d s, s + d = tN t → ∀ v2 v3, v2 = (vPk (fun s => cG c (p * 5 + s)) s).1 → v3 = (vPk (fun s => cG c (p * 5 + s)) s).2.1 → xm_go xs_M xk_X9_pictureOf [xt_X9_glowAt] xc_X9_pictureOf Q (xm_drop 6 xc_X9_pictureOf) [.ref 0, .int (nI p), .int v2, .int v3, .int (nI s)] [] g := by
      intro d
      induction d with
      | zero =>
        intro s hs v2 v3 e2 e3
        have hs : s = tN t := by omega
        subst hs
        refine xm_run_go hm 20 ⟨lv, ⟨hl, h.l⟩, ⟨fun _ => xq_i hQ e2, fun z => ?_⟩⟩
        rw [h.n] at z
        exact absurd z (nI_nlt (Nat.le_refl _) (by omega))
      | succ d ih =>
        intro s hs v2 v3 e2 e3
        have nx := ih (s + 1) (by omega)
        rw [nI_succ] at nx
        have s5 : s < 5 := by omega
        have e := h.2.2.2.1 (p * 5 + s) (by omega)
        refine xm_run_go hm 30 ⟨lv, ⟨hl, h.l⟩, ⟨fun z => ?_, fun _ => ⟨(p, s), ⟨rfl, hp, s5⟩, ⟨fun z => ⟨(p, s), ⟨rfl, hp, s5⟩, xm_cut hm (nx _ _ ?_ ?_)⟩, fun z => xm_cut hm (nx _ _ ?_ ?_)⟩⟩⟩⟩
        · rw [h.n] at z
          exact absurd z (nI_ge (by omega) (by omega))
        · rw [e, e3] at z
          simp only [vPk, if_pos z]
        · rw [e, e3] at z
          simp only [vPk, if_pos z]; exact e
        · rw [e, e3] at z
          simp only [vPk, if_neg (Int32.not_lt.mpr z)]; exact e2
        · rw [e, e3] at z
          simp only [vPk, if_neg (Int32.not_lt.mpr z)]; exact e3
    exact xm_run_go hm 20 (xm_cut hm (loop (tN t) 0 (by omega) _ _ rfl rfl))
def xt_X9_isFit : xT := xm_fn (Z := Int32 × Int32) (fun (x, y) av _ => av = [.int x, .int y] ∧ True) (fun (x, y) _ => some (.int (if 0 ≤ x ∧ x = y then 1 else 0))) (fun _ g => g)
set_option maxRecDepth 100000 in
set_option maxHeartbeats 400000 in
theorem xp_X9_isFit {l : Launch} {D : va_G} {cA : Nat → ClassId} {B : List (Nat × Cell)} : xm_Met l D cA B xs_M 0 yX9_isFit cX9_isFit 2 (some .boolean) xt_X9_isFit := by
  have hm : xm_monos [] := xm_m0
  refine xm_meth (own := RX9) (ks := xk_X9_isFit) (C := xc_X9_isFit) (Ts := []) (by decide +kernel) rfl xm_clsok xs_M_ok xf_X9_ok xi_X9_ok xj_X9_ok xm_lk0 xo_X9_isFit ?_ ?_
  · rintro av g Q ⟨z, ⟨rfl, -⟩, -⟩
    exact Nat.le_of_ble_eq_true rfl
  · rintro av g Q ⟨⟨x, y⟩, ⟨rfl, -⟩, hQ⟩
    dsimp only at hQ
    refine xm_run_go hm 20 ⟨fun z => ⟨Or.inl rfl, xq_i hQ ?_⟩, fun z => ⟨fun y => ⟨Or.inl rfl, xq_i hQ ?_⟩, fun y => ⟨Or.inr rfl, xq_i hQ ?_⟩⟩⟩
    · rw [if_neg (fun q => absurd q.1 (Int32.not_le.mpr z))]
    · rw [if_neg (fun q => y q.2)]
    · rw [if_pos ⟨z, y⟩]
def xt_X9_rightEdge : xT := xm_fn (Z := Int32 × Nat × vSt) (fun (x, lv, t) av g => av = [.ref 0, .int x] ∧ (x = -2 ∨ ∃ s, s < tN t ∧ x = nI s) ∧ vTok t ∧ mSto lv t g) (fun (x, lv, t) _ => some (.int (if x < 0 then -1 else tR t x.toNatClampNeg))) (fun _ g => g)
set_option maxRecDepth 100000 in
set_option maxHeartbeats 400000 in
theorem xp_X9_rightEdge {l : Launch} {D : va_G} {cA : Nat → ClassId} {B : List (Nat × Cell)} : xm_Met l D cA B xs_M 1 yX9_rightEdge cX9_rightEdge 2 (some .int) xt_X9_rightEdge := by
  have hm : xm_monos [xt_X9_rightAt] := ⟨(by first | exact xm_fn_mono _ _ _ | exact xm_rl_mono _ _), trivial⟩
  refine xm_meth (own := RX9) (ks := xk_X9_rightEdge) (C := xc_X9_rightEdge) (Ts := [xt_X9_rightAt]) (by decide +kernel) rfl xm_clsok xs_M_ok xf_X9_ok xi_X9_ok xj_X9_ok (xm_lk xl_X9_330 xp_X9_rightAt (by decide) xm_lk0) xo_X9_rightEdge ?_ ?_
  · rintro av g Q ⟨z, ⟨rfl, -⟩, -⟩
    exact Nat.le_of_ble_eq_true rfl
  · rintro av g Q ⟨⟨x, lv, t⟩, ⟨rfl, hx, ht, h⟩, hQ⟩
    dsimp only at hx ht h hQ
    have n5 := ht.1
    rcases hx with rfl | ⟨s, hs, rfl⟩
    · exact xm_run_go hm 20 ⟨fun z => absurd z (by decide), fun _ => xq_i hQ rfl⟩
    · refine xm_run_go hm 20 ⟨fun _ => ⟨(s, lv, t), ⟨rfl, hs, ht, h⟩, xq_i hQ ?_⟩, fun z => absurd z (nI_pos (by omega))⟩
      rw [if_neg (nI_pos (by omega)), nI_clamp (by omega)]
def xt_X9_leftEdge : xT := xm_fn (Z := Int32 × Nat × vSt) (fun (x, lv, t) av g => av = [.ref 0, .int x] ∧ (x = -2 ∨ ∃ s, s < tN t ∧ x = nI s) ∧ vTok t ∧ mSto lv t g) (fun (x, lv, t) _ => some (.int (if x < 0 then -3 else tL t x.toNatClampNeg))) (fun _ g => g)
set_option maxRecDepth 100000 in
set_option maxHeartbeats 400000 in
theorem xp_X9_leftEdge {l : Launch} {D : va_G} {cA : Nat → ClassId} {B : List (Nat × Cell)} : xm_Met l D cA B xs_M 1 yX9_leftEdge cX9_leftEdge 2 (some .int) xt_X9_leftEdge := by
  have hm : xm_monos [xt_X9_leftAt] := ⟨(by first | exact xm_fn_mono _ _ _ | exact xm_rl_mono _ _), trivial⟩
  refine xm_meth (own := RX9) (ks := xk_X9_leftEdge) (C := xc_X9_leftEdge) (Ts := [xt_X9_leftAt]) (by decide +kernel) rfl xm_clsok xs_M_ok xf_X9_ok xi_X9_ok xj_X9_ok (xm_lk xl_X9_333 xp_X9_leftAt (by decide) xm_lk0) xo_X9_leftEdge ?_ ?_
  · rintro av g Q ⟨z, ⟨rfl, -⟩, -⟩
    exact Nat.le_of_ble_eq_true rfl
  · rintro av g Q ⟨⟨x, lv, t⟩, ⟨rfl, hx, ht, h⟩, hQ⟩
    dsimp only at hx ht h hQ
    have n5 := ht.1
    rcases hx with rfl | ⟨s, hs, rfl⟩
    · exact xm_run_go hm 20 ⟨fun z => absurd z (by decide), fun _ => xq_i hQ rfl⟩
    · refine xm_run_go hm 20 ⟨fun _ => ⟨(s, lv, t), ⟨rfl, hs, ht, h⟩, xq_i hQ ?_⟩, fun z => absurd z (nI_pos (by omega))⟩
      rw [if_neg (nI_pos (by omega)), nI_clamp (by omega)]
theorem vJ2_fit {t : vSt} (ht : vTok t) {a b : Int32} (ha : a = -2 ∨ ∃ s, s < tN t ∧ a = nI s) (hb : b = -2 ∨ ∃ s, s < tN t ∧ b = nI s) : (if 0 ≤ (if a < 0 then (-1 : Int32) else tR t a.toNatClampNeg) ∧ (if a < 0 then (-1 : Int32) else tR t a.toNatClampNeg) = (if b < 0 then (-3 : Int32) else tL t b.toNatClampNeg) then (1 : Int32) else 0) = vB (vJ2 t a b) := by
  have n5 := ht.1
  by_cases z : vJ2 t a b
  · rw [vB_t z, if_neg (Int32.not_lt.mpr z.1), if_neg (Int32.not_lt.mpr z.2.1)]
    refine if_pos ⟨?_, z.2.2⟩
    rcases ha with rfl | ⟨s, hs, rfl⟩
    · exact absurd z.1 (by decide)
    · rw [nI_clamp (by omega)]; exact (ht.2.2 s hs).2
  · rw [vB_f z]
    refine if_neg fun y => z ?_
    rcases ha with rfl | ⟨s, hs, rfl⟩
    · rw [if_pos (show (-2 : Int32) < 0 by decide)] at y
      exact absurd y.1 (by decide)
    · rcases hb with rfl | ⟨s2, hs2, rfl⟩
      · rw [if_neg (nI_pos (by omega)), if_pos (by decide)] at y
        exact absurd (y.2 ▸ y.1) (by decide)
      · rw [if_neg (nI_pos (by omega)), if_neg (nI_pos (by omega))] at y
        exact ⟨nI_pos' (by omega), nI_pos' (by omega), y.2⟩
def xt_X9_doJoin : xT := xm_fn (Z := Nat × Nat × Nat × vSt × vSc) (fun (p, o, lv, t, c) av g => av = [.ref 0, .int (nI p), .int (nI o)] ∧ p < 6 ∧ o < 6 ∧ mIn lv t c g) (fun (p, o, lv, t, c) _ => some (.int (vB (vJ t c p o)))) (fun _ g => g)
set_option maxRecDepth 100000 in
set_option maxHeartbeats 400000 in
theorem xp_X9_doJoin {l : Launch} {D : va_G} {cA : Nat → ClassId} {B : List (Nat × Cell)} : xm_Met l D cA B xs_M 2 yX9_doJoin cX9_doJoin 3 (some .boolean) xt_X9_doJoin := by
  have hm : xm_monos [xt_X9_pictureOf, xt_X9_rightEdge, xt_X9_leftEdge, xt_X9_isFit] := ⟨(by first | exact xm_fn_mono _ _ _ | exact xm_rl_mono _ _), (by first | exact xm_fn_mono _ _ _ | exact xm_rl_mono _ _), (by first | exact xm_fn_mono _ _ _ | exact xm_rl_mono _ _), (by first | exact xm_fn_mono _ _ _ | exact xm_rl_mono _ _), trivial⟩
  refine xm_meth (own := RX9) (ks := xk_X9_doJoin) (C := xc_X9_doJoin) (Ts := [xt_X9_pictureOf, xt_X9_rightEdge, xt_X9_leftEdge, xt_X9_isFit]) (by decide +kernel) rfl xm_clsok xs_M_ok xf_X9_ok xi_X9_ok xj_X9_ok (xm_lk xl_X9_336 xp_X9_pictureOf (by decide) (xm_lk xl_X9_339 xp_X9_rightEdge (by decide) (xm_lk xl_X9_342 xp_X9_leftEdge (by decide) (xm_lk xl_X9_345 xp_X9_isFit (by decide) xm_lk0)))) xo_X9_doJoin ?_ ?_
  · rintro av g Q ⟨z, ⟨rfl, -⟩, -⟩
    exact Nat.le_of_ble_eq_true rfl
  · rintro av g Q ⟨⟨p, o, lv, t, c⟩, ⟨rfl, hp, ho, h⟩, hQ⟩
    dsimp only at hp ho h hQ
    have e := vJ2_fit h.1 (vPic_or h.1 c p) (vPic_or h.1 c o)
    refine xm_run_go hm 30 ⟨(p, lv, t, c), ⟨rfl, hp, h⟩, (vPic t c p, lv, t), ⟨rfl, vPic_or h.1 c p, h.1, h.2.2.1⟩, (o, lv, t, c), ⟨rfl, ho, h⟩, (vPic t c o, lv, t), ⟨rfl, vPic_or h.1 c o, h.1, h.2.2.1⟩, (_, _), ⟨rfl, trivial⟩, ?_, xq_i hQ e⟩
    have : ∀ x : Int32, x = vB (vJ t c p o) → x = 0 ∨ x = 1 := fun x hx => by rw [hx]; exact vB_01 _
    exact this _ e
def xt_X9_seatOf : xT := xm_fn (Z := Nat × Nat × vSt × vSc) (fun (p, lv, t, c) av g => av = [.ref 0, .int (nI p)] ∧ p < tM t ∧ mIn lv t c g) (fun (p, lv, t, c) _ => some (.int (nI (cS c p)))) (fun _ g => g)
set_option maxRecDepth 100000 in
set_option maxHeartbeats 400000 in
theorem xp_X9_seatOf {l : Launch} {D : va_G} {cA : Nat → ClassId} {B : List (Nat × Cell)} : xm_Met l D cA B xs_M 0 yX9_seatOf cX9_seatOf 3 (some .int) xt_X9_seatOf := by
  have hm : xm_monos [] := xm_m0
  refine xm_meth (own := RX9) (ks := xk_X9_seatOf) (C := xc_X9_seatOf) (Ts := []) (by decide +kernel) rfl xm_clsok xs_M_ok xf_X9_ok xi_X9_ok xj_X9_ok xm_lk0 xo_X9_seatOf ?_ ?_
  · rintro av g Q ⟨z, ⟨rfl, -⟩, -⟩
    exact Nat.le_of_ble_eq_true rfl
  · rintro av g Q ⟨⟨p, lv, t, c⟩, ⟨rfl, hp, h⟩, hQ⟩
    dsimp only at hp h hQ
    have m6 := h.m6
    obtain ⟨s1, s2⟩ := h.2.1.2.1 p hp
    have loop : ∀ d k, k + d = cS c p → xm_go xs_M xk_X9_seatOf [] xc_X9_seatOf Q (xm_drop 2 xc_X9_seatOf) [.ref 0, .int (nI p), .int (nI k)] [] g := by
      intro d
      induction d with
      | zero =>
        intro k hk
        have hk : k = cS c p := by omega
        subst hk
        refine xm_run_go hm 20 ⟨30 + cS c p, ⟨by omega, xn_30 _⟩, ⟨fun _ => hQ, fun z => ?_⟩⟩
        rw [h.2.2.2.2.1 _ (by omega), s2] at z
        exact absurd rfl z
      | succ d ih =>
        intro k hk
        have nx := ih (k + 1) (by omega)
        rw [nI_succ] at nx
        refine xm_run_go hm 20 ⟨30 + k, ⟨by omega, xn_30 _⟩, ⟨fun z => ?_, fun _ => xm_cut hm nx⟩⟩
        rw [h.2.2.2.2.1 _ (by omega)] at z
        obtain ⟨r1, r2⟩ := h.2.1.1 k (by omega)
        have := (nI_eq (by omega) (by omega)).mp z
        rw [this] at r2
        omega
    exact xm_run_go hm 20 (xm_cut hm (loop (cS c p) 0 (by omega)))
def xt_X9_isJoined : xT := xm_fn (Z := Int32 × Nat × vSt × vSc) (fun (x, lv, t, c) av g => av = [.ref 0, .int x] ∧ (x < 0 ∨ ∃ k, k < 6 ∧ x = nI k) ∧ mIn lv t c g) (fun (x, lv, t, c) _ => some (.int (vB (0 ≤ x ∧ vJk t c x.toNatClampNeg)))) (fun _ g => g)
set_option maxRecDepth 100000 in
set_option maxHeartbeats 400000 in
theorem xp_X9_isJoined {l : Launch} {D : va_G} {cA : Nat → ClassId} {B : List (Nat × Cell)} : xm_Met l D cA B xs_M 3 yX9_isJoined cX9_isJoined 2 (some .boolean) xt_X9_isJoined := by
  have hm : xm_monos [xt_X9_doJoin] := ⟨(by first | exact xm_fn_mono _ _ _ | exact xm_rl_mono _ _), trivial⟩
  refine xm_meth (own := RX9) (ks := xk_X9_isJoined) (C := xc_X9_isJoined) (Ts := [xt_X9_doJoin]) (by decide +kernel) rfl xm_clsok xs_M_ok xf_X9_ok xi_X9_ok xj_X9_ok (xm_lk xl_X9_349 xp_X9_doJoin (by decide) xm_lk0) xo_X9_isJoined ?_ ?_
  · rintro av g Q ⟨z, ⟨rfl, -⟩, -⟩
    exact Nat.le_of_ble_eq_true rfl
  · rintro av g Q ⟨⟨x, lv, t, c⟩, ⟨rfl, hx, h⟩, hQ⟩
    dsimp only at hx h hQ
    have m6 := h.m6
    have hl := h.lv
    rcases hx with hx | ⟨k, hk, rfl⟩
    · exact xm_run_go hm 20 ⟨fun _ => ⟨Or.inl rfl, xq_i hQ (by rw [vB_f (fun z => absurd z.1 (Int32.not_le.mpr hx))])⟩, fun z => absurd hx (Int32.not_lt.mpr z)⟩
    · rw [nI_clamp (by omega)] at hQ
      by_cases h1 : k + 1 < tM t
      · have r1 := h.2.2.2.2.1 k (by omega)
        have r2 := h.2.2.2.2.1 (k + 1) (by omega)
        have l1 := (h.2.1.1 k (by omega)).1
        have l2 := (h.2.1.1 (k + 1) (by omega)).1
        have ea : [Value.ref 0, .int (g.1 33 (30 + k)), .int (g.1 33 (30 + (k + 1)))] = [Value.ref 0, .int (nI (cR c k)), .int (nI (cR c (k + 1)))] := by rw [r1, r2]
        have a6 : cR c k < 6 := by omega
        have b6 : cR c (k + 1) < 6 := by omega
        refine xm_run_go hm 40 ⟨fun z => absurd z (nI_pos (by omega)), fun _ => ⟨lv, ⟨hl, h.l⟩, ⟨fun z => ?_, fun _ => ⟨30 + k, ⟨by omega, xn_30 _⟩, 30 + (k + 1), ⟨by omega, xn_31 _⟩, (cR c k, cR c (k + 1), lv, t, c), ⟨ea, a6, b6, h⟩, ⟨fun z => ⟨Or.inl rfl, xq_i hQ ?_⟩, fun z => ⟨Or.inr rfl, xq_i hQ ?_⟩⟩⟩⟩⟩⟩
        · rw [h.m, ← nI_succ] at z
          exact absurd z (nI_ge h1 (by omega))
        · rw [vB_f (fun y => by rw [vB_t y.2.2] at z; exact absurd z (by decide))]
        · rw [vB_t ⟨nI_pos' (by omega), h1, Classical.byContradiction (fun y => z (vB_f y))⟩]
      · refine xm_run_go hm 40 ⟨fun z => absurd z (nI_pos (by omega)), fun _ => ⟨lv, ⟨hl, h.l⟩, ⟨fun _ => ⟨Or.inl rfl, xq_i hQ (by rw [vB_f (fun z => h1 z.2.1)])⟩, fun z => ?_⟩⟩⟩
        rw [h.m, ← nI_succ] at z
        exact absurd z (nI_nlt (by omega) (by omega))
theorem vB_n {p q : Prop} (h : p ↔ q) : vB p = nI (vN q) := by rw [vB_nI, show p = q from propext h]
noncomputable def vJa (t : vSt) (c : vSc) (k : Nat) : Nat := vN (0 < k ∧ vJk t c (k - 1)) + vN (vJk t c k)
def xt_X9_joinsAt : xT := xm_fn (Z := Nat × Nat × vSt × vSc) (fun (k, lv, t, c) av g => av = [.ref 0, .int (nI k)] ∧ k < 6 ∧ mIn lv t c g) (fun (k, lv, t, c) _ => some (.int (nI (vJa t c k)))) (fun _ g => g)
set_option maxRecDepth 100000 in
set_option maxHeartbeats 400000 in
theorem xp_X9_joinsAt {l : Launch} {D : va_G} {cA : Nat → ClassId} {B : List (Nat × Cell)} : xm_Met l D cA B xs_M 4 yX9_joinsAt cX9_joinsAt 2 (some .int) xt_X9_joinsAt := by
  have hm : xm_monos [xt_X9_isJoined] := ⟨(by first | exact xm_fn_mono _ _ _ | exact xm_rl_mono _ _), trivial⟩
  refine xm_meth (own := RX9) (ks := xk_X9_joinsAt) (C := xc_X9_joinsAt) (Ts := [xt_X9_isJoined]) (by decide +kernel) rfl xm_clsok xs_M_ok xf_X9_ok xi_X9_ok xj_X9_ok (xm_lk xl_X9_352 xp_X9_isJoined (by decide) xm_lk0) xo_X9_joinsAt ?_ ?_
  · rintro av g Q ⟨z, ⟨rfl, -⟩, -⟩
    exact Nat.le_of_ble_eq_true rfl
  · rintro av g Q ⟨⟨k, lv, t, c⟩, ⟨rfl, hk, h⟩, hQ⟩
    dsimp only at hk h hQ
    have hx : nI k - 1 < 0 ∨ ∃ j, j < 6 ∧ nI k - 1 = nI j := by
      rcases Nat.eq_zero_or_pos k with q | q
      · left; rw [q]; decide
      · right; exact ⟨k - 1, by omega, xn_dec q⟩
    have e1 : (0 ≤ nI k - 1 ∧ vJk t c (nI k - 1).toNatClampNeg) ↔ (0 < k ∧ vJk t c (k - 1)) := by
      rcases Nat.eq_zero_or_pos k with q | q
      · rw [q]; exact ⟨fun z => absurd z.1 (by decide), fun z => absurd z.1 (by omega)⟩
      · rw [xn_dec q, nI_clamp (by omega)]
        exact ⟨fun z => ⟨q, z.2⟩, fun z => ⟨nI_pos' (by omega), z.2⟩⟩
    have e2 : (0 ≤ nI k ∧ vJk t c (nI k).toNatClampNeg) ↔ vJk t c k := by
      rw [nI_clamp (by omega)]
      exact ⟨fun z => z.2, fun z => ⟨nI_pos' (by omega), z⟩⟩
    have f1 := vB_n e1
    have f2 := vB_n e2
    refine xm_run_go hm 40 ⟨(nI k - 1, lv, t, c), ⟨rfl, hx, h⟩, ⟨fun z => ⟨(nI k, lv, t, c), ⟨rfl, Or.inr ⟨k, hk, rfl⟩, h⟩, ⟨fun y => xq_i hQ ?_, fun y => xq_i hQ ?_⟩⟩, fun z => ⟨(nI k, lv, t, c), ⟨rfl, Or.inr ⟨k, hk, rfl⟩, h⟩, ⟨fun y => xq_i hQ ?_, fun y => xq_i hQ ?_⟩⟩⟩⟩
    all_goals
      rw [vJa, ← nI_add, ← f1, ← f2]
      rcases vB_01 (0 ≤ nI k - 1 ∧ vJk t c (nI k - 1).toNatClampNeg) with a | a <;> rcases vB_01 (0 ≤ nI k ∧ vJk t c (nI k).toNatClampNeg) with b | b <;> first | (exact absurd a z) | (exact absurd b y) | (rw [a] at z; exact absurd z (by decide)) | (rw [b] at y; exact absurd y (by decide)) | (rw [a, b])
-- sums over people and over seats
theorem vSn_add (f f' : Nat → Nat) : ∀ n, vSn (fun k => f k + f' k) n = vSn f n + vSn f' n
  | 0 => rfl
  | n + 1 => by simp only [vSn]; rw [vSn_add f f' n]; omega
theorem vSn_cong {f f' : Nat → Nat} : ∀ {n : Nat}, (∀ k, k < n → f k = f' k) → vSn f n = vSn f' n
  | 0, _ => rfl
  | n + 1, h => by simp only [vSn]; rw [vSn_cong (fun k hk => h k (by omega)), h n (by omega)]
theorem vSn_zero {f : Nat → Nat} : ∀ {n : Nat}, (∀ k, k < n → f k = 0) → vSn f n = 0
  | 0, _ => rfl
  | n + 1, h => by simp only [vSn]; rw [vSn_zero (fun k hk => h k (by omega)), h n (by omega)]
theorem vSn_swap (a : Nat → Nat → Nat) (n : Nat) : ∀ m, vSn (fun i => vSn (fun j => a i j) n) m = vSn (fun j => vSn (fun i => a i j) m) n
  | 0 => (vSn_zero (fun _ _ => rfl)).symm
  | m + 1 => by
    show vSn (fun i => vSn (fun j => a i j) n) m + vSn (fun j => a m j) n = vSn (fun j => vSn (fun i => a i j) m + a m j) n
    rw [vSn_add, vSn_swap a n m]
theorem vSn_one (f : Nat → Nat) (i : Nat) : ∀ n, vSn (fun k => if i = k then f k else 0) n = if i < n then f i else 0
  | 0 => rfl
  | n + 1 => by
    show vSn (fun k => if i = k then f k else 0) n + (if i = n then f n else 0) = _
    rw [vSn_one f i n]
    by_cases h : i = n
    · subst h; simp
    · by_cases h2 : i < n
      · simp [h, h2, show i < n + 1 by omega]
      · simp [h, h2, show ¬ i < n + 1 by omega]
theorem vSn_perm {t : vSt} {c : vSc} (h : vCok t c) (f : Nat → Nat) : vSn (fun p => f (cS c p)) (tM t) = vSn f (tM t) := by
  have a : vSn (fun p => f (cS c p)) (tM t) = vSn (fun p => vSn (fun k => if cS c p = k then f k else 0) (tM t)) (tM t) := vSn_cong (fun p hp => by rw [vSn_one, if_pos (h.2.1 p hp).1])
  rw [a, vSn_swap]
  refine vSn_cong fun k hk => ?_
  have b : vSn (fun p => if cS c p = k then f k else 0) (tM t) = vSn (fun p => if cR c k = p then f k else 0) (tM t) := vSn_cong (fun p hp => by
    have e : cS c p = k ↔ cR c k = p := ⟨fun z => by rw [← z]; exact (h.2.1 p hp).2, fun z => by rw [← z]; exact (h.1 k hk).2⟩
    by_cases z : cS c p = k
    · rw [if_pos z, if_pos (e.mp z)]
    · rw [if_neg z, if_neg (fun y => z (e.mpr y))])
  rw [b, vSn_one (fun _ => f k), if_pos (h.1 k hk).1]
theorem vSum_nI (f : Nat → Nat) : ∀ n, vSum (fun k => nI (f k)) n = nI (vSn f n)
  | 0 => rfl
  | n + 1 => by
    show vSum (fun k => nI (f k)) n + nI (f n) = _
    rw [vSum_nI f n, nI_add]; rfl
theorem vSn_sh (f : Nat → Nat) : ∀ m, vSn (fun k => if 0 < k then f (k - 1) else 0) (m + 1) = vSn f m
  | 0 => rfl
  | m + 1 => by
    show vSn (fun k => if 0 < k then f (k - 1) else 0) (m + 1) + (if 0 < m + 1 then f (m + 1 - 1) else 0) = _
    rw [vSn_sh f m, if_pos (by omega)]; rfl
theorem vN_and {p q : Prop} [Decidable p] : vN (p ∧ q) = if p then vN q else 0 := by
  by_cases z : p
  · rw [if_pos z, show (p ∧ q) = q from propext ⟨fun y => y.2, fun y => ⟨z, y⟩⟩]
  · rw [if_neg z, vN_f (fun y => z y.1)]
theorem vN_le (p : Prop) : vN p ≤ 1 := by
  by_cases z : p
  · rw [vN_t z]; exact Nat.le_refl _
  · rw [vN_f z]; omega
theorem vSn_le {f : Nat → Nat} {b : Nat} (h : ∀ k, f k ≤ b) : ∀ n, vSn f n ≤ n * b
  | 0 => Nat.zero_le _
  | n + 1 => by
    have := vSn_le h n
    have := h n
    simp only [vSn, Nat.succ_mul]; omega
theorem vRowJoins_k {t : vSt} {c : vSc} (ht : vTok t) (h : vCok t c) : vRowJoins t c = nI (vSn (fun k => vN (vJk t c k)) (tM t)) := by
  have m6 := ht.2.1
  have e1 : vSn (fun p => vJoins t c p) (tM t) = vSn (vJa t c) (tM t) := vSn_perm h (vJa t c)
  have e2 : vSn (fun k => vN (0 < k ∧ vJk t c (k - 1))) (tM t) = vSn (fun k => vN (vJk t c k)) (tM t) := by
    rw [vSn_cong (f' := fun k => if 0 < k then vN (vJk t c (k - 1)) else 0) (fun k _ => vN_and)]
    rcases Nat.eq_zero_or_pos (tM t) with q | q
    · rw [q]; rfl
    · obtain ⟨m, hm⟩ : ∃ m, tM t = m + 1 := ⟨tM t - 1, by omega⟩
      rw [hm, vSn_sh (fun k => vN (vJk t c k)) m]
      show _ = vSn (fun k => vN (vJk t c k)) m + vN (vJk t c m)
      rw [vN_f (fun z => by have := z.1; omega)]; rfl
  have e3 : vSn (vJa t c) (tM t) = vSn (fun k => vN (vJk t c k)) (tM t) + vSn (fun k => vN (vJk t c k)) (tM t) := by
    have : vSn (vJa t c) (tM t) = vSn (fun k => vN (0 < k ∧ vJk t c (k - 1)) + vN (vJk t c k)) (tM t) := rfl
    rw [this, vSn_add, e2]
  have le := vSn_le (f := fun k => vN (vJk t c k)) (b := 1) (fun k => vN_le _) (tM t)
  unfold vRowJoins
  rw [vSum_nI, e1, e3]
  generalize vSn (fun k => vN (vJk t c k)) (tM t) = n at le
  have : n ≤ 6 := by omega
  have d : ∀ n, n ≤ 6 → nI (n + n) / 2 = nI n := by decide +kernel
  exact d n this
def xt_X9_rowJoins : xT := xm_fn (Z := Nat × vSt × vSc) (fun (lv, t, c) av g => av = [.ref 0] ∧ mIn lv t c g) (fun (lv, t, c) _ => some (.int (vRowJoins t c))) (fun _ g => g)
set_option maxRecDepth 100000 in
set_option maxHeartbeats 400000 in
theorem xp_X9_rowJoins {l : Launch} {D : va_G} {cA : Nat → ClassId} {B : List (Nat × Cell)} : xm_Met l D cA B xs_M 4 yX9_rowJoins cX9_rowJoins 3 (some .int) xt_X9_rowJoins := by
  have hm : xm_monos [xt_X9_isJoined] := ⟨(by first | exact xm_fn_mono _ _ _ | exact xm_rl_mono _ _), trivial⟩
  refine xm_meth (own := RX9) (ks := xk_X9_rowJoins) (C := xc_X9_rowJoins) (Ts := [xt_X9_isJoined]) (by decide +kernel) rfl xm_clsok xs_M_ok xf_X9_ok xi_X9_ok xj_X9_ok (xm_lk xl_X9_352 xp_X9_isJoined (by decide) xm_lk0) xo_X9_rowJoins ?_ ?_
  · rintro av g Q ⟨z, ⟨rfl, -⟩, -⟩
    exact Nat.le_of_ble_eq_true rfl
  · rintro av g Q ⟨⟨lv, t, c⟩, ⟨rfl, h⟩, hQ⟩
    dsimp only at h hQ
    have m6 := h.m6
    have hl := h.lv
    rw [vRowJoins_k h.1 h.2.1] at hQ
    have last : vSn (fun k => vN (vJk t c k)) (tM t) = vSn (fun k => vN (vJk t c k)) (tM t - 1) := by
      rcases Nat.eq_zero_or_pos (tM t) with q | q
      · rw [q]
      · obtain ⟨m, hm⟩ : ∃ m, tM t = m + 1 := ⟨tM t - 1, by omega⟩
        rw [hm]
        show vSn (fun k => vN (vJk t c k)) m + vN (vJk t c m) = _
        rw [vN_f (fun z => by have := z.1; omega)]; rfl
    rw [last] at hQ
    have loop : ∀ d k, k + d = tM t - 1 → ∀ v, v = nI (vSn (fun k => vN (vJk t c k)) k) → xm_go xs_M xk_X9_rowJoins [xt_X9_isJoined] xc_X9_rowJoins Q (xm_drop 4 xc_X9_rowJoins) [.ref 0, .int v, .int (nI k)] [] g := by
      intro d
      induction d with
      | zero =>
        intro k hk v hv
        have hk : k = tM t - 1 := by omega
        subst hk
        refine xm_run_go hm 20 ⟨lv, ⟨hl, h.l⟩, ⟨fun _ => xq_i hQ hv, fun z => ?_⟩⟩
        rw [h.m, ← nI_succ] at z
        exact absurd z (nI_nlt (by omega) (by omega))
      | succ d ih =>
        intro k hk v hv
        have nx := ih (k + 1) (by omega)
        rw [nI_succ] at nx
        have hk6 : k < 6 := by omega
        have e2 : (0 ≤ nI k ∧ vJk t c (nI k).toNatClampNeg) ↔ vJk t c k := by
          rw [nI_clamp (by omega)]
          exact ⟨fun z => z.2, fun z => ⟨nI_pos' (by omega), z⟩⟩
        refine xm_run_go hm 30 ⟨lv, ⟨hl, h.l⟩, ⟨fun z => ?_, fun _ => ⟨(nI k, lv, t, c), ⟨rfl, Or.inr ⟨k, hk6, rfl⟩, h⟩, ⟨fun z => xm_cut hm (nx _ ?_), fun z => xm_cut hm (nx _ ?_)⟩⟩⟩⟩
        · rw [h.m, ← nI_succ] at z
          exact absurd z (nI_ge (by omega) (by omega))
        · rw [vSn, vN_f (fun y => by rw [vB_t (e2.mpr y)] at z; exact absurd z (by decide)), hv]; rfl
        · rw [vSn, vN_t (e2.mp (Classical.byContradiction fun y => z (vB_f y))), hv, nI_succ]
    exact xm_run_go hm 20 (xm_cut hm (loop (tM t - 1) 0 (by omega) _ rfl))
