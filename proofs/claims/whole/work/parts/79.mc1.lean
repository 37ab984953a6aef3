-- THE REFERENCE READS: its tokens
def mTx (n : Nat) (tb : Nat → Int32) (g : xG) : Prop := g.1 0 4 = nI n ∧ ∀ i, i < n → g.1 2 i = tb i
def xt_X9_byteAt : xT := xm_fn (Z := Nat × (Nat → Int32) × Nat) (fun (n, tb, i) av g => av = [.ref 0, .int (nI i)] ∧ n ≤ 2000 ∧ i ≤ 4001 ∧ mTx n tb g) (fun (n, tb, i) _ => some (.int (nI (pC n tb i)))) (fun _ g => g)
set_option maxRecDepth 100000 in
set_option maxHeartbeats 400000 in
theorem xp_X9_byteAt {l : Launch} {D : va_G} {cA : Nat → ClassId} {B : List (Nat × Cell)} : xm_Met l D cA B xs_M 0 yX9_byteAt cX9_byteAt 2 (some .int) xt_X9_byteAt := by
  have hm : xm_monos [] := xm_m0
  refine xm_meth (own := RX9) (ks := xk_X9_byteAt) (C := xc_X9_byteAt) (Ts := []) (by decide +kernel) rfl xm_clsok xs_M_ok xf_X9_ok xi_X9_ok xj_X9_ok xm_lk0 xo_X9_byteAt ?_ ?_
  · rintro av g Q ⟨z, ⟨rfl, -⟩, -⟩
    exact Nat.le_of_ble_eq_true rfl
  · rintro av g Q ⟨⟨n, tb, i⟩, ⟨rfl, hn, hi, ht⟩, hQ⟩
    dsimp only at hn hi ht hQ
    refine xm_run_go hm 20 ⟨fun z => xq_i hQ ?_, fun z => ⟨i, ⟨?_, rfl⟩, xq_i hQ ?_⟩⟩
    · rw [ht.1] at z
      have := (nI_leI (by omega) (by omega)).mp z
      rw [pC_0 this]; rfl
    · rw [ht.1] at z
      have := (nI_ltI (by omega) (by omega)).mp z
      omega
    · rw [ht.1] at z
      have := (nI_ltI (by omega) (by omega)).mp z
      rw [ht.2 i this]; exact pC_e this
def xt_X9_isLetter : xT := xm_fn (Z := Nat) (fun v av _ => av = [.int (nI v)] ∧ v < 256) (fun v _ => some (.int (bI (pAl v)))) (fun _ g => g)
set_option maxRecDepth 100000 in
set_option maxHeartbeats 400000 in
theorem xp_X9_isLetter {l : Launch} {D : va_G} {cA : Nat → ClassId} {B : List (Nat × Cell)} : xm_Met l D cA B xs_M 0 yX9_isLetter cX9_isLetter 1 (some .boolean) xt_X9_isLetter := by
  have hm : xm_monos [] := xm_m0
  refine xm_meth (own := RX9) (ks := xk_X9_isLetter) (C := xc_X9_isLetter) (Ts := []) (by decide +kernel) rfl xm_clsok xs_M_ok xf_X9_ok xi_X9_ok xj_X9_ok xm_lk0 xo_X9_isLetter ?_ ?_
  · rintro av g Q ⟨z, ⟨rfl, -⟩, -⟩
    exact Nat.le_of_ble_eq_true rfl
  · rintro av g Q ⟨v, ⟨rfl, hv⟩, hQ⟩
    dsimp only at hv hQ
    obtain ⟨h1, h2⟩ := pAl_n v hv
    cases hp : pAl v with
    | true =>
      rw [hp] at hQ
      obtain ⟨n1, n2⟩ := h1 hp
      exact xm_run_go hm 20 ⟨fun z => absurd z n1, fun _ => ⟨fun z => absurd z n2, fun _ => ⟨Or.inr rfl, hQ⟩⟩⟩
    | false =>
      rw [hp] at hQ
      exact xm_run_go hm 20 ⟨fun _ => ⟨Or.inl rfl, hQ⟩, fun z => ⟨fun _ => ⟨Or.inl rfl, hQ⟩, fun z2 => ((h2 hp).elim (fun q => absurd q (Int32.not_lt.mpr z)) (fun q => absurd q (Int32.not_lt.mpr z2)))⟩⟩
def xt_X9_isDigit : xT := xm_fn (Z := Nat) (fun v av _ => av = [.int (nI v)] ∧ v < 256) (fun v _ => some (.int (bI (pDi v)))) (fun _ g => g)
set_option maxRecDepth 100000 in
set_option maxHeartbeats 400000 in
theorem xp_X9_isDigit {l : Launch} {D : va_G} {cA : Nat → ClassId} {B : List (Nat × Cell)} : xm_Met l D cA B xs_M 0 yX9_isDigit cX9_isDigit 1 (some .boolean) xt_X9_isDigit := by
  have hm : xm_monos [] := xm_m0
  refine xm_meth (own := RX9) (ks := xk_X9_isDigit) (C := xc_X9_isDigit) (Ts := []) (by decide +kernel) rfl xm_clsok xs_M_ok xf_X9_ok xi_X9_ok xj_X9_ok xm_lk0 xo_X9_isDigit ?_ ?_
  · rintro av g Q ⟨z, ⟨rfl, -⟩, -⟩
    exact Nat.le_of_ble_eq_true rfl
  · rintro av g Q ⟨v, ⟨rfl, hv⟩, hQ⟩
    dsimp only at hv hQ
    obtain ⟨h1, h2⟩ := pDi_n v hv
    cases hp : pDi v with
    | true =>
      rw [hp] at hQ
      obtain ⟨n1, n2⟩ := h1 hp
      exact xm_run_go hm 20 ⟨fun z => absurd z n1, fun _ => ⟨fun z => absurd z n2, fun _ => ⟨Or.inr rfl, hQ⟩⟩⟩
    | false =>
      rw [hp] at hQ
      exact xm_run_go hm 20 ⟨fun _ => ⟨Or.inl rfl, hQ⟩, fun z => ⟨fun _ => ⟨Or.inl rfl, hQ⟩, fun z2 => ((h2 hp).elim (fun q => absurd q (Int32.not_lt.mpr z)) (fun q => absurd q (Int32.not_lt.mpr z2)))⟩⟩
theorem xl_ap : ∀ v, v < 123 → 97 ≤ v → (nI v - 97 + 1).toInt64 = lN (v - 96) := by decide +kernel
def nAp (x : Int64) (v : Nat) : Int64 := if v = 0 then x else x * 27 + lN (v - 96)
def xt_X9_appends : xT := xm_fn (Z := Int64 × Nat) (fun (x, v) av _ => av = [.long x, .int (nI v)] ∧ (v = 0 ∨ (97 ≤ v ∧ v ≤ 122))) (fun (x, v) _ => some (.long (nAp x v))) (fun _ g => g)
set_option maxRecDepth 100000 in
set_option maxHeartbeats 400000 in
theorem xp_X9_appends {l : Launch} {D : va_G} {cA : Nat → ClassId} {B : List (Nat × Cell)} : xm_Met l D cA B xs_M 0 yX9_appends cX9_appends 3 (some .long) xt_X9_appends := by
  have hm : xm_monos [] := xm_m0
  refine xm_meth (own := RX9) (ks := xk_X9_appends) (C := xc_X9_appends) (Ts := []) (by decide +kernel) rfl xm_clsok xs_M_ok xf_X9_ok xi_X9_ok xj_X9_ok xm_lk0 xo_X9_appends ?_ ?_
  · rintro av g Q ⟨z, ⟨rfl, -⟩, -⟩
    exact Nat.le_of_ble_eq_true rfl
  · rintro av g Q ⟨⟨x, v⟩, ⟨rfl, hv⟩, hQ⟩
    dsimp only at hv hQ
    unfold nAp at hQ
    rcases hv with hv | hv
    · subst hv
      exact xm_run_go hm 20 ⟨fun z => absurd rfl z, fun _ => hQ⟩
    · rw [if_neg (by omega), ← xl_ap v (by omega) hv.1, Int64.mul_comm] at hQ
      exact xm_run_go hm 20 ⟨fun _ => hQ, fun z => absurd (nI_inj (b := 0) (by omega) (by omega) z) (by omega)⟩
def nTo (kd wh v : Int32) (nm : Int64) (j : Nat) (g : xG) : xG := xm_sI (xm_sL (xm_sI (xm_sI (xm_sI g 3 j kd) 4 j wh) 5 j v) 6 j nm) 0 10 (nI (j + 1))
def xt_X9_token : xT := xm_fn (Z := Int32 × Int32 × Int32 × Int64 × Nat) (fun (kd, wh, v, nm, j) av g => av = [.ref 0, .int kd, .int wh, .int v, .long nm] ∧ j < 403 ∧ g.1 0 10 = nI j) (fun _ _ => none) (fun (kd, wh, v, nm, j) g => nTo kd wh v nm j g)
set_option maxRecDepth 100000 in
set_option maxHeartbeats 400000 in
theorem xp_X9_token {l : Launch} {D : va_G} {cA : Nat → ClassId} {B : List (Nat × Cell)} : xm_Met l D cA B xs_M 0 yX9_token cX9_token 6 none xt_X9_token := by
  have hm : xm_monos [] := xm_m0
  refine xm_meth (own := RX9) (ks := xk_X9_token) (C := xc_X9_token) (Ts := []) (by decide +kernel) rfl xm_clsok xs_M_ok xf_X9_ok xi_X9_ok xj_X9_ok xm_lk0 xo_X9_token ?_ ?_
  · rintro av g Q ⟨z, ⟨rfl, -⟩, -⟩
    exact Nat.le_of_ble_eq_true rfl
  · rintro av g Q ⟨⟨kd, wh, v, nm, j⟩, ⟨rfl, hj, h⟩, hQ⟩
    dsimp only at hj h hQ
    unfold nTo at hQ
    have h1 : (xm_sI g 3 j kd).1 0 10 = nI j := by rw [xg_off _ _ _ (by decide)]; exact h
    have h2 : (xm_sI (xm_sI g 3 j kd) 4 j wh).1 0 10 = nI j := by rw [xg_off _ _ _ (by decide)]; exact h1
    have h3 : (xm_sI (xm_sI (xm_sI g 3 j kd) 4 j wh) 5 j v).1 0 10 = nI j := by rw [xg_off _ _ _ (by decide)]; exact h2
    have h4 : (xm_sL (xm_sI (xm_sI (xm_sI g 3 j kd) 4 j wh) 5 j v) 6 j nm).1 0 10 = nI j := h3
    rw [← nI_1, ← h4] at hQ
    exact xm_run_go hm 40 ⟨j, ⟨hj, h⟩, j, ⟨hj, h1⟩, j, ⟨hj, h2⟩, j, ⟨hj, h3⟩, hQ⟩
def xt_X9_sign : xT := xm_fn (Z := Nat × Nat × Int32 × Nat) (fun (p, v, d, j) av g => av = [.ref 0, .int (nI p), .int (nI v), .int d] ∧ v < 256 ∧ j < 403 ∧ g.1 0 10 = nI j) (fun _ _ => some (.int 1)) (fun (p, v, _, j) g => nTo (nI (pMk (if pSg v then v else 1))) (nI p) 0 0 j g)
set_option maxRecDepth 100000 in
set_option maxHeartbeats 400000 in
theorem xp_X9_sign {l : Launch} {D : va_G} {cA : Nat → ClassId} {B : List (Nat × Cell)} : xm_Met l D cA B xs_M 1 yX9_sign cX9_sign 5 (some .int) xt_X9_sign := by
  have hm : xm_monos [xt_X9_token] := ⟨(by first | exact xm_fn_mono _ _ _ | exact xm_rl_mono _ _), trivial⟩
  refine xm_meth (own := RX9) (ks := xk_X9_sign) (C := xc_X9_sign) (Ts := [xt_X9_token]) (by decide +kernel) rfl xm_clsok xs_M_ok xf_X9_ok xi_X9_ok xj_X9_ok (xm_lk xl_X9_185 xp_X9_token (by decide) xm_lk0) xo_X9_sign ?_ ?_
  · rintro av g Q ⟨z, ⟨rfl, -⟩, -⟩
    exact Nat.le_of_ble_eq_true rfl
  · rintro av g Q ⟨⟨p, v, d, j⟩, ⟨rfl, hv, hj, h⟩, hQ⟩
    dsimp only at hv hj h hQ
    by_cases c59 : v = 59
    · subst c59
      exact xm_run_go hm 60 ⟨fun z => absurd rfl z, fun _ => ⟨fun _ => ⟨fun _ => ⟨fun _ => ⟨fun _ => ⟨fun _ => ⟨(4, nI p, 0, 0, j), ⟨rfl, hj, h⟩, hQ⟩, fun z => absurd z (by decide)⟩, fun z => absurd z (by decide)⟩, fun z => absurd z (by decide)⟩, fun z => absurd z (by decide)⟩, fun z => absurd z (by decide)⟩⟩
    by_cases c61 : v = 61
    · subst c61
      exact xm_run_go hm 60 ⟨fun _ => ⟨fun z => absurd rfl z, fun _ => ⟨fun _ => ⟨fun _ => ⟨fun _ => ⟨fun _ => ⟨fun _ => ⟨(5, nI p, 0, 0, j), ⟨rfl, hj, h⟩, hQ⟩, fun z => absurd z (by decide)⟩, fun z => absurd z (by decide)⟩, fun z => absurd z (by decide)⟩, fun z => absurd z (by decide)⟩, fun z => absurd z (by decide)⟩⟩, fun z => absurd z (by decide)⟩
    by_cases c40 : v = 40
    · subst c40
      exact xm_run_go hm 60 ⟨fun _ => ⟨fun _ => ⟨fun z => absurd rfl z, fun _ => ⟨fun _ => ⟨fun _ => ⟨fun _ => ⟨fun _ => ⟨fun _ => ⟨(6, nI p, 0, 0, j), ⟨rfl, hj, h⟩, hQ⟩, fun z => absurd z (by decide)⟩, fun z => absurd z (by decide)⟩, fun z => absurd z (by decide)⟩, fun z => absurd z (by decide)⟩, fun z => absurd z (by decide)⟩⟩, fun z => absurd z (by decide)⟩, fun z => absurd z (by decide)⟩
    by_cases c41 : v = 41
    · subst c41
      exact xm_run_go hm 60 ⟨fun _ => ⟨fun _ => ⟨fun _ => ⟨fun z => absurd rfl z, fun _ => ⟨fun _ => ⟨fun _ => ⟨fun _ => ⟨fun _ => ⟨fun _ => ⟨(7, nI p, 0, 0, j), ⟨rfl, hj, h⟩, hQ⟩, fun z => absurd z (by decide)⟩, fun z => absurd z (by decide)⟩, fun z => absurd z (by decide)⟩, fun z => absurd z (by decide)⟩, fun z => absurd z (by decide)⟩⟩, fun z => absurd z (by decide)⟩, fun z => absurd z (by decide)⟩, fun z => absurd z (by decide)⟩
    by_cases c43 : v = 43
    · subst c43
      exact xm_run_go hm 60 ⟨fun _ => ⟨fun _ => ⟨fun _ => ⟨fun _ => ⟨fun z => absurd rfl z, fun _ => ⟨fun _ => ⟨fun _ => ⟨fun _ => ⟨fun _ => ⟨(8, nI p, 0, 0, j), ⟨rfl, hj, h⟩, hQ⟩, fun z => absurd z (by decide)⟩, fun z => absurd z (by decide)⟩, fun z => absurd z (by decide)⟩, fun z => absurd z (by decide)⟩⟩, fun z => absurd z (by decide)⟩, fun z => absurd z (by decide)⟩, fun z => absurd z (by decide)⟩, fun z => absurd z (by decide)⟩
    by_cases c45 : v = 45
    · subst c45
      exact xm_run_go hm 60 ⟨fun _ => ⟨fun _ => ⟨fun _ => ⟨fun _ => ⟨fun _ => ⟨fun z => absurd rfl z, fun _ => ⟨fun _ => ⟨fun _ => ⟨fun _ => ⟨(9, nI p, 0, 0, j), ⟨rfl, hj, h⟩, hQ⟩, fun z => absurd z (by decide)⟩, fun z => absurd z (by decide)⟩, fun z => absurd z (by decide)⟩⟩, fun z => absurd z (by decide)⟩, fun z => absurd z (by decide)⟩, fun z => absurd z (by decide)⟩, fun z => absurd z (by decide)⟩, fun z => absurd z (by decide)⟩
    by_cases c42 : v = 42
    · subst c42
      exact xm_run_go hm 60 ⟨fun _ => ⟨fun _ => ⟨fun _ => ⟨fun _ => ⟨fun _ => ⟨fun _ => ⟨fun z => absurd rfl z, fun _ => ⟨fun _ => ⟨fun _ => ⟨(10, nI p, 0, 0, j), ⟨rfl, hj, h⟩, hQ⟩, fun z => absurd z (by decide)⟩, fun z => absurd z (by decide)⟩⟩, fun z => absurd z (by decide)⟩, fun z => absurd z (by decide)⟩, fun z => absurd z (by decide)⟩, fun z => absurd z (by decide)⟩, fun z => absurd z (by decide)⟩, fun z => absurd z (by decide)⟩
    by_cases c47 : v = 47
    · subst c47
      exact xm_run_go hm 60 ⟨fun _ => ⟨fun _ => ⟨fun _ => ⟨fun _ => ⟨fun _ => ⟨fun _ => ⟨fun _ => ⟨fun z => absurd rfl z, fun _ => ⟨fun _ => ⟨(15, nI p, 0, 0, j), ⟨rfl, hj, h⟩, hQ⟩, fun z => absurd z (by decide)⟩⟩, fun z => absurd z (by decide)⟩, fun z => absurd z (by decide)⟩, fun z => absurd z (by decide)⟩, fun z => absurd z (by decide)⟩, fun z => absurd z (by decide)⟩, fun z => absurd z (by decide)⟩, fun z => absurd z (by decide)⟩
    by_cases c60 : v = 60
    · subst c60
      exact xm_run_go hm 60 ⟨fun _ => ⟨fun _ => ⟨fun _ => ⟨fun _ => ⟨fun _ => ⟨fun _ => ⟨fun _ => ⟨fun _ => ⟨fun z => absurd rfl z, fun _ => ⟨(13, nI p, 0, 0, j), ⟨rfl, hj, h⟩, hQ⟩⟩, fun z => absurd z (by decide)⟩, fun z => absurd z (by decide)⟩, fun z => absurd z (by decide)⟩, fun z => absurd z (by decide)⟩, fun z => absurd z (by decide)⟩, fun z => absurd z (by decide)⟩, fun z => absurd z (by decide)⟩, fun z => absurd z (by decide)⟩
    have n59 : ¬ nI v = 59 := fun z => c59 (nI_inj (b := 59) (by omega) (by omega) z)
    have n61 : ¬ nI v = 61 := fun z => c61 (nI_inj (b := 61) (by omega) (by omega) z)
    have n40 : ¬ nI v = 40 := fun z => c40 (nI_inj (b := 40) (by omega) (by omega) z)
    have n41 : ¬ nI v = 41 := fun z => c41 (nI_inj (b := 41) (by omega) (by omega) z)
    have n43 : ¬ nI v = 43 := fun z => c43 (nI_inj (b := 43) (by omega) (by omega) z)
    have n45 : ¬ nI v = 45 := fun z => c45 (nI_inj (b := 45) (by omega) (by omega) z)
    have n42 : ¬ nI v = 42 := fun z => c42 (nI_inj (b := 42) (by omega) (by omega) z)
    have n47 : ¬ nI v = 47 := fun z => c47 (nI_inj (b := 47) (by omega) (by omega) z)
    have n60 : ¬ nI v = 60 := fun z => c60 (nI_inj (b := 60) (by omega) (by omega) z)
    have sg : pSg v = false := by
      unfold pSg
      simp only [c59, c61, c40, c41, c43, c45, c42, c47, c60, decide_false, Bool.or_false]
    rw [sg] at hQ
    exact xm_run_go hm 60 ⟨fun _ => ⟨fun _ => ⟨fun _ => ⟨fun _ => ⟨fun _ => ⟨fun _ => ⟨fun _ => ⟨fun _ => ⟨fun _ => ⟨(3, nI p, 0, 0, j), ⟨rfl, hj, h⟩, hQ⟩, fun z => absurd z n60⟩, fun z => absurd z n47⟩, fun z => absurd z n42⟩, fun z => absurd z n45⟩, fun z => absurd z n43⟩, fun z => absurd z n41⟩, fun z => absurd z n40⟩, fun z => absurd z n61⟩, fun z => absurd z n59⟩
