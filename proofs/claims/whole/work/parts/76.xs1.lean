-- THE CLASS READS: its two texts
def xt_J0_isLatin1_aae02 : xT := xm_fn (Z := Bool) (fun b av _ => av = [.ref (if b then 1000 else 1001)] ∧ True) (fun _ _ => some (.int 1)) (fun _ g => g)
set_option maxRecDepth 100000 in
set_option maxHeartbeats 400000 in
theorem xp_J0_isLatin1_aae02 {l : Launch} {D : va_G} {cA : Nat → ClassId} {B : List (Nat × Cell)} : xm_Met l D cA B xs_X 0 yJ0_isLatin1_aae02 cJ0_isLatin1_aae02 1 (some .boolean) xt_J0_isLatin1_aae02 := by
  have hm : xm_monos [] := xm_m0
  refine xm_meth (own := RJ0) (ks := xk_J0_isLatin1_aae02) (C := xc_J0_isLatin1_aae02) (Ts := []) (by decide +kernel) rfl xm_clsok xs_X_ok xf_J0_ok xi_J0_ok xj_J0_ok xm_lk0 xo_J0_isLatin1_aae02 ?_ ?_
  · rintro av g Q ⟨z, ⟨rfl, -⟩, -⟩
    exact Nat.le_of_ble_eq_true rfl
  · rintro av g Q ⟨b, ⟨rfl, -⟩, hQ⟩
    dsimp only at hQ
    cases b
    · exact xm_run_go hm 20 ⟨fun z => absurd z (by decide), fun _ => ⟨fun z => absurd rfl z, fun _ => ⟨Or.inr rfl, hQ⟩⟩⟩
    · exact xm_run_go hm 20 ⟨fun z => absurd z (by decide), fun _ => ⟨fun z => absurd rfl z, fun _ => ⟨Or.inr rfl, hQ⟩⟩⟩
def xt_J3_checkIndex_8e157 : xT := xm_fn (Z := Nat × Nat × Bool) (fun (i, n, b) av _ => av = [.int (nI i), .int (nI n), if b then .null else .ref 3000] ∧ i < n ∧ n < 2 ^ 31) (fun (i, _, _) _ => some (.int (nI i))) (fun _ g => g)
set_option maxRecDepth 100000 in
set_option maxHeartbeats 400000 in
theorem xp_J3_checkIndex_8e157 {l : Launch} {D : va_G} {cA : Nat → ClassId} {B : List (Nat × Cell)} : xm_Met l D cA B xs_X 0 yJ3_checkIndex_8e157 cJ3_checkIndex_8e157 3 (some .int) xt_J3_checkIndex_8e157 := by
  have hm : xm_monos [] := xm_m0
  refine xm_meth (own := RJ3) (ks := xk_J3_checkIndex_8e157) (C := xc_J3_checkIndex_8e157) (Ts := []) (by decide +kernel) rfl xm_clsok xs_X_ok xf_J3_ok xi_J3_ok xj_J3_ok xm_lk0 xo_J3_checkIndex_8e157 ?_ ?_
  · rintro av g Q ⟨⟨i, n, b⟩, ⟨rfl, -⟩, -⟩
    cases b <;> exact Nat.le_of_ble_eq_true rfl
  · rintro av g Q ⟨⟨i, n, b⟩, ⟨rfl, hi, hn⟩, hQ⟩
    dsimp only at hi hn hQ
    have lt : nI i < nI n := nI_lt hi hn
    cases b
    · exact xm_run_go hm 20 ⟨fun z => absurd z (nI_pos (by omega)), fun _ => ⟨fun _ => hQ, fun z => absurd lt (Int32.not_lt.mpr z)⟩⟩
    · exact xm_run_go hm 20 ⟨fun z => absurd z (nI_pos (by omega)), fun _ => ⟨fun _ => hQ, fun z => absurd lt (Int32.not_lt.mpr z)⟩⟩
def xt_J0_checkIndex_df160 : xT := xm_fn (Z := Nat × Nat) (fun (i, n) av _ => av = [.int (nI i), .int (nI n)] ∧ i < n ∧ n < 2 ^ 31) (fun _ _ => none) (fun _ g => g)
set_option maxRecDepth 100000 in
set_option maxHeartbeats 400000 in
theorem xp_J0_checkIndex_df160 {l : Launch} {D : va_G} {cA : Nat → ClassId} {B : List (Nat × Cell)} : xm_Met l D cA B xs_X 1 yJ0_checkIndex_df160 cJ0_checkIndex_df160 2 none xt_J0_checkIndex_df160 := by
  have hm : xm_monos [xt_J3_checkIndex_8e157] := ⟨(by first | exact xm_fn_mono _ _ _ | exact xm_rl_mono _ _), trivial⟩
  refine xm_meth (own := RJ0) (ks := xk_J0_checkIndex_df160) (C := xc_J0_checkIndex_df160) (Ts := [xt_J3_checkIndex_8e157]) (by decide +kernel) rfl xm_clsok xs_X_ok xf_J0_ok xi_J0_ok xj_J0_ok (xm_lk xl_J0_1059 xp_J3_checkIndex_8e157 (by decide) xm_lk0) xo_J0_checkIndex_df160 ?_ ?_
  · rintro av g Q ⟨z, ⟨rfl, -⟩, -⟩
    exact Nat.le_of_ble_eq_true rfl
  · rintro av g Q ⟨⟨i, n⟩, ⟨rfl, hi, hn⟩, hQ⟩
    dsimp only at hi hn hQ
    exact xm_run_go hm 20 ⟨⟨(i, n, true), ⟨rfl, hi, hn⟩, hQ⟩, ⟨(i, n, false), ⟨rfl, hi, hn⟩, hQ⟩⟩
def xsC (k : Nat) : Int32 := (xm_by.getD 0 []).getD k 0 &&& 255
def xt_J1_charAt_3b067 : xT := xm_fn (Z := Nat) (fun k av _ => av = [.ref 2000, .int (nI k)] ∧ k < 160) (fun k _ => some (.int (xsC k))) (fun _ g => g)
set_option maxRecDepth 100000 in
set_option maxHeartbeats 400000 in
theorem xp_J1_charAt_3b067 {l : Launch} {D : va_G} {cA : Nat → ClassId} {B : List (Nat × Cell)} : xm_Met l D cA B xs_X 2 yJ1_charAt_3b067 cJ1_charAt_3b067 2 (some .char) xt_J1_charAt_3b067 := by
  have hm : xm_monos [xt_J0_checkIndex_df160] := ⟨(by first | exact xm_fn_mono _ _ _ | exact xm_rl_mono _ _), trivial⟩
  refine xm_meth (own := RJ1) (ks := xk_J1_charAt_3b067) (C := xc_J1_charAt_3b067) (Ts := [xt_J0_checkIndex_df160]) (by decide +kernel) rfl xm_clsok xs_X_ok xf_J1_ok xi_J1_ok xj_J1_ok (xm_lk xl_J1_9 xp_J0_checkIndex_df160 (by decide) xm_lk0) xo_J1_charAt_3b067 ?_ ?_
  · rintro av g Q ⟨z, ⟨rfl, -⟩, -⟩
    exact Nat.le_of_ble_eq_true rfl
  · rintro av g Q ⟨k, ⟨rfl, hk⟩, hQ⟩
    dsimp only at hk hQ
    exact xm_run_go hm 20 ⟨(k, 160), ⟨rfl, hk, by decide⟩, k, ⟨hk, rfl⟩, pk_nc _, xq_i hQ (sc_c2 _)⟩
def xt_J0_charAt_5068e : xT := xm_fn (Z := Nat) (fun k av _ => av = [.ref 1000, .int (nI k)] ∧ k < 160) (fun k _ => some (.int (xsC k))) (fun _ g => g)
set_option maxRecDepth 100000 in
set_option maxHeartbeats 400000 in
theorem xp_J0_charAt_5068e {l : Launch} {D : va_G} {cA : Nat → ClassId} {B : List (Nat × Cell)} : xm_Met l D cA B xs_X 3 yJ0_charAt_5068e cJ0_charAt_5068e 2 (some .char) xt_J0_charAt_5068e := by
  have hm : xm_monos [xt_J0_isLatin1_aae02, xt_J1_charAt_3b067] := ⟨(by first | exact xm_fn_mono _ _ _ | exact xm_rl_mono _ _), (by first | exact xm_fn_mono _ _ _ | exact xm_rl_mono _ _), trivial⟩
  refine xm_meth (own := RJ0) (ks := xk_J0_charAt_5068e) (C := xc_J0_charAt_5068e) (Ts := [xt_J0_isLatin1_aae02, xt_J1_charAt_3b067]) (by decide +kernel) rfl xm_clsok xs_X_ok xf_J0_ok xi_J0_ok xj_J0_ok (xm_lk xl_J0_492 xp_J0_isLatin1_aae02 (by decide) (xm_lk xl_J0_495 xp_J1_charAt_3b067 (by decide) xm_lk0)) xo_J0_charAt_5068e ?_ ?_
  · rintro av g Q ⟨z, ⟨rfl, -⟩, -⟩
    exact Nat.le_of_ble_eq_true rfl
  · rintro av g Q ⟨k, ⟨rfl, hk⟩, hQ⟩
    dsimp only at hk hQ
    exact xm_run_go hm 20 ⟨true, ⟨rfl, trivial⟩, ⟨fun z => absurd z (by decide), fun _ => ⟨k, ⟨rfl, hk⟩, sc_nar _, hQ⟩⟩⟩
def xt_J0_coder_7d493 : xT := xm_fn (Z := Unit) (fun _ av _ => av = [.ref 1001] ∧ True) (fun _ _ => some (.int 0)) (fun _ g => g)
set_option maxRecDepth 100000 in
set_option maxHeartbeats 400000 in
theorem xp_J0_coder_7d493 {l : Launch} {D : va_G} {cA : Nat → ClassId} {B : List (Nat × Cell)} : xm_Met l D cA B xs_X 0 yJ0_coder_7d493 cJ0_coder_7d493 1 (some .byte) xt_J0_coder_7d493 := by
  have hm : xm_monos [] := xm_m0
  refine xm_meth (own := RJ0) (ks := xk_J0_coder_7d493) (C := xc_J0_coder_7d493) (Ts := []) (by decide +kernel) rfl xm_clsok xs_X_ok xf_J0_ok xi_J0_ok xj_J0_ok xm_lk0 xo_J0_coder_7d493 ?_ ?_
  · rintro av g Q ⟨z, ⟨rfl, -⟩, -⟩
    exact Nat.le_of_ble_eq_true rfl
  · rintro av g Q ⟨_, ⟨rfl, -⟩, hQ⟩
    dsimp only at hQ
    exact xm_run_go hm 20 ⟨fun z => absurd z (by decide), fun _ => ⟨rfl, hQ⟩⟩
def xt_J0_length_8abf5 : xT := xm_fn (Z := Unit) (fun _ av _ => av = [.ref 1001] ∧ True) (fun _ _ => some (.int (nI 9))) (fun _ g => g)
set_option maxRecDepth 100000 in
set_option maxHeartbeats 400000 in
theorem xp_J0_length_8abf5 {l : Launch} {D : va_G} {cA : Nat → ClassId} {B : List (Nat × Cell)} : xm_Met l D cA B xs_X 1 yJ0_length_8abf5 cJ0_length_8abf5 1 (some .int) xt_J0_length_8abf5 := by
  have hm : xm_monos [xt_J0_coder_7d493] := ⟨(by first | exact xm_fn_mono _ _ _ | exact xm_rl_mono _ _), trivial⟩
  refine xm_meth (own := RJ0) (ks := xk_J0_length_8abf5) (C := xc_J0_length_8abf5) (Ts := [xt_J0_coder_7d493]) (by decide +kernel) rfl xm_clsok xs_X_ok xf_J0_ok xi_J0_ok xj_J0_ok (xm_lk xl_J0_335 xp_J0_coder_7d493 (by decide) xm_lk0) xo_J0_length_8abf5 ?_ ?_
  · rintro av g Q ⟨z, ⟨rfl, -⟩, -⟩
    exact Nat.le_of_ble_eq_true rfl
  · rintro av g Q ⟨_, ⟨rfl, -⟩, hQ⟩
    dsimp only at hQ
    exact xm_run_go hm 20 ⟨(), ⟨rfl, trivial⟩, xq_i hQ (by decide)⟩
def xt_J1_canEncode_9a6ad : xT := xm_fn (Z := Nat) (fun v av _ => av = [.int (nI v)] ∧ v < 256) (fun _ _ => some (.int 1)) (fun _ g => g)
set_option maxRecDepth 100000 in
set_option maxHeartbeats 400000 in
theorem xp_J1_canEncode_9a6ad {l : Launch} {D : va_G} {cA : Nat → ClassId} {B : List (Nat × Cell)} : xm_Met l D cA B xs_X 0 yJ1_canEncode_9a6ad cJ1_canEncode_9a6ad 1 (some .boolean) xt_J1_canEncode_9a6ad := by
  have hm : xm_monos [] := xm_m0
  refine xm_meth (own := RJ1) (ks := xk_J1_canEncode_9a6ad) (C := xc_J1_canEncode_9a6ad) (Ts := []) (by decide +kernel) rfl xm_clsok xs_X_ok xf_J1_ok xi_J1_ok xj_J1_ok xm_lk0 xo_J1_canEncode_9a6ad ?_ ?_
  · rintro av g Q ⟨z, ⟨rfl, -⟩, -⟩
    exact Nat.le_of_ble_eq_true rfl
  · rintro av g Q ⟨v, ⟨rfl, hv⟩, hQ⟩
    dsimp only at hv hQ
    exact xm_run_go hm 20 ⟨fun z => absurd z (nI_pos (by omega)), fun _ => ⟨fun z => absurd z (nI_nlt (a := 255) (b := v) (by omega) (by decide)), fun _ => ⟨Or.inr rfl, hQ⟩⟩⟩
/-- where a sign stands among the nine -/
def xIx (v : Nat) : Nat → Nat → Int32
  | 0, _ => -1
  | d + 1, k => if (xm_by.getD 1 []).getD k 0 = (nI v).toInt8.toInt32 then nI k else xIx v d (k + 1)
theorem xIx_sg : ∀ v, v < 256 → (pSg v = true → ¬ xIx v 9 0 < 0) ∧ (pSg v = false → xIx v 9 0 < 0) := by decide +kernel
def xt_J1_indexOfChar_4cfef : xT := xm_fn (Z := Nat) (fun v av _ => av = [.ref 2001, .int (nI v), .int 0, .int (nI 9)] ∧ v < 256) (fun v _ => some (.int (xIx v 9 0))) (fun _ g => g)
set_option maxRecDepth 100000 in
set_option maxHeartbeats 400000 in
theorem xp_J1_indexOfChar_4cfef {l : Launch} {D : va_G} {cA : Nat → ClassId} {B : List (Nat × Cell)} : xm_Met l D cA B xs_X 0 yJ1_indexOfChar_4cfef cJ1_indexOfChar_4cfef 6 (some .int) xt_J1_indexOfChar_4cfef := by
  have hm : xm_monos [] := xm_m0
  refine xm_meth (own := RJ1) (ks := xk_J1_indexOfChar_4cfef) (C := xc_J1_indexOfChar_4cfef) (Ts := []) (by decide +kernel) rfl xm_clsok xs_X_ok xf_J1_ok xi_J1_ok xj_J1_ok xm_lk0 xo_J1_indexOfChar_4cfef ?_ ?_
  · rintro av g Q ⟨z, ⟨rfl, -⟩, -⟩
    exact Nat.le_of_ble_eq_true rfl
  · rintro av g Q ⟨v, ⟨rfl, hv⟩, hQ⟩
    dsimp only at hv hQ
    have loop : ∀ d k, k + d = 9 → Q (some (.int (xIx v d k))) g → xm_go xs_X xk_J1_indexOfChar_4cfef [] xc_J1_indexOfChar_4cfef Q (xm_drop 5 xc_J1_indexOfChar_4cfef) [.ref 2001, .int (nI v), .int 0, .int (nI 9), .int (nI v).toInt8.toInt32, .int (nI k)] [] g := by
      intro d
      induction d with
      | zero =>
        intro k hk q
        have hk : k = 9 := by omega
        subst hk
        exact xm_run_go hm 20 ⟨fun _ => q, fun z => absurd z (by decide)⟩
      | succ d ih =>
        intro k hk q
        have nx := ih (k + 1) (by omega)
        rw [nI_succ k] at nx
        unfold xIx at q
        refine xm_run_go hm 20 ⟨fun z => absurd z (nI_ge (b := 9) (by omega) (by omega)), fun _ => ⟨k, ⟨show k < 9 by omega, rfl⟩, ⟨fun z => xm_cut hm (nx ?_), fun z => ?_⟩⟩⟩
        · rw [if_neg z] at q; exact q
        · rw [if_pos z] at q; exact q
    exact xm_run_go hm 20 (xm_cut hm (loop 9 0 rfl hQ))
def xt_J1_indexOf_4cfef : xT := xm_fn (Z := Nat) (fun v av _ => av = [.ref 2001, .int (nI v), .int 0, .int (nI 9)] ∧ v < 256) (fun v _ => some (.int (xIx v 9 0))) (fun _ g => g)
set_option maxRecDepth 100000 in
set_option maxHeartbeats 400000 in
theorem xp_J1_indexOf_4cfef {l : Launch} {D : va_G} {cA : Nat → ClassId} {B : List (Nat × Cell)} : xm_Met l D cA B xs_X 1 yJ1_indexOf_4cfef cJ1_indexOf_4cfef 4 (some .int) xt_J1_indexOf_4cfef := by
  have hm : xm_monos [xt_J1_canEncode_9a6ad, xt_J9_max_7cf53, xt_J9_min_7cf53, xt_J1_indexOfChar_4cfef] := ⟨(by first | exact xm_fn_mono _ _ _ | exact xm_rl_mono _ _), (by first | exact xm_fn_mono _ _ _ | exact xm_rl_mono _ _), (by first | exact xm_fn_mono _ _ _ | exact xm_rl_mono _ _), (by first | exact xm_fn_mono _ _ _ | exact xm_rl_mono _ _), trivial⟩
  refine xm_meth (own := RJ1) (ks := xk_J1_indexOf_4cfef) (C := xc_J1_indexOf_4cfef) (Ts := [xt_J1_canEncode_9a6ad, xt_J9_max_7cf53, xt_J9_min_7cf53, xt_J1_indexOfChar_4cfef]) (by decide +kernel) rfl xm_clsok xs_X_ok xf_J1_ok xi_J1_ok xj_J1_ok (xm_lk xl_J1_88 xp_J1_canEncode_9a6ad (by decide) (xm_lk xl_J1_92 xp_J9_max_7cf53 (by decide) (xm_lk xl_J1_38 xp_J9_min_7cf53 (by decide) (xm_lk xl_J1_95 xp_J1_indexOfChar_4cfef (by decide) xm_lk0)))) xo_J1_indexOf_4cfef ?_ ?_
  · rintro av g Q ⟨z, ⟨rfl, -⟩, -⟩
    exact Nat.le_of_ble_eq_true rfl
  · rintro av g Q ⟨v, ⟨rfl, hv⟩, hQ⟩
    dsimp only at hv hQ
    exact xm_run_go hm 40 ⟨v, ⟨rfl, hv⟩, ⟨fun _ => ⟨(0, 0), ⟨rfl, trivial⟩, (nI 9, nI 9), ⟨rfl, trivial⟩, ⟨fun _ => ⟨v, ⟨rfl, hv⟩, hQ⟩, fun z => absurd z (by decide)⟩⟩, fun z => absurd z (by decide)⟩⟩
def xt_J0_indexOf_7cf53 : xT := xm_fn (Z := Nat) (fun v av _ => av = [.ref 1001, .int (nI v), .int 0] ∧ v < 256) (fun v _ => some (.int (xIx v 9 0))) (fun _ g => g)
set_option maxRecDepth 100000 in
set_option maxHeartbeats 400000 in
theorem xp_J0_indexOf_7cf53 {l : Launch} {D : va_G} {cA : Nat → ClassId} {B : List (Nat × Cell)} : xm_Met l D cA B xs_X 2 yJ0_indexOf_7cf53 cJ0_indexOf_7cf53 3 (some .int) xt_J0_indexOf_7cf53 := by
  have hm : xm_monos [xt_J0_isLatin1_aae02, xt_J0_length_8abf5, xt_J1_indexOf_4cfef] := ⟨(by first | exact xm_fn_mono _ _ _ | exact xm_rl_mono _ _), (by first | exact xm_fn_mono _ _ _ | exact xm_rl_mono _ _), (by first | exact xm_fn_mono _ _ _ | exact xm_rl_mono _ _), trivial⟩
  refine xm_meth (own := RJ0) (ks := xk_J0_indexOf_7cf53) (C := xc_J0_indexOf_7cf53) (Ts := [xt_J0_isLatin1_aae02, xt_J0_length_8abf5, xt_J1_indexOf_4cfef]) (by decide +kernel) rfl xm_clsok xs_X_ok xf_J0_ok xi_J0_ok xj_J0_ok (xm_lk xl_J0_492 xp_J0_isLatin1_aae02 (by decide) (xm_lk xl_J0_505 xp_J0_length_8abf5 (by decide) (xm_lk xl_J0_637 xp_J1_indexOf_4cfef (by decide) xm_lk0))) xo_J0_indexOf_7cf53 ?_ ?_
  · rintro av g Q ⟨z, ⟨rfl, -⟩, -⟩
    exact Nat.le_of_ble_eq_true rfl
  · rintro av g Q ⟨v, ⟨rfl, hv⟩, hQ⟩
    dsimp only at hv hQ
    exact xm_run_go hm 40 ⟨false, ⟨rfl, trivial⟩, ⟨fun z => absurd z (by decide), fun _ => ⟨(), ⟨rfl, trivial⟩, v, ⟨rfl, hv⟩, hQ⟩⟩⟩
def xt_J0_indexOf_0f7a4 : xT := xm_fn (Z := Nat) (fun v av _ => av = [.ref 1001, .int (nI v)] ∧ v < 256) (fun v _ => some (.int (xIx v 9 0))) (fun _ g => g)
set_option maxRecDepth 100000 in
set_option maxHeartbeats 400000 in
theorem xp_J0_indexOf_0f7a4 {l : Launch} {D : va_G} {cA : Nat → ClassId} {B : List (Nat × Cell)} : xm_Met l D cA B xs_X 3 yJ0_indexOf_0f7a4 cJ0_indexOf_0f7a4 2 (some .int) xt_J0_indexOf_0f7a4 := by
  have hm : xm_monos [xt_J0_indexOf_7cf53] := ⟨(by first | exact xm_fn_mono _ _ _ | exact xm_rl_mono _ _), trivial⟩
  refine xm_meth (own := RJ0) (ks := xk_J0_indexOf_0f7a4) (C := xc_J0_indexOf_0f7a4) (Ts := [xt_J0_indexOf_7cf53]) (by decide +kernel) rfl xm_clsok xs_X_ok xf_J0_ok xi_J0_ok xj_J0_ok (xm_lk xl_J0_633 xp_J0_indexOf_7cf53 (by decide) xm_lk0) xo_J0_indexOf_0f7a4 ?_ ?_
  · rintro av g Q ⟨z, ⟨rfl, -⟩, -⟩
    exact Nat.le_of_ble_eq_true rfl
  · rintro av g Q ⟨v, ⟨rfl, hv⟩, hQ⟩
    dsimp only at hv hQ
    exact xm_run_go hm 40 ⟨v, ⟨rfl, hv⟩, hQ⟩
-- small looks
theorem pBl_n : ∀ v, v < 256 → ((pBl v = true → nI v = 9 ∨ nI v = 10 ∨ nI v = 13 ∨ nI v = 32) ∧ (pBl v = false → ¬ nI v = 9 ∧ ¬ nI v = 10 ∧ ¬ nI v = 13 ∧ ¬ nI v = 32)) := by decide +kernel
theorem pAl_n : ∀ v, v < 256 → ((pAl v = true → ¬ nI v < 97 ∧ ¬ 122 < nI v) ∧ (pAl v = false → nI v < 97 ∨ 122 < nI v)) := by decide +kernel
theorem pDi_n : ∀ v, v < 256 → ((pDi v = true → ¬ nI v < 48 ∧ ¬ 57 < nI v) ∧ (pDi v = false → nI v < 48 ∨ 57 < nI v)) := by decide +kernel
def bI (b : Bool) : Int32 := if b then 1 else 0
theorem bI_0 {b : Bool} : bI b = 0 ↔ b = false := by cases b <;> decide
theorem bI_01 (b : Bool) : bI b = 0 ∨ bI b = 1 := by cases b; exact Or.inl rfl; exact Or.inr rfl
def xt_X7_isBlank : xT := xm_fn (Z := Nat) (fun v av _ => av = [.int (nI v)] ∧ v < 256) (fun v _ => some (.int (bI (pBl v)))) (fun _ g => g)
set_option maxRecDepth 100000 in
set_option maxHeartbeats 400000 in
theorem xp_X7_isBlank {l : Launch} {D : va_G} {cA : Nat → ClassId} {B : List (Nat × Cell)} : xm_Met l D cA B xs_X 0 yX7_isBlank cX7_isBlank 1 (some .boolean) xt_X7_isBlank := by
  have hm : xm_monos [] := xm_m0
  refine xm_meth (own := RX7) (ks := xk_X7_isBlank) (C := xc_X7_isBlank) (Ts := []) (by decide +kernel) rfl xm_clsok xs_X_ok xf_X7_ok xi_X7_ok xj_X7_ok xm_lk0 xo_X7_isBlank ?_ ?_
  · rintro av g Q ⟨z, ⟨rfl, -⟩, -⟩
    exact Nat.le_of_ble_eq_true rfl
  · rintro av g Q ⟨v, ⟨rfl, hv⟩, hQ⟩
    dsimp only at hv hQ
    obtain ⟨h1, h2⟩ := pBl_n v hv
    cases hp : pBl v with
    | true =>
      rw [hp] at hQ
      have h := h1 hp
      exact xm_run_go hm 20 ⟨fun _ => ⟨Or.inr rfl, hQ⟩, fun z1 => ⟨fun _ => ⟨Or.inr rfl, hQ⟩, fun z2 => ⟨fun _ => ⟨Or.inr rfl, hQ⟩, fun z3 => ⟨fun z4 => absurd (((h.resolve_left z1).resolve_left z2).resolve_left z3) z4, fun _ => ⟨Or.inr rfl, hQ⟩⟩⟩⟩⟩
    | false =>
      rw [hp] at hQ
      obtain ⟨n1, n2, n3, n4⟩ := h2 hp
      exact xm_run_go hm 20 ⟨fun z => absurd z n1, fun _ => ⟨fun z => absurd z n2, fun _ => ⟨fun z => absurd z n3, fun _ => ⟨fun _ => ⟨Or.inl rfl, hQ⟩, fun z => absurd z n4⟩⟩⟩⟩
def xt_X7_isLetter : xT := xm_fn (Z := Nat) (fun v av _ => av = [.int (nI v)] ∧ v < 256) (fun v _ => some (.int (bI (pAl v)))) (fun _ g => g)
set_option maxRecDepth 100000 in
set_option maxHeartbeats 400000 in
theorem xp_X7_isLetter {l : Launch} {D : va_G} {cA : Nat → ClassId} {B : List (Nat × Cell)} : xm_Met l D cA B xs_X 0 yX7_isLetter cX7_isLetter 1 (some .boolean) xt_X7_isLetter := by
  have hm : xm_monos [] := xm_m0
  refine xm_meth (own := RX7) (ks := xk_X7_isLetter) (C := xc_X7_isLetter) (Ts := []) (by decide +kernel) rfl xm_clsok xs_X_ok xf_X7_ok xi_X7_ok xj_X7_ok xm_lk0 xo_X7_isLetter ?_ ?_
  · rintro av g Q ⟨z, ⟨rfl, -⟩, -⟩
    exact Nat.le_of_ble_eq_true rfl
  · rintro av g Q ⟨v, ⟨rfl, hv⟩, hQ⟩
    dsimp only at hv hQ
    obtain ⟨h1, h2⟩ := pAl_n v hv
    cases hp : pAl v with
    | true =>
      rw [hp] at hQ
      obtain ⟨n1, n2⟩ := h1 hp
      exact xm_run_go hm 20 ⟨fun z => absurd z n1, fun _ => ⟨fun z => absurd z n2, fun _ => ⟨Or.inr rfl, hQ⟩⟩⟩
    | false =>
      rw [hp] at hQ
      exact xm_run_go hm 20 ⟨fun _ => ⟨Or.inl rfl, hQ⟩, fun z => ⟨fun _ => ⟨Or.inl rfl, hQ⟩, fun z2 => ((h2 hp).elim (fun q => absurd q (Int32.not_lt.mpr z)) (fun q => absurd q (Int32.not_lt.mpr z2)))⟩⟩
def xt_X7_isDigit : xT := xm_fn (Z := Nat) (fun v av _ => av = [.int (nI v)] ∧ v < 256) (fun v _ => some (.int (bI (pDi v)))) (fun _ g => g)
set_option maxRecDepth 100000 in
set_option maxHeartbeats 400000 in
theorem xp_X7_isDigit {l : Launch} {D : va_G} {cA : Nat → ClassId} {B : List (Nat × Cell)} : xm_Met l D cA B xs_X 0 yX7_isDigit cX7_isDigit 1 (some .boolean) xt_X7_isDigit := by
  have hm : xm_monos [] := xm_m0
  refine xm_meth (own := RX7) (ks := xk_X7_isDigit) (C := xc_X7_isDigit) (Ts := []) (by decide +kernel) rfl xm_clsok xs_X_ok xf_X7_ok xi_X7_ok xj_X7_ok xm_lk0 xo_X7_isDigit ?_ ?_
  · rintro av g Q ⟨z, ⟨rfl, -⟩, -⟩
    exact Nat.le_of_ble_eq_true rfl
  · rintro av g Q ⟨v, ⟨rfl, hv⟩, hQ⟩
    dsimp only at hv hQ
    obtain ⟨h1, h2⟩ := pDi_n v hv
    cases hp : pDi v with
    | true =>
      rw [hp] at hQ
      obtain ⟨n1, n2⟩ := h1 hp
      exact xm_run_go hm 20 ⟨fun z => absurd z n1, fun _ => ⟨fun z => absurd z n2, fun _ => ⟨Or.inr rfl, hQ⟩⟩⟩
    | false =>
      rw [hp] at hQ
      exact xm_run_go hm 20 ⟨fun _ => ⟨Or.inl rfl, hQ⟩, fun z => ⟨fun _ => ⟨Or.inl rfl, hQ⟩, fun z2 => ((h2 hp).elim (fun q => absurd q (Int32.not_lt.mpr z)) (fun q => absurd q (Int32.not_lt.mpr z2)))⟩⟩
def xt_X7_byteAt : xT := xm_fn (Z := Nat × (Nat → Int32) × Nat) (fun (n, tb, i) av g => av = [.ref 7, .int (nI i)] ∧ n ≤ 2000 ∧ i ≤ 2000 ∧ xTape n tb g) (fun (n, tb, i) _ => some (.int (nI (pC n tb i)))) (fun _ g => g)
set_option maxRecDepth 100000 in
set_option maxHeartbeats 400000 in
theorem xp_X7_byteAt {l : Launch} {D : va_G} {cA : Nat → ClassId} {B : List (Nat × Cell)} : xm_Met l D cA B xs_X 0 yX7_byteAt cX7_byteAt 2 (some .int) xt_X7_byteAt := by
  have hm : xm_monos [] := xm_m0
  refine xm_meth (own := RX7) (ks := xk_X7_byteAt) (C := xc_X7_byteAt) (Ts := []) (by decide +kernel) rfl xm_clsok xs_X_ok xf_X7_ok xi_X7_ok xj_X7_ok xm_lk0 xo_X7_byteAt ?_ ?_
  · rintro av g Q ⟨z, ⟨rfl, -⟩, -⟩
    exact Nat.le_of_ble_eq_true rfl
  · rintro av g Q ⟨⟨n, tb, i⟩, ⟨rfl, hn, hi, ht⟩, hQ⟩
    dsimp only at hn hi ht hQ
    refine xm_run_go hm 20 ⟨fun z => absurd z (nI_pos (by omega)), fun _ => ⟨fun z => xq_i hQ ?_, fun z => ⟨i, ⟨?_, rfl⟩, xq_i hQ ?_⟩⟩⟩
    · rw [ht.1] at z
      have := (nI_leI (by omega) (by omega)).mp z
      rw [pC_0 this]; rfl
    · rw [ht.1] at z
      have := (nI_ltI (by omega) (by omega)).mp z
      omega
    · rw [ht.1] at z
      have := (nI_ltI (by omega) (by omega)).mp z
      rw [ht.2 i this]; exact pC_e this
-- words
theorem xsC_w : ∀ w, w < 20 → ∀ i, i < 8 → xsC (w * 8 + i) = (if i < ((pWl[w]?).getD []).length then nI (((pWl[w]?).getD []).getD i 0 + 96) else 32) := by decide +kernel
theorem pWl_b : ∀ w, w < 20 → ((pWl[w]?).getD []).length ≤ 8 ∧ ∀ i, i < 8 → ((pWl[w]?).getD []).getD i 0 ≤ 26 := by decide +kernel
theorem pLs_get (d : Nat) (c : Nat → Nat) (i m j : Nat) (h : j < m) : (pLs d c i m).getD j 0 = c (i + j) - d := by
  unfold pLs
  rw [List.getD_eq_getElem?_getD, List.getElem?_map, List.getElem?_range h]; rfl
/-- letters are a word's just if they are so one by one, blanks behind them -/
theorem pWd_i {l1 l2 : List Nat} (h1 : l1.length ≤ 8) (h2 : l2.length ≤ 8) (e : ∀ i, i < 8 → (if i < l1.length then l1.getD i 0 + 96 else 32) = (if i < l2.length then l2.getD i 0 + 96 else 32)) : l1 = l2 := by
  have hl : l1.length = l2.length := by
    refine Nat.le_antisymm (Nat.le_of_not_lt fun q => ?_) (Nat.le_of_not_lt fun q => ?_)
    · have := e l2.length (by omega)
      rw [if_pos q, if_neg (by omega)] at this
      omega
    · have := e l1.length (by omega)
      rw [if_neg (by omega), if_pos q] at this
      omega
  apply List.ext_getElem hl
  intro i a b
  have := e i (by omega)
  rw [if_pos a, if_pos b, List.getD_eq_getElem?_getD, List.getD_eq_getElem?_getD, List.getElem?_eq_getElem a, List.getElem?_eq_getElem b] at this
  simp only [Option.getD_some] at this
  omega
def xBt (n : Nat) (tb : Nat → Int32) : Prop := ∀ i, i < n → (tb i).toInt8.toInt32 = tb i
def xt_X7_isWord : xT := xm_fn (Z := Nat × (Nat → Int32) × Nat × Nat × Nat) (fun (n, tb, w, p, m) av g => av = [.ref 7, .int (nI w), .int (nI p), .int (nI m)] ∧ n ≤ 2000 ∧ xTape n tb g ∧ xBt n tb ∧ w < 20 ∧ m ≤ 8 ∧ p + m ≤ n ∧ ∀ j, j < m → pAl (pC n tb (p + j)) = true) (fun (n, tb, w, p, m) _ => some (.int (bI (decide ((pWl[w]?).getD [] = pLs 96 (pC n tb) p m))))) (fun _ g => g)
set_option maxRecDepth 100000 in
set_option maxHeartbeats 400000 in
theorem xp_X7_isWord {l : Launch} {D : va_G} {cA : Nat → ClassId} {B : List (Nat × Cell)} : xm_Met l D cA B xs_X 4 yX7_isWord cX7_isWord 6 (some .boolean) xt_X7_isWord := by
  have hm : xm_monos [xt_J0_charAt_5068e] := ⟨(by first | exact xm_fn_mono _ _ _ | exact xm_rl_mono _ _), trivial⟩
  refine xm_meth (own := RX7) (ks := xk_X7_isWord) (C := xc_X7_isWord) (Ts := [xt_J0_charAt_5068e]) (by decide +kernel) rfl xm_clsok xs_X_ok xf_X7_ok xi_X7_ok xj_X7_ok (xm_lk xl_X7_81 xp_J0_charAt_5068e (by decide) xm_lk0) xo_X7_isWord ?_ ?_
  · rintro av g Q ⟨z, ⟨rfl, -⟩, -⟩
    exact Nat.le_of_ble_eq_true rfl
  · rintro av g Q ⟨⟨n, tb, w, p, m⟩, ⟨rfl, hn, ht, hb, hw, hm8, hpm, hal⟩, hQ⟩
    dsimp only at hn ht hb hw hm8 hpm hal hQ
    obtain ⟨wl, wb⟩ := pWl_b w hw
    have loop : ∀ d i, i + d = 8 → (∀ j, j < i → (if j < ((pWl[w]?).getD []).length then ((pWl[w]?).getD []).getD j 0 + 96 else 32) = (if j < (pLs 96 (pC n tb) p m).length then (pLs 96 (pC n tb) p m).getD j 0 + 96 else 32)) → ∀ w5, xm_go xs_X xk_X7_isWord [xt_J0_charAt_5068e] xc_X7_isWord Q (xm_drop 2 xc_X7_isWord) [.ref 7, .int (nI w), .int (nI p), .int (nI m), .int (nI i), w5] [] g := by
      intro d
      induction d with
      | zero =>
        intro i hi he w5
        have hi : i = 8 := by omega
        subst hi
        have e := pWd_i wl (by rw [pLs_len]; exact hm8) he
        rw [decide_eq_true e] at hQ
        exact xm_run_go hm 40 ⟨fun _ => ⟨Or.inr rfl, hQ⟩, fun z => absurd z (by decide)⟩
      | succ d ih =>
        intro i hi he w5
        have nx := ih (i + 1) (by omega)
        rw [nI_succ] at nx
        have ci := xsC_w w hw i (by omega)
        have wbi := wb i (by omega)
        have ix : nI w * 8 + nI i = nI (w * 8 + i) := by rw [show (8 : Int32) = nI 8 from rfl, pk_mul, nI_add]
        have ea : [Value.ref 1000, .int (nI w * 8 + nI i)] = [Value.ref 1000, .int (nI (w * 8 + i))] := by rw [ix]
        -- what stands here, as a number
        have fin : ∀ v : Nat, v < 128 → v = (if i < (pLs 96 (pC n tb) p m).length then (pLs 96 (pC n tb) p m).getD i 0 + 96 else 32) → ∀ x, x = nI v → ((¬ xsC (w * 8 + i) = x → Q (some (.int 0)) g) ∧ (xsC (w * 8 + i) = x → xm_go xs_X xk_X7_isWord [xt_J0_charAt_5068e] xc_X7_isWord Q (xm_drop 2 xc_X7_isWord) [.ref 7, .int (nI w), .int (nI p), .int (nI m), .int (nI i + 1), .int x] [] g)) := by
          rintro v hv ev x rfl
          refine ⟨fun z => ?_, fun z => nx (fun j hj => ?_) _⟩
          · have ne : ¬ (pWl[w]?).getD [] = pLs 96 (pC n tb) p m := fun q => by
              refine z ?_
              rw [ci, ev, q]
              split <;> rfl
            rw [decide_eq_false ne] at hQ
            exact hQ
          · by_cases e : j = i
            · subst e
              rw [← ev]
              rw [ci] at z
              split at z
              · rename_i q
                rw [if_pos q]
                exact nI_inj (by omega) (by omega) z
              · rename_i q
                rw [if_neg q]
                exact nI_inj (a := 32) (by omega) (by omega) z
            · exact he j (by omega)
        by_cases c : i < m
        · have pi : p + i < 2000 := by omega
          have al := hal i c
          have av := pAl_i.mp al
          have xb : g.1 2 (p + i) = nI (pC n tb (p + i)) := by
            rw [ht.2 _ (by omega)]
            have e : pC n tb (p + i) = pBy (tb (p + i)) := by unfold pC; rw [if_pos (by omega)]
            rw [e] at av ⊢
            exact pBy_s (hb _ (by omega)) (by omega)
          have f := fin (pC n tb (p + i)) (by omega) (by rw [pLs_len, if_pos c, pLs_get _ _ _ _ _ c]; omega) _ xb
          have ii : nI p + nI i = nI (p + i) := nI_add p i
          refine xm_run_go hm 60 ⟨fun z => absurd z (nI_ge (b := 8) (by omega) (by omega)), fun _ => ⟨fun z => ?_, fun _ => ⟨fun z => ?_, fun _ => ⟨p + i, ⟨pi, ii⟩, w * 8 + i, ⟨ea, by show w * 8 + i < 160; omega⟩, ⟨fun z => xm_cut hm (f.2 z), fun z => ⟨Or.inl rfl, f.1 z⟩⟩⟩⟩⟩⟩
          · exact absurd z (nI_ge (b := m) c (by omega))
          · rw [ii] at z; exact absurd z (nI_ge (b := 2000) pi (by omega))
        · have f := fin 32 (by decide) (by rw [pLs_len, if_neg c]) 32 rfl
          exact xm_run_go hm 60 ⟨fun z => absurd z (nI_ge (b := 8) (by omega) (by omega)), fun _ => ⟨fun _ => ⟨w * 8 + i, ⟨ea, by show w * 8 + i < 160; omega⟩, ⟨fun z => xm_cut hm (f.2 z), fun z => ⟨Or.inl rfl, f.1 z⟩⟩⟩, fun z => absurd ((nI_ltI (by omega) (by omega)).mp z) c⟩⟩
    exact xm_run_go hm 10 (xm_cut hm (loop 8 0 rfl (fun j hj => absurd hj (by omega)) _))
