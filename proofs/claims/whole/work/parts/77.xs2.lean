-- THE CLASS READS: its tokens
theorem pFd_at {n : List Nat} : ∀ {L : List (List Nat)} {w : Nat}, (∀ j, j < w → ¬ (L[j]?).getD [] = n) → L[w]? = some n → pFd n L = some w
  | [], _, _, h => by cases h
  | m :: r, 0, _, h => by
    cases h
    unfold pFd
    rw [if_pos rfl]
  | m :: r, w + 1, hj, h => by
    have h0 : ¬ m = n := hj 0 (by omega)
    unfold pFd
    rw [if_neg h0, pFd_at (L := r) (w := w) (fun j hj' => hj (j + 1) (by omega)) h]; rfl
theorem pFd_no {n : List Nat} : ∀ {L : List (List Nat)}, (∀ j, j < L.length → ¬ (L[j]?).getD [] = n) → pFd n L = none
  | [], _ => rfl
  | m :: r, hj => by
    have h0 : ¬ m = n := hj 0 (by simp)
    unfold pFd
    rw [if_neg h0, pFd_no (L := r) (fun j hj' => hj (j + 1) (by simp only [List.length_cons]; omega))]; rfl
theorem pWl_at : ∀ w, w < 20 → pWl[w]? = some ((pWl[w]?).getD []) := by decide +kernel
def pKd (l : List Nat) : Nat := match pFd l pWl with
  | some w => 128 + w
  | none => 2
def xt_X7_kindOfLetters : xT := xm_fn (Z := Nat × (Nat → Int32) × Nat × Nat) (fun (n, tb, p, m) av g => av = [.ref 7, .int (nI p), .int (nI m)] ∧ n ≤ 2000 ∧ xTape n tb g ∧ xBt n tb ∧ m ≤ 8 ∧ p + m ≤ n ∧ ∀ j, j < m → pAl (pC n tb (p + j)) = true) (fun (n, tb, p, m) _ => some (.int (nI (pKd (pLs 96 (pC n tb) p m))))) (fun _ g => g)
set_option maxRecDepth 100000 in
set_option maxHeartbeats 400000 in
theorem xp_X7_kindOfLetters {l : Launch} {D : va_G} {cA : Nat → ClassId} {B : List (Nat × Cell)} : xm_Met l D cA B xs_X 5 yX7_kindOfLetters cX7_kindOfLetters 4 (some .int) xt_X7_kindOfLetters := by
  have hm : xm_monos [xt_X7_isWord] := ⟨(by first | exact xm_fn_mono _ _ _ | exact xm_rl_mono _ _), trivial⟩
  refine xm_meth (own := RX7) (ks := xk_X7_kindOfLetters) (C := xc_X7_kindOfLetters) (Ts := [xt_X7_isWord]) (by decide +kernel) rfl xm_clsok xs_X_ok xf_X7_ok xi_X7_ok xj_X7_ok (xm_lk xl_X7_71 xp_X7_isWord (by decide) xm_lk0) xo_X7_kindOfLetters ?_ ?_
  · rintro av g Q ⟨z, ⟨rfl, -⟩, -⟩
    exact Nat.le_of_ble_eq_true rfl
  · rintro av g Q ⟨⟨n, tb, p, m⟩, ⟨rfl, hn, ht, hb, hm8, hpm, hal⟩, hQ⟩
    dsimp only at hn ht hb hm8 hpm hal hQ
    have loop : ∀ d w, w + d = 20 → (∀ j, j < w → ¬ (pWl[j]?).getD [] = pLs 96 (pC n tb) p m) → xm_go xs_X xk_X7_kindOfLetters [xt_X7_isWord] xc_X7_kindOfLetters Q (xm_drop 2 xc_X7_kindOfLetters) [.ref 7, .int (nI p), .int (nI m), .int (nI w)] [] g := by
      intro d
      induction d with
      | zero =>
        intro w hw hj
        have hw : w = 20 := by omega
        subst hw
        refine xm_run_go hm 20 ⟨fun _ => xq_i hQ ?_, fun z => absurd z (by decide)⟩
        unfold pKd
        rw [pFd_no (L := pWl) hj]; rfl
      | succ d ih =>
        intro w hw hj
        have nx := ih (w + 1) (by omega)
        rw [nI_succ] at nx
        refine xm_run_go hm 30 ⟨fun z => absurd z (nI_ge (b := 20) (by omega) (by omega)), fun _ => ⟨(n, tb, w, p, m), ⟨rfl, hn, ht, hb, by show w < 20; omega, hm8, hpm, hal⟩, ⟨fun z => xm_cut hm (nx (fun j hj' => ?_)), fun z => xq_i hQ ?_⟩⟩⟩
        · by_cases e : j = w
          · subst e
            exact of_decide_eq_false (bI_0.mp z)
          · exact hj j (by omega)
        · have e : (pWl[w]?).getD [] = pLs 96 (pC n tb) p m := by
            cases hd : decide ((pWl[w]?).getD [] = pLs 96 (pC n tb) p m) with
            | true => exact of_decide_eq_true hd
            | false => exact absurd (bI_0.mpr hd) z
          unfold pKd
          rw [pFd_at hj (by rw [← e]; exact pWl_at w (by omega))]
          show 128 + nI w = nI (128 + w)
          rw [show (128 : Int32) = nI 128 from rfl, nI_add]
    exact xm_run_go hm 10 (xm_cut hm (loop 20 0 rfl (fun j hj => absurd hj (by omega))))
theorem xl_al : ∀ v, v < 123 → 97 ≤ v → (nI v).toInt64 - (97 : Int32).toInt64 + (1 : Int32).toInt64 = lN (v - 96) := by decide +kernel
theorem xl_di : ∀ v, v < 58 → 48 ≤ v → (nI v).toInt64 - (48 : Int32).toInt64 = lN (v - 48) := by decide +kernel
theorem pTo_al {n : Nat} {c : Nat → Nat} {p : Nat} (hp : p < n) (h : pAl (c p) = true) : pTo n c p = ((if 8 < pRl pAl n c p then 1 else pKd (pLs 96 c p (pRl pAl n c p))), 0, pLs 96 c p (pRl pAl n c p), p + pRl pAl n c p) := by
  unfold pTo pKd
  rw [if_neg (by omega), if_pos h]
  rfl
theorem pTo_di {n : Nat} {c : Nat → Nat} {p : Nat} (hp : p < n) (h0 : pAl (c p) = false) (h : pDi (c p) = true) : pTo n c p = ((if 4 < pRl pDi n c p then 1 else 3), pVl (pLs 48 c p (pRl pDi n c p)), [], p + pRl pDi n c p) := by
  unfold pTo
  rw [if_neg (by omega), if_neg (by rw [h0]; decide), if_pos h]
theorem pTo_sg {n : Nat} {c : Nat → Nat} {p : Nat} (hp : p < n) (h0 : pAl (c p) = false) (h : pDi (c p) = false) : pTo n c p = ((if pSg (c p) then c p else 1), 0, [], p + 1) := by
  unfold pTo
  rw [if_neg (by omega), if_neg (by rw [h0]; decide), if_neg (by rw [h]; decide)]
def xt_X7_scanLetters : xT := xm_fn (Z := Nat × (Nat → Int32) × Nat × Nat) (fun (n, tb, p, j) av g => av = [.ref 7, .int (nI p)] ∧ n ≤ 2000 ∧ xTape n tb g ∧ xBt n tb ∧ p < n ∧ j ≤ 400 ∧ g.1 7 4 = nI j ∧ pAl (pC n tb p) = true) (fun (n, tb, p, _) _ => some (.int (nI (pTo n (pC n tb) p).2.2.2)))
  (fun (n, tb, p, j) g => xm_sI (xm_sL g 10 j (pNm 32 (pTo n (pC n tb) p).2.2.1)) 8 j (nI (pTo n (pC n tb) p).1))
set_option maxRecDepth 100000 in
set_option maxHeartbeats 400000 in
theorem xp_X7_scanLetters {l : Launch} {D : va_G} {cA : Nat → ClassId} {B : List (Nat × Cell)} : xm_Met l D cA B xs_X 6 yX7_scanLetters cX7_scanLetters 5 (some .int) xt_X7_scanLetters := by
  have hm : xm_monos [xt_X7_byteAt, xt_X7_isLetter, xt_X7_kindOfLetters] := ⟨(by first | exact xm_fn_mono _ _ _ | exact xm_rl_mono _ _), (by first | exact xm_fn_mono _ _ _ | exact xm_rl_mono _ _), (by first | exact xm_fn_mono _ _ _ | exact xm_rl_mono _ _), trivial⟩
  refine xm_meth (own := RX7) (ks := xk_X7_scanLetters) (C := xc_X7_scanLetters) (Ts := [xt_X7_byteAt, xt_X7_isLetter, xt_X7_kindOfLetters]) (by decide +kernel) rfl xm_clsok xs_X_ok xf_X7_ok xi_X7_ok xj_X7_ok (xm_lk xl_X7_33 xp_X7_byteAt (by decide) (xm_lk xl_X7_45 xp_X7_isLetter (by decide) (xm_lk xl_X7_68 xp_X7_kindOfLetters (by decide) xm_lk0))) xo_X7_scanLetters ?_ ?_
  · rintro av g Q ⟨z, ⟨rfl, -⟩, -⟩
    exact Nat.le_of_ble_eq_true rfl
  · rintro av g Q ⟨⟨n, tb, p, j⟩, ⟨rfl, hn, ht, hb, hp, hj, e4, hal⟩, hQ⟩
    dsimp only at hn ht hb hp hj e4 hal hQ
    rw [pTo_al hp hal] at hQ
    dsimp only at hQ
    have loop : ∀ r i, i + r = pRl pAl n (pC n tb) p → pRl pAl n (pC n tb) (p + i) = r → ∀ nm, nm = pNm 32 (pLs 96 (pC n tb) p i) → ∀ w4, xm_go xs_X xk_X7_scanLetters [xt_X7_byteAt, xt_X7_isLetter, xt_X7_kindOfLetters] xc_X7_scanLetters Q (xm_drop 4 xc_X7_scanLetters) [.ref 7, .int (nI p), .int (nI (p + i)), .long nm, w4] [] g := by
      intro r
      induction r with
      | zero =>
        intro i hi hr nm hnm w4
        have hi : i = pRl pAl n (pC n tb) p := by omega
        have le := pRl_le (P := pAl) (n := n) (c := pC n tb) (i := p) (by omega)
        have no := pRl_0 (by decide) (fun i h => pC_0 h) hr
        rw [← hi] at hQ le
        have is0 : bI (pAl (pC n tb (p + i))) = 0 := bI_0.mpr no
        -- the end
        have out : xm_go xs_X xk_X7_scanLetters [xt_X7_byteAt, xt_X7_isLetter, xt_X7_kindOfLetters] xc_X7_scanLetters Q (xm_drop 29 xc_X7_scanLetters) [.ref 7, .int (nI p), .int (nI (p + i)), .long nm, w4] [] g := by
          have sub : nI (p + i) - nI p = nI i := by rw [← nI_add, Int32.add_comm, Int32.add_sub_cancel]
          have e4' : (xm_sL g 10 j nm).1 7 4 = nI j := e4
          rw [← hnm] at hQ
          by_cases c8 : 8 < i
          · rw [if_pos c8] at hQ
            refine xm_run_go hm 60 ⟨j, ⟨by omega, e4⟩, ⟨fun z => ?_, fun _ => ⟨j, ⟨by omega, e4'⟩, hQ⟩⟩⟩
            rw [sub] at z
            have := (nI_leI (b := 8) (by omega) (by omega)).mp z
            omega
          · rw [if_neg c8] at hQ
            have ea : [Value.ref 7, .int (nI p), .int (nI (p + i) - nI p)] = [Value.ref 7, .int (nI p), .int (nI i)] := by rw [sub]
            have al : ∀ t, t < i → pAl (pC n tb (p + t)) = true := pRl_all _ _ hi.symm
            refine xm_run_go hm 60 ⟨j, ⟨by omega, e4⟩, ⟨fun _ => ⟨(n, tb, p, i), ⟨ea, hn, ht, hb, by show i ≤ 8; omega, by show p + i ≤ n; omega, al⟩, j, ⟨by omega, e4'⟩, hQ⟩, fun z => ?_⟩⟩
            rw [sub] at z
            have := (nI_ltI (a := 8) (by omega) (by omega)).mp z
            omega
        by_cases en : p + i < n
        · exact xm_run_go hm 10 ⟨fun _ => xm_go_run hm _ out, fun _ => ⟨(n, tb, p + i), ⟨rfl, hn, by show p + i ≤ 2000; omega, ht⟩, pC n tb (p + i), ⟨rfl, pC_lt _ _ _⟩, ⟨fun _ => xm_go_run hm _ out, fun z => absurd is0 z⟩⟩⟩
        · refine xm_run_go hm 10 ⟨fun _ => xm_go_run hm _ out, fun z => ?_⟩
          rw [ht.1] at z
          exact absurd ((nI_ltI (by omega) (by omega)).mp z) en
      | succ r ih =>
        intro i hi hr nm hnm w4
        obtain ⟨h1, h2, h3⟩ := pRl_s hr
        have av := pAl_i.mp h1
        have is1 : ¬ bI (pAl (pC n tb (p + i))) = 0 := fun z => by rw [bI_0.mp z] at h1; cases h1
        have nx := ih (i + 1) (by omega) h3
        rw [show p + (i + 1) = (p + i) + 1 by omega, nI_succ] at nx
        refine xm_run_go hm 60 ⟨fun z => ?_, fun _ => ⟨(n, tb, p + i), ⟨rfl, hn, by show p + i ≤ 2000; omega, ht⟩, pC n tb (p + i), ⟨rfl, pC_lt _ _ _⟩, ⟨fun z => absurd z is1, fun _ => ⟨(n, tb, p + i), ⟨rfl, hn, by show p + i ≤ 2000; omega, ht⟩, xm_cut hm (nx _ ?_ _)⟩⟩⟩⟩
        · rw [ht.1] at z
          exact absurd z (nI_ge h2 (by omega))
        · rw [pLs_s, pNm_s, ← hnm, ← xl_al _ (by omega) av.1]
          show nm * 32 + (nI (pC n tb (p + i))).toInt64 - (97 : Int32).toInt64 + (1 : Int32).toInt64 = _
          rw [Int64.sub_eq_add_neg, Int64.sub_eq_add_neg, Int64.add_assoc, Int64.add_assoc, Int64.add_assoc]
    have go := loop _ 0 (Nat.zero_add _) rfl 0 rfl (.retAddr 0)
    exact xm_run_go hm 20 (xm_cut hm go)
def xt_X7_scanDigits : xT := xm_fn (Z := Nat × (Nat → Int32) × Nat × Nat) (fun (n, tb, p, j) av g => av = [.ref 7, .int (nI p)] ∧ n ≤ 2000 ∧ xTape n tb g ∧ p < n ∧ j ≤ 400 ∧ g.1 7 4 = nI j ∧ pAl (pC n tb p) = false ∧ pDi (pC n tb p) = true) (fun (n, tb, p, _) _ => some (.int (nI (pTo n (pC n tb) p).2.2.2)))
  (fun (n, tb, p, j) g => xm_sI (xm_sL g 10 j (lN (pTo n (pC n tb) p).2.1)) 8 j (nI (pTo n (pC n tb) p).1))
set_option maxRecDepth 100000 in
set_option maxHeartbeats 400000 in
theorem xp_X7_scanDigits {l : Launch} {D : va_G} {cA : Nat → ClassId} {B : List (Nat × Cell)} : xm_Met l D cA B xs_X 1 yX7_scanDigits cX7_scanDigits 5 (some .int) xt_X7_scanDigits := by
  have hm : xm_monos [xt_X7_byteAt, xt_X7_isDigit] := ⟨(by first | exact xm_fn_mono _ _ _ | exact xm_rl_mono _ _), (by first | exact xm_fn_mono _ _ _ | exact xm_rl_mono _ _), trivial⟩
  refine xm_meth (own := RX7) (ks := xk_X7_scanDigits) (C := xc_X7_scanDigits) (Ts := [xt_X7_byteAt, xt_X7_isDigit]) (by decide +kernel) rfl xm_clsok xs_X_ok xf_X7_ok xi_X7_ok xj_X7_ok (xm_lk xl_X7_33 xp_X7_byteAt (by decide) (xm_lk xl_X7_51 xp_X7_isDigit (by decide) xm_lk0)) xo_X7_scanDigits ?_ ?_
  · rintro av g Q ⟨z, ⟨rfl, -⟩, -⟩
    exact Nat.le_of_ble_eq_true rfl
  · rintro av g Q ⟨⟨n, tb, p, j⟩, ⟨rfl, hn, ht, hp, hj, e4, hna, hal⟩, hQ⟩
    dsimp only at hn ht hp hj e4 hna hal hQ
    rw [pTo_di hp hna hal] at hQ
    dsimp only at hQ
    rw [← pVl_nm] at hQ
    have loop : ∀ r i, i + r = pRl pDi n (pC n tb) p → pRl pDi n (pC n tb) (p + i) = r → ∀ nm, nm = pNm 10 (pLs 48 (pC n tb) p i) → ∀ w4, xm_go xs_X xk_X7_scanDigits [xt_X7_byteAt, xt_X7_isDigit] xc_X7_scanDigits Q (xm_drop 4 xc_X7_scanDigits) [.ref 7, .int (nI p), .int (nI (p + i)), .long nm, w4] [] g := by
      intro r
      induction r with
      | zero =>
        intro i hi hr nm hnm w4
        have hi : i = pRl pDi n (pC n tb) p := by omega
        have le := pRl_le (P := pDi) (n := n) (c := pC n tb) (i := p) (by omega)
        have no := pRl_0 (by decide) (fun i h => pC_0 h) hr
        rw [← hi] at hQ le
        have is0 : bI (pDi (pC n tb (p + i))) = 0 := bI_0.mpr no
        have out : xm_go xs_X xk_X7_scanDigits [xt_X7_byteAt, xt_X7_isDigit] xc_X7_scanDigits Q (xm_drop 27 xc_X7_scanDigits) [.ref 7, .int (nI p), .int (nI (p + i)), .long nm, w4] [] g := by
          have sub : nI (p + i) - nI p = nI i := by rw [← nI_add, Int32.add_comm, Int32.add_sub_cancel]
          have e4' : (xm_sL g 10 j nm).1 7 4 = nI j := e4
          rw [← hnm] at hQ
          by_cases c8 : 4 < i
          · rw [if_pos c8] at hQ
            refine xm_run_go hm 60 ⟨j, ⟨by omega, e4⟩, ⟨fun z => ?_, fun _ => ⟨j, ⟨by omega, e4'⟩, hQ⟩⟩⟩
            rw [sub] at z
            have := (nI_leI (b := 4) (by omega) (by omega)).mp z
            omega
          · rw [if_neg c8] at hQ
            refine xm_run_go hm 60 ⟨j, ⟨by omega, e4⟩, ⟨fun _ => ⟨j, ⟨by omega, e4'⟩, hQ⟩, fun z => ?_⟩⟩
            rw [sub] at z
            have := (nI_ltI (a := 4) (by omega) (by omega)).mp z
            omega
        by_cases en : p + i < n
        · exact xm_run_go hm 10 ⟨fun _ => xm_go_run hm _ out, fun _ => ⟨(n, tb, p + i), ⟨rfl, hn, by show p + i ≤ 2000; omega, ht⟩, pC n tb (p + i), ⟨rfl, pC_lt _ _ _⟩, ⟨fun _ => xm_go_run hm _ out, fun z => absurd is0 z⟩⟩⟩
        · refine xm_run_go hm 10 ⟨fun _ => xm_go_run hm _ out, fun z => ?_⟩
          rw [ht.1] at z
          exact absurd ((nI_ltI (by omega) (by omega)).mp z) en
      | succ r ih =>
        intro i hi hr nm hnm w4
        obtain ⟨h1, h2, h3⟩ := pRl_s hr
        have av := pDi_i.mp h1
        have is1 : ¬ bI (pDi (pC n tb (p + i))) = 0 := fun z => by rw [bI_0.mp z] at h1; cases h1
        have nx := ih (i + 1) (by omega) h3
        rw [show p + (i + 1) = (p + i) + 1 by omega, nI_succ] at nx
        refine xm_run_go hm 60 ⟨fun z => ?_, fun _ => ⟨(n, tb, p + i), ⟨rfl, hn, by show p + i ≤ 2000; omega, ht⟩, pC n tb (p + i), ⟨rfl, pC_lt _ _ _⟩, ⟨fun z => absurd z is1, fun _ => ⟨(n, tb, p + i), ⟨rfl, hn, by show p + i ≤ 2000; omega, ht⟩, xm_cut hm (nx _ ?_ _)⟩⟩⟩⟩
        · rw [ht.1] at z
          exact absurd z (nI_ge h2 (by omega))
        · rw [pLs_s, pNm_s, ← hnm, ← xl_di _ (by omega) av.1]
          show nm * 10 + (nI (pC n tb (p + i))).toInt64 - (48 : Int32).toInt64 = _
          rw [Int64.sub_eq_add_neg, Int64.sub_eq_add_neg, Int64.add_assoc]
    have go := loop _ 0 (Nat.zero_add _) rfl 0 rfl (.retAddr 0)
    exact xm_run_go hm 20 (xm_cut hm go)
/-- one token is laid -/
def xFo (j : Nat) (g g' : xG) : Prop := (∀ k, k ≠ 8 → g'.1 k = g.1 k) ∧ (∀ i, i ≠ j → g'.1 8 i = g.1 8 i) ∧ (∀ k, k ≠ 10 → g'.2.1 k = g.2.1 k) ∧ (∀ i, i ≠ j → g'.2.1 10 i = g.2.1 10 i) ∧ g'.2.2 = g.2.2
theorem xgL_in (g : xG) (k j i : Nat) (v : Int64) : (xm_sL g k j v).2.1 k i = if i = j then v else g.2.1 k i := by
  show xm_u2L g.2.1 k j v k i = _
  unfold xm_u2L
  rw [if_pos rfl]
theorem xgL_off (g : xG) {k q : Nat} (j : Nat) (v : Int64) (h : q ≠ k) : (xm_sL g k j v).2.1 q = g.2.1 q := by
  funext i
  show xm_u2L g.2.1 k j v q i = _
  unfold xm_u2L
  rw [if_neg h]
theorem xFo.of (j : Nat) (g : xG) (x : Int64) (v : Int32) : xFo j g (xm_sI (xm_sL g 10 j x) 8 j v) := ⟨fun k h => by rw [xg_off _ _ _ h]; rfl, fun i h => by rw [xg_in, if_neg h]; rfl, fun k h => xgL_off _ _ _ h, fun i h => by show (xm_sL g 10 j x).2.1 10 i = _; rw [xgL_in, if_neg h], rfl⟩
theorem xSg_n : ∀ v, v < 256 → (pSg v = true → nI v < 128) := by decide +kernel
theorem xl_c : ∀ v, v < 256 → ((nI v).toUInt32 % 65536).toInt32 = nI v := by decide +kernel
def xt_X7_scanOne : xT := xm_rl (Z := Nat × (Nat → Int32) × Nat × Nat) (fun (n, tb, p, j) av g => av = [.ref 7, .int (nI p), .int (nI (pC n tb p))] ∧ n ≤ 2000 ∧ xTape n tb g ∧ xBt n tb ∧ p < n ∧ j ≤ 400 ∧ g.1 7 4 = nI j)
  (fun (n, tb, p, j) g o g' => o = some (.int (nI (pTo n (pC n tb) p).2.2.2)) ∧ xFo j g g' ∧ g'.1 8 j = nI (pTo n (pC n tb) p).1 ∧ ((pTo n (pC n tb) p).1 = 2 → g'.2.1 10 j = pNm 32 (pTo n (pC n tb) p).2.2.1) ∧ ((pTo n (pC n tb) p).1 = 3 → g'.2.1 10 j = lN (pTo n (pC n tb) p).2.1))
set_option maxRecDepth 100000 in
set_option maxHeartbeats 400000 in
theorem xp_X7_scanOne {l : Launch} {D : va_G} {cA : Nat → ClassId} {B : List (Nat × Cell)} : xm_Met l D cA B xs_X 7 yX7_scanOne cX7_scanOne 3 (some .int) xt_X7_scanOne := by
  have hm : xm_monos [xt_X7_isLetter, xt_X7_scanLetters, xt_X7_isDigit, xt_X7_scanDigits, xt_J0_indexOf_0f7a4] := ⟨(by first | exact xm_fn_mono _ _ _ | exact xm_rl_mono _ _), (by first | exact xm_fn_mono _ _ _ | exact xm_rl_mono _ _), (by first | exact xm_fn_mono _ _ _ | exact xm_rl_mono _ _), (by first | exact xm_fn_mono _ _ _ | exact xm_rl_mono _ _), (by first | exact xm_fn_mono _ _ _ | exact xm_rl_mono _ _), trivial⟩
  refine xm_meth (own := RX7) (ks := xk_X7_scanOne) (C := xc_X7_scanOne) (Ts := [xt_X7_isLetter, xt_X7_scanLetters, xt_X7_isDigit, xt_X7_scanDigits, xt_J0_indexOf_0f7a4]) (by decide +kernel) rfl xm_clsok xs_X_ok xf_X7_ok xi_X7_ok xj_X7_ok (xm_lk xl_X7_45 xp_X7_isLetter (by decide) (xm_lk xl_X7_48 xp_X7_scanLetters (by decide) (xm_lk xl_X7_51 xp_X7_isDigit (by decide) (xm_lk xl_X7_54 xp_X7_scanDigits (by decide) (xm_lk xl_X7_59 xp_J0_indexOf_0f7a4 (by decide) xm_lk0))))) xo_X7_scanOne ?_ ?_
  · rintro av g Q ⟨z, ⟨rfl, -⟩, -⟩
    exact Nat.le_of_ble_eq_true rfl
  · rintro av g Q ⟨⟨n, tb, p, j⟩, ⟨rfl, hn, ht, hb, hp, hj, e4⟩, hQ⟩
    dsimp only at hn ht hb hp hj e4 hQ
    have v256 := pC_lt n tb p
    cases ha : pAl (pC n tb p) with
    | true =>
      have is1 : ¬ bI (pAl (pC n tb p)) = 0 := fun z => by rw [bI_0.mp z] at ha; cases ha
      have hne : (pTo n (pC n tb) p).1 ≠ 3 := by
        rw [pTo_al hp ha]
        dsimp only
        split
        · decide
        · unfold pKd
          split
          · rename_i w hw
            have := pFd_w hw
            omega
          · decide
      exact xm_run_go hm 30 ⟨pC n tb p, ⟨rfl, v256⟩, ⟨fun z => absurd z is1, fun _ => ⟨(n, tb, p, j), ⟨rfl, hn, ht, hb, hp, hj, e4, ha⟩, hQ _ _ ⟨rfl, xFo.of _ _ _ _, by rw [xg_in, if_pos rfl], fun _ => by show (xm_sL g 10 j _).2.1 10 j = _; rw [xgL_in, if_pos rfl], fun h => absurd h hne⟩⟩⟩⟩
    | false =>
      have is0 : bI (pAl (pC n tb p)) = 0 := bI_0.mpr ha
      cases hd : pDi (pC n tb p) with
      | true =>
        have is1 : ¬ bI (pDi (pC n tb p)) = 0 := fun z => by rw [bI_0.mp z] at hd; cases hd
        have hne : (pTo n (pC n tb) p).1 ≠ 2 := by
          rw [pTo_di hp ha hd]
          dsimp only
          split <;> decide
        exact xm_run_go hm 30 ⟨pC n tb p, ⟨rfl, v256⟩, ⟨fun _ => ⟨pC n tb p, ⟨rfl, v256⟩, ⟨fun z => absurd z is1, fun _ => ⟨(n, tb, p, j), ⟨rfl, hn, ht, hp, hj, e4, ha, hd⟩, hQ _ _ ⟨rfl, xFo.of _ _ _ _, by rw [xg_in, if_pos rfl], fun h => absurd h hne, fun _ => by show (xm_sL g 10 j _).2.1 10 j = _; rw [xgL_in, if_pos rfl]⟩⟩⟩⟩, fun z => absurd is0 z⟩⟩
      | false =>
        have is0' : bI (pDi (pC n tb p)) = 0 := bI_0.mpr hd
        rw [pTo_sg hp ha hd] at hQ
        dsimp only at hQ
        have fin : ∀ v : Nat, v = (if pSg (pC n tb p) = true then pC n tb p else 1) → Q (some (.int (nI p + 1))) (xm_sI g 8 j (nI v)) := fun v hv => by
          have h2 : ¬ v = 2 ∧ ¬ v = 3 := by
            rw [hv]
            split
            · rename_i z
              have : ∀ v, v < 256 → pSg v = true → ¬ v = 2 ∧ ¬ v = 3 := by decide +kernel
              exact this _ v256 z
            · decide
          refine hQ _ _ ⟨by rw [nI_1], ⟨fun k h => xg_off _ _ _ h, fun i h => by rw [xg_in, if_neg h], fun k _ => rfl, fun i _ => rfl, rfl⟩, by rw [xg_in, if_pos rfl, hv], fun h => ?_, fun h => ?_⟩
          · rw [← hv] at h; exact absurd h h2.1
          · rw [← hv] at h; exact absurd h h2.2
        have ec : ((nI (pC n tb p)).toUInt32 % 65536).toInt32 = nI (pC n tb p) := xl_c _ v256
        have ea : [Value.ref 1001, .int ((nI (pC n tb p)).toUInt32 % 65536).toInt32] = [Value.ref 1001, .int (nI (pC n tb p))] := by rw [ec]
        obtain ⟨i1, i2⟩ := xIx_sg _ v256
        cases hs : pSg (pC n tb p) with
        | true =>
          have f := fin (pC n tb p) (by rw [hs, if_pos rfl])
          have lt := xSg_n _ v256 hs
          exact xm_run_go hm 40 ⟨pC n tb p, ⟨rfl, v256⟩, ⟨fun _ => ⟨pC n tb p, ⟨rfl, v256⟩, ⟨fun _ => ⟨fun z => absurd lt (Int32.not_lt.mpr z), fun _ => ⟨pC n tb p, ⟨ea, v256⟩, ⟨fun z => absurd z (i1 hs), fun _ => ⟨j, ⟨by omega, e4⟩, f⟩⟩⟩⟩, fun z => absurd is0' z⟩⟩, fun z => absurd is0 z⟩⟩
        | false =>
          have f := fin 1 (by rw [hs]; rfl)
          exact xm_run_go hm 40 ⟨pC n tb p, ⟨rfl, v256⟩, ⟨fun _ => ⟨pC n tb p, ⟨rfl, v256⟩, ⟨fun _ => ⟨fun _ => ⟨j, ⟨by omega, e4⟩, f⟩, fun _ => ⟨pC n tb p, ⟨ea, v256⟩, ⟨fun _ => ⟨j, ⟨by omega, e4⟩, f⟩, fun z => absurd (i2 hs) (Int32.not_lt.mpr z)⟩⟩⟩, fun z => absurd is0' z⟩⟩, fun z => absurd is0 z⟩⟩
