-- sets of people as bits: numbers below 64
theorem ub_bit : ∀ u, u < 64 → ∀ p, p < 6 → ((nI u >>> (nI p &&& 31)) &&& 1 = if u.testBit p then 1 else 0) := by decide +kernel
theorem ub_or1 : ∀ u, u < 64 → ∀ p, p < 6 → nI u ||| (1 <<< (nI p &&& 31)) = nI (u ||| 2 ^ p) := by decide +kernel
theorem ub_one : ∀ p, p < 6 → (1 : Int32) <<< (nI p &&& 31) = nI (2 ^ p) := by decide +kernel
theorem ub_all : ∀ n, n ≤ 6 → (1 : Int32) <<< (nI n &&& 31) - 1 = nI (2 ^ n - 1) := by decide +kernel
theorem ub_and : ∀ a, a < 64 → ∀ b, b < 64 → nI a &&& nI b = nI (a &&& b) := by decide +kernel
theorem ub_or : ∀ a, a < 64 → ∀ b, b < 64 → nI a ||| nI b = nI (a ||| b) := by decide +kernel
theorem ub_less : ∀ a, a < 64 → ∀ b, b < 64 → nI a &&& (nI b ^^^ (-1)) = nI (a &&& (63 ^^^ b)) := by decide +kernel
/-- how many bits -/
def ub_ct (u : Nat) : Nat := (if u.testBit 0 then 1 else 0) + (if u.testBit 1 then 1 else 0) + (if u.testBit 2 then 1 else 0) + (if u.testBit 3 then 1 else 0) + (if u.testBit 4 then 1 else 0) + (if u.testBit 5 then 1 else 0)
def xBc (x0 : Int32) : Int32 :=
  let x1 := x0 - ((x0.toUInt32 >>> ((1 : Int32).toUInt32 &&& Int32.toUInt32 31)).toInt32 &&& 1431655765)
  let x2 := (x1 &&& 858993459) + ((x1.toUInt32 >>> ((2 : Int32).toUInt32 &&& Int32.toUInt32 31)).toInt32 &&& 858993459)
  let x3 := (x2 + (x2.toUInt32 >>> ((4 : Int32).toUInt32 &&& Int32.toUInt32 31)).toInt32) &&& 252645135
  let x4 := x3 + (x3.toUInt32 >>> ((8 : Int32).toUInt32 &&& Int32.toUInt32 31)).toInt32
  let x5 := x4 + (x4.toUInt32 >>> ((16 : Int32).toUInt32 &&& Int32.toUInt32 31)).toInt32
  x5 &&& 63
theorem xBc_ct : ∀ u, u < 64 → xBc (nI u) = nI (ub_ct u) := by decide +kernel
def xt_J6_bitCount_0f7a4 : xT := xm_fn (Z := Int32) (fun x av _ => av = [.int x] ∧ True) (fun x _ => some (.int (xBc x))) (fun _ g => g)
set_option maxRecDepth 100000 in
set_option maxHeartbeats 4000000 in
theorem xp_J6_bitCount_0f7a4 {l : Launch} {D : va_G} {cA : Nat → ClassId} {B : List (Nat × Cell)} : xm_Met l D cA B xs_X 0 yJ6_bitCount_0f7a4 cJ6_bitCount_0f7a4 1 (some .int) xt_J6_bitCount_0f7a4 := by
  have hm : xm_monos [] := xm_m0
  refine xm_meth (own := RJ6) (ks := xk_J6_bitCount_0f7a4) (C := xc_J6_bitCount_0f7a4) (Ts := []) (by decide +kernel) rfl xm_clsok xs_X_ok xf_J6_ok xi_J6_ok xj_J6_ok xm_lk0 xo_J6_bitCount_0f7a4 ?_ ?_
  · rintro av g Q ⟨z, ⟨rfl, -⟩, -⟩
    exact Nat.le_of_ble_eq_true rfl
  · rintro av g Q ⟨x, ⟨rfl, -⟩, hQ⟩
    exact xm_run_go hm 50 hQ
theorem ub_lt64 {a : Nat} (h : ∀ i, 6 ≤ i → a.testBit i = false) : a < 64 := by
  have : a < 2 ^ 6 := Nat.lt_pow_two_of_testBit a h
  exact this
theorem ub_tb {a : Nat} (h : a < 64) {i : Nat} (hi : 6 ≤ i) : a.testBit i = false := Nat.testBit_lt_two_pow (Nat.lt_of_lt_of_le h (by rw [show 64 = 2 ^ 6 from rfl]; exact Nat.pow_le_pow_right (by omega) hi))
theorem ub_ext {a b : Nat} (ha : a < 64) (hb : b < 64) (h : ∀ i, i < 6 → a.testBit i = b.testBit i) : a = b := by
  apply Nat.eq_of_testBit_eq
  intro i
  rcases Nat.lt_or_ge i 6 with q | q
  · exact h i q
  · rw [ub_tb ha q, ub_tb hb q]
theorem ub_orlt {a b : Nat} (ha : a < 64) (hb : b < 64) : a ||| b < 64 := Nat.or_lt_two_pow (n := 6) ha hb
theorem ub_andlt {a : Nat} (b : Nat) (ha : a < 64) : a &&& b < 64 := Nat.lt_of_le_of_lt Nat.and_le_left ha
theorem ub_pow {p : Nat} (h : p < 6) : 2 ^ p < 64 := by
  have : 2 ^ p ≤ 2 ^ 5 := Nat.pow_le_pow_right (by omega) (by omega)
  omega
theorem ub_tor (u p i : Nat) : (u ||| 2 ^ p).testBit i = (u.testBit i || decide (p = i)) := by rw [Nat.testBit_or, Nat.testBit_two_pow]
theorem ub_t63 (i : Nat) : (63 : Nat).testBit i = decide (i < 6) := Nat.testBit_two_pow_sub_one 6 i
theorem ub_tless (a b i : Nat) (h : i < 6) : (a &&& (63 ^^^ b)).testBit i = (a.testBit i && !b.testBit i) := by
  rw [Nat.testBit_and, Nat.testBit_xor, ub_t63, decide_eq_true h, Bool.true_xor]
/-- the set of those below n of which it holds -/
noncomputable def uB (P : Nat → Prop) : Nat → Nat
  | 0 => 0
  | n + 1 => @ite _ (P n) (Classical.propDecidable _) (uB P n ||| 2 ^ n) (uB P n)
theorem uB_t {P : Nat → Prop} {n : Nat} (h : P n) : uB P (n + 1) = uB P n ||| 2 ^ n := by simp [uB, h]
theorem uB_f {P : Nat → Prop} {n : Nat} (h : ¬ P n) : uB P (n + 1) = uB P n := by simp [uB, h]
theorem uB_lt {P : Nat → Prop} : ∀ {n : Nat}, n ≤ 6 → uB P n < 64
  | 0, _ => by simp [uB]
  | n + 1, hn => by
    by_cases h : P n
    · rw [uB_t h]; exact ub_orlt (uB_lt (by omega)) (ub_pow (by omega))
    · rw [uB_f h]; exact uB_lt (by omega)
theorem uB_bit {P : Nat → Prop} {i : Nat} : ∀ {n : Nat}, (uB P n).testBit i = true ↔ i < n ∧ P i
  | 0 => by simp [uB]
  | n + 1 => by
    by_cases h : P n
    · rw [uB_t h, ub_tor, Bool.or_eq_true, uB_bit, decide_eq_true_eq]
      constructor
      · rintro (q | q)
        · exact ⟨by omega, q.2⟩
        · rw [← q]; exact ⟨by omega, h⟩
      · intro q
        rcases Nat.lt_or_ge i n with z | z
        · exact Or.inl ⟨z, q.2⟩
        · exact Or.inr (by omega)
    · rw [uB_f h, uB_bit]
      constructor
      · intro q; exact ⟨by omega, q.2⟩
      · intro q
        refine ⟨?_, q.2⟩
        rcases Nat.lt_or_ge i n with z | z
        · exact z
        · exact absurd (by rw [show n = i by omega]; exact q.2) h
theorem vBits_u {P : Nat → Prop} : ∀ {n : Nat}, n ≤ 6 → vBits P n = nI (uB P n)
  | 0, _ => rfl
  | n + 1, hn => by
    have ih := vBits_u (P := P) (n := n) (by omega)
    by_cases h : P n
    · rw [vBits_t h, uB_t h, ih]; exact ub_or1 _ (uB_lt (by omega)) n (by omega)
    · rw [vBits_f h, uB_f h, ih]
theorem uB_cong {P P' : Nat → Prop} {n : Nat} (h : ∀ i, i < n → (P i ↔ P' i)) : uB P n = uB P' n := by
  apply Nat.eq_of_testBit_eq
  intro i
  have : (uB P n).testBit i = true ↔ (uB P' n).testBit i = true := by
    rw [uB_bit, uB_bit]
    exact ⟨fun q => ⟨q.1, (h i q.1).mp q.2⟩, fun q => ⟨q.1, (h i q.1).mpr q.2⟩⟩
  cases h1 : (uB P n).testBit i <;> cases h2 : (uB P' n).testBit i <;> simp_all
def xt_X2_has : xT := xm_fn (Z := Nat × Nat) (fun (u, p) av _ => av = [.int (nI u), .int (nI p)] ∧ u < 64 ∧ p < 6) (fun (u, p) _ => some (.int (if u.testBit p then 1 else 0))) (fun _ g => g)
set_option maxRecDepth 100000 in
set_option maxHeartbeats 4000000 in
theorem xp_X2_has {l : Launch} {D : va_G} {cA : Nat → ClassId} {B : List (Nat × Cell)} : xm_Met l D cA B xs_X 0 yX2_has cX2_has 2 (some .boolean) xt_X2_has := by
  have hm : xm_monos [] := xm_m0
  refine xm_meth (own := RX2) (ks := xk_X2_has) (C := xc_X2_has) (Ts := []) (by decide +kernel) rfl xm_clsok xs_X_ok xf_X2_ok xi_X2_ok xj_X2_ok xm_lk0 xo_X2_has ?_ ?_
  · rintro av g Q ⟨z, ⟨rfl, -⟩, -⟩
    exact Nat.le_of_ble_eq_true rfl
  · rintro av g Q ⟨⟨u, p⟩, ⟨rfl, hu, hp⟩, hQ⟩
    have e := ub_bit u hu p hp
    dsimp only at hQ hu hp
    refine xm_run_go hm 20 ⟨fun q => ⟨Or.inl rfl, ?_⟩, fun q => ⟨Or.inr rfl, ?_⟩⟩
    · rw [e] at q
      rw [if_neg (fun z => q (by rw [if_pos z]))] at hQ
      exact hQ
    · rw [e] at q
      cases z : u.testBit p with
      | true => rw [z] at hQ; exact hQ
      | false => rw [z] at q; exact absurd q (by decide)
