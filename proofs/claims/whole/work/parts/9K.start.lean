-- THE LAW: its start, its loop
theorem z_in {w : Cond} (i : Nat) (h : tables_1[i]? = some w) : w ∈ lw_tbl := List.mem_append_right _ (List.mem_of_getElem? h)
theorem z_ins : ∀ (k : Nat) (q : vw_C), vwCl[k]? = some q → ∃ n, Cond.instantiable q.1 n ∈ lw_tbl
  | 0, _, h => by cases h; exact ⟨4, z_in 378 (by decide +kernel)⟩
  | 1, _, h => by cases h; exact ⟨12, z_in 46 (by decide +kernel)⟩
  | 2, _, h => by cases h; exact ⟨9, z_in 340 (by decide +kernel)⟩
  | 3, _, h => by cases h; exact ⟨11, z_in 213 (by decide +kernel)⟩
  | 4, _, h => by cases h; exact ⟨4, z_in 319 (by decide +kernel)⟩
  | 5, _, h => by cases h; exact ⟨13, z_in 52 (by decide +kernel)⟩
  | 6, _, h => by cases h; exact ⟨2, z_in 29 (by decide +kernel)⟩
  | 7, _, h => by cases h; exact ⟨5, z_in 131 (by decide +kernel)⟩
  | 8, _, h => by cases h; exact ⟨9, z_in 21 (by decide +kernel)⟩
  | 9, _, h => by cases h; exact ⟨65, z_in 1112 (by decide +kernel)⟩
  | _ + 10, _, h => by cases h
theorem z_arr {args : Array Value} {s : State} {t : FieldType} (h : (Cond.arrayClass t).before args s = true) (ht : ∀ c, va_RA s c t = (s.vm.findClass ("[" ++ t.toString) = some c)) : ∃ cA : ClassId, ArrOfT s cA t ∧ va_RA s cA t := by
  obtain ⟨cA, kA, comp, h1, h2, h3⟩ := Cond.arrayClass_spec h
  exact ⟨cA, fun n z => ⟨fun k h => (by cases h), kA, h2, comp, h3⟩, by rw [ht]; exact h1⟩
theorem z_K {args : Array Value} {s : State} (hts0 : ∀ w ∈ lw_tbl, w.before args s = true) : ∃ (D : va_G) (cA : Nat → ClassId), va_K D vwCl (xm_tys cA) s := by
  have hts : ∀ w ∈ xm_tbl, w.before args s = true := fun w hw => hts0 w (List.mem_filter.mp hw).1
  have h0 : ∀ k : Nat, ∃ d : ClassId × (Nat → Nat), ∀ q : vw_C, vwCl[k]? = some q → u_Kn s q.1 q.2.1 q.2.2 d.1 d.2 := fun k => by
    cases hk : vwCl[k]? with
    | none => exact ⟨(0, fun _ => 0), fun q h => by cases h⟩
    | some q =>
      obtain ⟨n, hn⟩ := z_ins k q hk
      obtain ⟨cC, iS, h⟩ := u_known (C := q.1) (T := q.2.1) (N := q.2.2) hts (xm_clsok k q hk).1 (hts0 _ hn)
      exact ⟨(cC, iS), fun q' h' => by cases h'; exact h⟩
  obtain ⟨d, hd⟩ := Classical.axiomOfChoice h0
  obtain ⟨c0, a0⟩ := z_arr (t := .int) (hts0 _ (z_in 129 (by decide +kernel))) (fun _ => rfl)
  obtain ⟨c1, a1⟩ := z_arr (t := .byte) (hts0 _ (z_in 44 (by decide +kernel))) (fun _ => rfl)
  obtain ⟨c2, a2⟩ := z_arr (t := .boolean) (hts0 _ (z_in 397 (by decide +kernel))) (fun _ => rfl)
  obtain ⟨c3, a3⟩ := z_arr (t := .long) (hts0 _ (z_in 155 (by decide +kernel))) (fun _ => rfl)
  refine ⟨(fun k => (d k).1, fun k => (d k).2), fun k => match k with | 0 => c0 | 1 => c1 | 2 => c2 | _ => c3, fun k q hq => hd k q hq, fun k q hq => ?_⟩
  match k, hq with
  | 0, hq => cases hq; exact a0
  | 1, hq => cases hq; exact a1
  | 2, hq => cases hq; exact a2
  | 3, hq => cases hq; exact a3
  | _ + 4, hq => cases hq
-- the constants' texts
def zt_t (i : Nat) : Term := if i = 0 then .string "LanternPeople$Tokens" 79 else .string "LanternPeople$Tokens" 57
def zt_o (i : Nat) : Nat := if i = 0 then 9 else 173
def zt_F : List Cond := flatC (Jvm.Cond.and given_1 narrow_1)
set_option maxRecDepth 100000 in
theorem zt_1 : ((List.range 2).all fun i => decide (zt_F[zt_o i]? = some (Cond.exactly (zt_t i) "java/lang/String")) && (decide (zt_F[zt_o i + 1]? = some (Cond.eq (.field (zt_t i) "java/lang/String" "coder" "B") (.int 0))) && (decide (zt_F[zt_o i + 2]? = some (Cond.arrayOf (.field (zt_t i) "java/lang/String" "value" "[B") .byte)) && (decide (zt_F[zt_o i + 3]? = some (Cond.eq (.length (.field (zt_t i) "java/lang/String" "value" "[B")) (.int (Int32.ofNat (xm_ln.getD i 0))))) && (List.range (xm_ln.getD i 0)).all fun j => decide (zt_F[zt_o i + 4 + j]? = some (Cond.eq (.elem (.field (zt_t i) "java/lang/String" "value" "[B") (.int (Int32.ofNat j))) (.int ((xm_by.getD i []).getD j 0)))))))) = true := by decide +kernel
set_option maxRecDepth 100000 in
theorem zt_2 : zt_F[186]? = some (Cond.not (Cond.eq (zt_t 0) (zt_t 1))) ∧ zt_F[4]? = some (Cond.eq (.static (xm_sst 0).1 (xm_sst 0).2.1 (xm_sst 0).2.2) (.int 1)) ∧ zt_F[5]? = some (Cond.isRef (.static (xm_sst 1).1 (xm_sst 1).2.1 (xm_sst 1).2.2)) := by decide +kernel
theorem z_Bq {b : Nat} {s : State} (hts0 : ∀ w ∈ lw_tbl, w.before #[Value.ref b] s = true) (hgv : (Jvm.Cond.and given_1 narrow_1).before #[Value.ref b] s = true) : ∃ sa : Nat → Nat, xm_Bq sa (zA s) s s.heap := by
  have hf : ∀ c ∈ zt_F, c.before #[Value.ref b] s = true := flat_of_before _ hgv
  have hg : ∀ (k : Nat) (c : Cond), zt_F[k]? = some c → c.before #[Value.ref b] s = true := fun k c h => hf c (List.mem_of_getElem? h)
  have h1 := zt_1
  rw [List.all_eq_true] at h1
  have h1 : ∀ i, i < 2 → _ := fun i hi => h1 i (List.mem_range.mpr hi)
  simp only [Bool.and_eq_true, decide_eq_true_eq, List.all_eq_true, List.mem_range] at h1
  obtain ⟨n1, n2, n3⟩ := zt_2
  have hA : ∀ a : Nat, a < s.heap.size → ¬ zA s a := fun a h => Nat.not_le.mpr h
  obtain ⟨adK, adV, hS, hE⟩ := vk_Sof (args := #[Value.ref b]) (s := s) (N := 2) (tm := zt_t) (len := xm_ln) (byt := xm_by) (A := zA s) (fun i _ => xm_ln_b i) (fun i hi => hg _ _ (h1 i hi).1) (fun i hi => hg _ _ (h1 i hi).2.1) (fun i hi => hg _ _ (h1 i hi).2.2.1) (fun i hi => hg _ _ (h1 i hi).2.2.2.1) (fun i hi j hj => hg _ _ ((h1 i hi).2.2.2.2 j hj))
    (fun i j hi hj hij => by
      rcases (show (i = 0 ∧ j = 1) ∨ (i = 1 ∧ j = 0) by omega) with ⟨rfl, rfl⟩ | ⟨rfl, rfl⟩
      · exact Or.inl (hg _ _ n1)
      · exact Or.inr (hg _ _ n1)) hA
  have z0 : va_Z (xm_sst 0).1 (xm_sst 0).2.1 (xm_sst 0).2.2 (.int 1) (zA s) s s.heap := va_Zof (hts0 _ (z_in 489 (by decide +kernel))) (hts0 _ (z_in 13 (by decide +kernel))) (va_eqt (hg _ _ n2)) hA
  have z1 : va_Zq (xm_sst 1).1 (xm_sst 1).2.1 (xm_sst 1).2.2 (zA s) s s.heap := va_Zqof (hts0 _ (z_in 497 (by decide +kernel))) (hts0 _ (z_in 15 (by decide +kernel))) (hg _ _ n3) hA
  obtain ⟨t, z1⟩ : ∃ t : Nat, va_Z (xm_sst 1).1 (xm_sst 1).2.1 (xm_sst 1).2.2 .null (zA s) s s.heap ∨ va_Z (xm_sst 1).1 (xm_sst 1).2.1 (xm_sst 1).2.2 (.ref t) (zA s) s s.heap := by
    rcases z1 with z | ⟨t, z⟩
    · exact ⟨0, Or.inl z⟩
    · exact ⟨t, Or.inr z⟩
  have e1 : ∀ i, i < 2 → (fun k => if k < 2000 then adK (k - 1000) else if k < 3000 then adV (k - 2000) else t) (1000 + i) = adK i := fun i hi => by
    show (if 1000 + i < 2000 then adK (1000 + i - 1000) else _) = _
    rw [if_pos (by omega), Nat.add_sub_cancel_left]
  have e2 : ∀ i, i < 2 → (fun k => if k < 2000 then adK (k - 1000) else if k < 3000 then adV (k - 2000) else t) (2000 + i) = adV i := fun i hi => by
    show (if 2000 + i < 2000 then _ else if 2000 + i < 3000 then adV (2000 + i - 2000) else _) = _
    rw [if_neg (by omega), if_pos (by omega), Nat.add_sub_cancel_left]
  have e3 : (fun k => if k < 2000 then adK (k - 1000) else if k < 3000 then adV (k - 2000) else t) 3000 = t := rfl
  generalize (fun k => if k < 2000 then adK (k - 1000) else if k < 3000 then adV (k - 2000) else t) = sa at e1 e2 e3
  refine ⟨sa, ⟨fun i hi => ?_, fun i j hi hj h => hS.2 i j hi hj ?_⟩, fun q hq => ?_, z0, by rw [e3]; exact z1⟩
  · show va_O _ (sa (1000 + i)) _ _ _ ∧ va_OF _ _ _ _ (sa (1000 + i)) _ _ _ ∧ va_OF _ _ _ (.ref (sa (2000 + i))) (sa (1000 + i)) _ _ _ ∧ va_T _ (sa (2000 + i)) _ _ _ _ _
    rw [e1 i hi, e2 i hi]
    exact hS.1 i hi
  · rw [← e1 i hi, ← e1 j hj]; exact h
  · have hq2 : q = ("LanternPeople$Tokens", 79, 0, "slide   person  shown   takes   fades   pays    washes  seed    if      then    else    glow    warm    bright  week    seat    joins   which   others  slides  ") ∨ q = ("LanternPeople$Tokens", 57, 1, ";=+-*/<()") := by
      simpa [xm_strs] using hq
    rcases hq2 with rfl | rfl
    · show vk_R _ _ _ (sa (1000 + 0)) s
      rw [e1 0 (by omega)]
      exact vk_R.of (A := #[Value.ref b]) (hts0 _ (z_in 479 (by decide +kernel))) (hE 0 (by omega))
    · show vk_R _ _ _ (sa (1000 + 1)) s
      rw [e1 1 (by omega)]
      exact vk_R.of (A := #[Value.ref b]) (hts0 _ (z_in 529 (by decide +kernel))) (hE 1 (by omega))
theorem z_N {args : Array Value} {s : State} (hts0 : ∀ w ∈ lw_tbl, w.before args s = true) : y8_N s :=
  ⟨va_Nw.of rfl (hts0 _ (z_in 30 (by decide +kernel))), va_Nw.of rfl (hts0 _ (z_in 195 (by decide +kernel))), va_Nw.of rfl (hts0 _ (z_in 320 (by decide +kernel))), va_Nw.of rfl (hts0 _ (z_in 341 (by decide +kernel))), va_Nw.of rfl (hts0 _ (z_in 379 (by decide +kernel))), va_Nw.of rfl (hts0 _ (z_in 53 (by decide +kernel)))⟩
theorem y8_N.warm {s U : State} (hW : s.WarmedH U.vm) (h : y8_N s) : y8_N U := ⟨va_Nw.warmM hW h.1, va_Nw.warmM hW h.2.1, va_Nw.warmM hW h.2.2.1, va_Nw.warmM hW h.2.2.2.1, va_Nw.warmM hW h.2.2.2.2.1, va_Nw.warmM hW h.2.2.2.2.2⟩
theorem y8_N.same {s U : State} (hv : s.vm = U.vm) (h : y8_N s) : y8_N U := ⟨va_Nw.same rfl hv h.1, va_Nw.same rfl hv h.2.1, va_Nw.same rfl hv h.2.2.1, va_Nw.same rfl hv h.2.2.2.1, va_Nw.same rfl hv h.2.2.2.2.1, va_Nw.same rfl hv h.2.2.2.2.2⟩
theorem xm_Bq.same {sa : Nat → Nat} {A : Nat → Prop} {u U : State} {H : Heap} (hv : U.vm = u.vm) (h : xm_Bq sa A u H) : xm_Bq sa A U H := by
  have ha : u.vm.Alike U.vm := by rw [hv]; exact Vm.Alike.refl _
  exact ⟨h.1.moved ha, fun q hq => (h.2.1 q hq).same hv, h.2.2.1.moved ha, h.2.2.2.imp (fun z => z.moved ha) (fun z => z.moved ha)⟩
theorem y8_blind {D : va_G} {cA : Nat → ClassId} {sa : Nat → Nat} {sz a0 : Nat} : FrameBlind (y8_Pre D cA sa sz a0) := fun a U g mk q => by
  obtain ⟨q0, q1, qP, qK, qB, qN⟩ := q
  exact ⟨q0, q1, qP, va_K.moved (u := U) (U := U.calling g mk a) (Vm.Alike.refl U.vm) qK, xm_Bq.same (u := U) (U := U.calling g mk a) rfl qB, y8_N.same (s := U) (U := U.calling g mk a) rfl qN⟩
theorem y9_blind {D : va_G} {cA : Nat → ClassId} {sa : Nat → Nat} {sz a0 : Nat} : FrameBlind (y9_Pre D cA sa sz a0) := fun a U g mk q => by
  obtain ⟨q0, q1, qP, qK, qB⟩ := q
  exact ⟨q0, q1, qP, va_K.moved (u := U) (U := U.calling g mk a) (Vm.Alike.refl U.vm) qK, xm_Bq.same (u := U) (U := U.calling g mk a) rfl qB⟩
section
variable {p : Program} {l : Launch} {e : Env} {R : Room} {s : State} {m : MethodId} {args : Array Value} {below : List Frame} {meth : Method} {c : Code} {H : Heap} {locs : List Loc} {cells slots mc ms : Nat} {Q : State → Prop}
variable {pc : Nat} {ls : Array Slot} {rest st0 : List Value} {A : Nat → Prop} {H0 : Heap} {D : va_G} {cA : Nat → ClassId}
theorem z_init {Qa : State → Outcome → State → Prop} {sa : Nat → Nat} {S : List xC} {P : xG → Prop} {ws : va_W} {x : va_E} {q : Nat} (hr : va_Run p l e R s m args below meth c H locs cells slots mc ms (F0 m pc ls st0) rest Qa (yi_A q H.size))
    (hQ : ∀ st oc t, Qa st oc t → (∃ (ad : Nat → Nat) (g : xG), ad 0 = q ∧ oc = .returned none ∧ (∀ k, 1000 ≤ k → ad k = sa k) ∧ P g ∧ va_P D vwCl (xm_ws ad cA g S) t.heap ∧ va_D (yi_A q H.size) (xm_ws ad cA g S)) ∧ va_F (yi_A q H.size) st t) (hP : va_P D vwCl (ws ++ [(q, x)]) H) (hD : va_D A (ws ++ [(q, x)])) (hS : va_S A H0 H locs) (hA : ∀ z, H0.size ≤ z → A z)
    (kk : ∀ (ad : Nat → Nat) (g : xG) (H1 : Heap) (locs1 : List Loc), ad 0 = q → (∀ k, 1000 ≤ k → ad k = sa k) → P g → va_P D vwCl (ws ++ xm_ws ad cA g S) H1 → va_D A (ws ++ xm_ws ad cA g S) → va_S A H0 H1 locs1 → W p l e R s m args below meth c H1 locs1 (cells + mc) (slots + ms) Q (F0 m (pc + 3) ls rest)) : W p l e R s m args below meth c H locs cells slots Q (F0 m pc ls st0) := by
  have atq : (ws ++ [(q, x)])[ws.length]? = some (q, x) := by
    rw [List.getElem?_append_right (Nat.le_refl _), Nat.sub_self]; rfl
  have hq : A q := hD.2 _ _ atq
  have hA1 : ∀ z, yi_A q H.size z → A z := fun z h => by
    rcases h with h | h
    · rw [h]; exact hq
    · exact hA _ (Nat.le_trans hS.1 h)
  refine yc_call hr hS (A1 := yi_A q H.size) (fun st₀ o t h => (hQ _ _ _ h).2) (fun z _ h => hA1 z h) hA1 (fun o st₀ t locs1 h0 hq' hS1 => ?_)
  obtain ⟨⟨ad, g, e0, eo, es, hp, hP1, hD1⟩, hF⟩ := hQ _ _ _ hq'
  cases eo
  have hk : ∀ z : Nat, z < H.size → ¬ yi_A q H.size z → t.heap[z]? = H[z]? := fun z h1 h2 => by
    have := hF.2 z (by rw [h0]; exact h1) h2
    rw [h0] at this
    exact this
  obtain ⟨j1, j2⟩ := yc_join hP hD (fun z hz => hA z (Nat.le_trans hS.1 hz)) hk hP1 hD1
  exact kk ad g t.heap locs1 e0 es hp j1 j2 hS1
end
-- the loop
def zl_os : Array Int := #[183, 246, 269, 282, 295, 328, 361, 394, 437, 470, 493, 526, 549, 582, 605, 618, 641, 654, 667, 690, 723, 746, 769, 802, 835, 858, 881, 904, 927, 940, 963, 976, 999, 1032, 1055, 1098, 1157, 1170, 1203, 1236, 1259, 1282]
set_option maxRecDepth 100000 in
theorem zd_s : decode code 33 = .ok (.tableswitch 1305 0 41 zl_os, 183) := by decide +kernel
theorem zd_o : ∀ j, j < 42 → zl_os[j]? = some (((zl_ps.getD j 0 : Nat) : Int) - 33) := by decide +kernel
set_option maxRecDepth 100000 in
theorem zd_l : decode code 18 = .ok (.iload_n 3, 1) ∧ decode code 19 = .ok (.aload_n 0, 1) ∧ decode code 20 = .ok (.arraylength, 1) ∧ decode code 21 = .ok (.bipush 6, 2) ∧ decode code 23 = .ok (.isub, 1) ∧ decode code 24 = .ok (.if_icmp .gt 1320, 3) ∧ decode code 27 = .ok (.aload_n 0, 1) ∧ decode code 28 = .ok (.iload_n 3, 1) ∧ decode code 29 = .ok (.iaload, 1) ∧ decode code 30 = .ok (.bipush 63, 2) ∧ decode code 32 = .ok (.iand, 1) ∧ decode code 1338 = .ok (.iinc 3 6, 3) ∧ decode code 1341 = .ok (.goto (-1323), 3) ∧ decode code 1344 = .ok (.iconst 1, 1) ∧ decode code 1345 = .ok (.ireturn, 1) := by decide +kernel
theorem zl_neg : ∀ L, L < 6 → Int32.ofNat L - 6 < 0 := by decide +kernel
theorem zl_gt {L i : Nat} (hL : L ≤ 3072) (hi : i ≤ L) : Int32.ofNat L - 6 < nI i ↔ L < i + 6 := by
  by_cases h : 6 ≤ L
  · obtain ⟨k, rfl⟩ : ∃ k, L = k + 6 := ⟨L - 6, by omega⟩
    have e1 : Int32.ofNat (k + 6) - 6 = nI k := by
      show nI (k + 6) - nI 6 = nI k
      rw [← nI_add, Int32.add_sub_cancel]
    rw [e1, nI_ltI (by omega) (by omega)]
    omega
  · have h1 := zl_neg L (by omega)
    have h2 : (0 : Int32) ≤ nI i := nI_pos' (by omega)
    exact ⟨fun _ => by omega, fun _ => Int32.lt_iff_toInt_lt.mpr (Int.lt_of_lt_of_le (Int32.lt_iff_toInt_lt.mp h1) (Int32.le_iff_toInt_le.mp h2))⟩
theorem zl_loop {p : Program} {l : Launch} {e : Env} {s : State} {m : MethodId} {below : List Frame} {meth : Method} {c : Code} {D : va_G} {cA : Nat → ClassId} {sa : Nat → Nat} {b L q8 q9 : Nat} {xs : Nat → Int32} (F : zF p s m meth c b L xs D cA sa) : ∀ (n i : Nat) (σ : vS) (H : Heap) (locs : List Loc) (ls : Array Slot), i ≤ L → L + 1 ≤ i + n → zB σ → zW D cA sa s q8 q9 (xTop σ) (mTop σ) H locs → zLs b q8 q9 i ls → zG p l e s m below meth c b H locs 18 ls [] := by
  obtain ⟨d18, d19, d20, d21, d23, d24, d27, d28, d29, d30, d32, d1338, d1341, d1344, d1345⟩ := zd_l
  have FF := F
  obtain ⟨⟨hx, hb, hr, hml, hown, hts0, hX, hbl, hlocks, hgv⟩, hL, hK, hB⟩ := F
  have hbA : ¬ zA s b := Nat.not_le.mpr hbl
  intro n
  induction n with
  | zero =>
    intro i σ H locs ls h1 h2
    exact absurd h2 (by omega)
  | succ n ih =>
    intro i σ H locs ls h1 h2 hbt hw hl
    obtain ⟨-, -, -, -, -, -, hS, -⟩ := id hw
    refine lv_iload_n hx hb d18 rfl (lv_at hl 3 rfl) (lv_aload_n hx hb d19 rfl (lv_at hl 0 rfl) (va_slen hx hb hX hbl hbA hS d20 (lv_bipush (v := 6) hx hb d21 (by decide) (lv_isub hx hb d23 ?_))))
    refine lv_icmp_gt (tgt := 1344) hx hb d24 (by decide) (fun _ => ?_) (fun z => ?_)
    · refine lv_iconst (v := 1) hx hb d1344 (by decide) ?_
      refine va_forget (fun q hq => hS.2.2 q hq) ?_
      refine W.widen (k := 600000) (n := 7302250) (Nat.le_of_ble_eq_true rfl) (Nat.le_of_ble_eq_true rfl) ?_
      exact lw_ret hx hb hr hlocks d1345
    · have hi : i + 6 ≤ L := by
        rcases Nat.lt_or_ge L (i + 6) with q | q
        · exact absurd ((zl_gt hL h1).mpr q) z
        · exact q
      refine lv_aload_n hx hb d27 rfl (lv_at hl 0 rfl) (lv_iload_n hx hb d28 rfl (lv_at hl 3 rfl) (va_sld hx hb hX hbl hbA hS (vp_in_nI (by omega) (by omega)) d29 (lv_bipush (v := 63) hx hb d30 (by decide) (lv_iand hx hb d32 ?_))))
      generalize xs (nI i).toNatClampNeg &&& 63 = x
      have key : ∀ (σ' : vS) (H : Heap) (locs : List Loc), zB σ' → zW D cA sa s q8 q9 (xTop σ') (mTop σ') H locs → zG p l e s m below meth c b H locs 1338 ls [] := fun σ' H locs hbt hw =>
        lv_iinc (v := nI (i + 6)) (lv' := [(3, .int (nI (i + 6))), (0, .ref b), (1, .ref q8), (2, .ref q9)]) hx hb d1338 hl (k := 3) rfl (nI_add i 6) (by decide) rfl (fun ls hl => lv_goto (tgt := 18) hx hb d1341 (by decide) (ih (i + 6) σ' H locs ls hi (by omega) hbt hw (lv_sub hl [1, 2, 3, 0] rfl)))
      by_cases c1 : x.toInt < 0 ∨ 41 < x.toInt
      · exact lv_tableOut (tgt := 1338) hx hb zd_s c1 (by decide) (key σ H locs hbt hw)
      · obtain ⟨j, hj, ej⟩ : ∃ j : Nat, j < 42 ∧ x.toInt = (j : Int) := ⟨x.toInt.toNat, by omega, by omega⟩
        refine lv_tableIn (tgt := zl_ps.getD j 0) (off := ((zl_ps.getD j 0 : Nat) : Int) - 33) hx hb zd_s (by omega) (by omega) (by
          rw [ej, show ((j : Int) - 0).toNat = j by omega]
          exact zd_o j hj) (by omega) ?_
        exact zl_all FF hi j hj σ H locs ls hbt hw hl key
