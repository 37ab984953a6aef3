-- THE LAW: a call on the class, a call on the reference
def zA (s : State) : Nat → Prop := fun q => s.heap.size ≤ q
def zW (D : va_G) (cA : Nat → ClassId) (sa : Nat → Nat) (s : State) (q8 q9 : Nat) (Px Pm : xG → Prop) (H : Heap) (locs : List Loc) : Prop :=
  ∃ (adX : Nat → Nat) (gx : xG) (adM : Nat → Nat) (gm : xG), va_P D vwCl (xm_ws adM cA gm xs_M ++ xm_ws adX cA gx xs_X) H ∧ va_D (zA s) (xm_ws adM cA gm xs_M ++ xm_ws adX cA gx xs_X) ∧ va_S (zA s) s.heap H locs ∧ (∀ k, 1000 ≤ k → adX k = sa k) ∧ (∀ k, 1000 ≤ k → adM k = sa k) ∧ adX 0 = q8 ∧ adM 0 = q9 ∧ Px gx ∧ Pm gm
def zF (p : Program) (s : State) (m : MethodId) (meth : Method) (c : Code) (b L : Nat) (xs : Nat → Int32) (D : va_G) (cA : Nat → ClassId) (sa : Nat → Nat) : Prop :=
  lw_At p s m meth c b L xs ∧ L ≤ 3072 ∧ va_K D vwCl (xm_tys cA) s ∧ xm_Bq sa (zA s) s s.heap
def zLs (b q8 q9 i : Nat) (ls : Array Slot) : Prop := lv_has ls 4 [(0, .ref b), (1, .ref q8), (2, .ref q9), (3, .int (nI i))]
abbrev zG (p : Program) (l : Launch) (e : Env) (s : State) (m : MethodId) (below : List Frame) (meth : Method) (c : Code) (b : Nat) (H : Heap) (locs : List Loc) (pc : Nat) (ls : Array Slot) (st : List Value) : Prop :=
  W p l e room_1 s m #[Value.ref b] below meth c H locs 102 17839 (lw_Z below #[Value.ref b] s) (F0 m pc ls st)
def zl_cx (pc : Nat) (ks : List (Nat × Bool)) (idx : Nat) : Bool := decide (decode code pc = .ok (.aload_n 1, 1)) && (zl_ck (pc + 1) ks && decide (decode code (zl_end (pc + 1) ks) = .ok (.invokevirtual idx, 3)))
def zl_cm (pc : Nat) (ks : List (Nat × Bool)) (idx : Nat) : Bool := decide (decode code pc = .ok (.aload_n 2, 1)) && (zl_ck (pc + 1) ks && (decide (decode code (zl_end (pc + 1) ks) = .ok (.invokevirtual idx, 3)) && decide (decode code (zl_end (pc + 1) ks + 3) = .ok (.if_icmp .eq (1338 - ((zl_end (pc + 1) ks + 3 : Nat) : Int)), 3))))
theorem zl_cv (ad : Nat → Nat) (xs : Nat → Int32) (i : Nat) : ∀ ks : List (Nat × Bool), (zl_ar xs i ks).map (xm_cv ad) = zl_ar xs i ks
  | [] => rfl
  | k :: r => congrArg (fun z => Value.int (zl_v xs i k) :: z) (zl_cv ad xs i r)
theorem zl_dn {d : String} {n : Nat} (h : (parseMethodDescriptor d).map (fun d => d.parameters.length + 1) = some (n + 1)) : (parseMethodDescriptor d).map (fun d => d.parameters.length) = some n := by
  cases hp : parseMethodDescriptor d with
  | none => rw [hp] at h; cases h
  | some q =>
    rw [hp] at h
    simp only [Option.map_some, Option.some.injEq] at h ⊢
    omega
theorem zl_al (xs : Nat → Int32) (i : Nat) (ks : List (Nat × Bool)) : (zl_ar xs i ks).length = ks.length := by simp only [zl_ar, List.length_map]
theorem zs_P {D : va_G} {H : Heap} {Y Z : va_W} (h : va_P D vwCl (Y ++ Z) H) : va_P D vwCl (Z ++ Y) H := by
  have h1 := ys_P (X := []) (Y := Y) (Z := Z) (D := D) (H := H) (by rw [List.nil_append]; exact h)
  rw [List.nil_append] at h1
  exact h1
theorem zs_D {A : Nat → Prop} {Y Z : va_W} (h : va_D A (Y ++ Z)) : va_D A (Z ++ Y) := by
  have h1 := ys_D (X := []) (Y := Y) (Z := Z) (A := A) (by rw [List.nil_append]; exact h)
  rw [List.nil_append] at h1
  exact h1
section
variable {p : Program} {l : Launch} {e : Env} {s : State} {m : MethodId} {below : List Frame} {meth : Method} {c : Code} {H : Heap} {locs : List Loc}
variable {ls : Array Slot} {D : va_G} {cA : Nat → ClassId} {sa : Nat → Nat} {b L i q8 q9 : Nat} {xs : Nat → Int32}
theorem zF.ts (F : zF p s m meth c b L xs D cA sa) : ∀ w ∈ xm_tbl, w.before #[Value.ref b] s = true := fun w hw => F.1.2.2.2.2.2.1 w (List.mem_filter.mp hw).1
/-- a method called on a part of the world that stands last, in the law -/
theorem zl_call (F : zF p s m meth c b L xs D cA sa) {S : List xC} {ci idx n pc r maxL : Nat} {y : MethodName} {bytes : ByteArray} {ret : Option FieldType} {T : xT} {X : va_W} {ad : Nat → Nat} {g : xG} {As rest : List Value} {Qx : Option Value → xG → Prop} (hM : xm_Met l D cA [] S r y bytes maxL ret T) (hk : xm_ML RL (idx, 0, n + 1, ci) y bytes maxL ret) (hr : r ≤ 20) (hn : As.length = n) (hcv : As.map (xm_cv ad) = As) (hT : T (.ref 0 :: As) g Qx) (h0 : ∃ fk, S[0]? = some (.inr (ci, fk))) (hls : ls.size = 4)
    (hP : va_P D vwCl (X ++ xm_ws ad cA g S) H) (hD : va_D (zA s) (X ++ xm_ws ad cA g S)) (hS : va_S (zA s) s.heap H locs) (ea : ∀ k, 1000 ≤ k → ad k = sa k) (hrest : (rest.map fun v => v.category).sum ≤ 8) (hdg : decode code pc = .ok (.invokevirtual idx, 3))
    (kk : ∀ (o : Option Value) (g1 : xG) (H1 : Heap) (locs1 : List Loc), Qx o g1 → va_P D vwCl (X ++ xm_ws ad cA g1 S) H1 → va_D (zA s) (X ++ xm_ws ad cA g1 S) → va_S (zA s) s.heap H1 locs1 → zG p l e s m below meth c b H1 locs1 (pc + 3) ls ((o.map (xm_cv ad)).toList ++ rest)) : zG p l e s m below meth c b H locs pc ls (As.reverse ++ .ref (ad 0) :: rest) := by
  have hts := F.ts
  obtain ⟨⟨hx, hb, hr0, hml, hown, hts0, hX, hbl, hlocks, hgv⟩, hL, hK, hB⟩ := F
  have hA : ∀ z, s.heap.size ≤ z → zA s z := fun _ h => h
  obtain ⟨⟨w1, w2, w0, hm41⟩, ⟨n1, n2⟩, w5⟩ := hk
  rcases w5 with ⟨-, hd, w3, w4, ⟨C, T0, N⟩, hcq, hcc⟩ | ⟨h, -⟩ | ⟨h, -⟩
  · have hd2 := zl_dn hd
    rw [← hn] at hd2
    have k1 := zs_call (p := p) (l := l) (e := e) (R := room_1) (s := s) (m := m) (args := #[Value.ref b]) (below := below) (meth := meth) (c := c) (cells := 102) (slots := 17839) (Q := lw_Z below #[Value.ref b] s) (A := zA s) (H0 := s.heap) (cc := code) (own := RL) (S := S) (X := X) (ad := ad) (g := g) (b := 0) (As := As) (rest := rest) (ci := ci) (nL := 4) (pc := pc) (Qx := Qx) hx hb hml hls hts hown hK hP hD hS hA hM hT (fun U hU hW => hB.call hS hW hU hA hD ea) h0 hcq w0 w1 w2 w3 w4 hcc ⟨n1, n2, hd2⟩ ⟨show r + 1 ≤ 2048 by omega, show 8 + (maxL + 11) + 60 * r ≤ 84000 by omega⟩ (by omega) ⟨Nat.le_of_ble_eq_true rfl, Nat.le_of_ble_eq_true rfl⟩ hdg kk
    rw [hcv] at k1
    exact k1
  · exact absurd (show (0 : Nat) = 1 from h) (by decide)
  · exact absurd (show (0 : Nat) = 3 from h) (by decide)
/-- the class is asked -/
theorem zl_x (F : zF p s m meth c b L xs D cA sa) {ks : List (Nat × Bool)} {idx pc pc' r maxL : Nat} {y : MethodName} {bytes : ByteArray} {ret : Option FieldType} {T : xT} {Px Px' Pm : xG → Prop} {a : Int32} (hM : xm_Met l D cA [] xs_X r y bytes maxL ret T) (hk : xm_ML RL (idx, 0, ks.length + 1, 8) y bytes maxL ret) (hr : r ≤ 20) (hT : ∀ g, Px g → T (.ref 0 :: zl_ar xs i ks) g (fun o g' => o = some (.int a) ∧ Px' g')) (hc : zl_cx pc ks idx = true) (hp : zl_end (pc + 1) ks + 3 = pc') (hi : i + 6 ≤ L) (hki : ∀ k ∈ ks, k.1 ≤ 5)
    (hw : zW D cA sa s q8 q9 Px Pm H locs) (hl : zLs b q8 q9 i ls) (kk : ∀ (H : Heap) (locs : List Loc), zW D cA sa s q8 q9 Px' Pm H locs → zG p l e s m below meth c b H locs pc' ls [.int a]) : zG p l e s m below meth c b H locs pc ls [] := by
  subst hp
  have FF := F
  obtain ⟨⟨hx, hb, hr0, hml, hown, hts0, hX, hbl, hlocks, hgv⟩, hL, hK, hB⟩ := F
  have hbA : ¬ zA s b := Nat.not_le.mpr hbl
  obtain ⟨adX, gx, adM, gm, hP, hD, hS, eX, eM, e8, e9, hpx, hpm⟩ := hw
  simp only [zl_cx, Bool.and_eq_true, decide_eq_true_eq] at hc
  obtain ⟨d0, dk, d1⟩ := hc
  subst e8
  refine lv_aload_n hx hb d0 rfl (lv_at hl 1 rfl) ?_
  refine zl_args hx hb hX hbl hbA hS (lv_at hl 0 rfl) (lv_at hl 3 rfl) (by omega) ks (pc + 1) _ dk (fun k hk => by have := hki k hk; omega) ?_
  refine zl_call FF hM hk hr (zl_al xs i ks) (zl_cv adX xs i ks) (hT gx hpx) ⟨_, rfl⟩ hl.1 hP hD hS eX (Nat.zero_le _) d1 (fun o g1 H1 locs1 hq hP1 hD1 hS1 => ?_)
  obtain ⟨rfl, hq⟩ := hq
  exact kk H1 locs1 ⟨adX, g1, adM, gm, hP1, hD1, hS1, eX, eM, rfl, e9, hq, hpm⟩
/-- the reference is asked, and answers alike -/
theorem zl_m (F : zF p s m meth c b L xs D cA sa) {ks : List (Nat × Bool)} {idx pc r maxL : Nat} {y : MethodName} {bytes : ByteArray} {ret : Option FieldType} {T : xT} {Px Pm Pm' : xG → Prop} {a : Int32} (hM : xm_Met l D cA [] xs_M r y bytes maxL ret T) (hk : xm_ML RL (idx, 0, ks.length + 1, 9) y bytes maxL ret) (hr : r ≤ 20) (hT : ∀ g, Pm g → T (.ref 0 :: zl_ar xs i ks) g (fun o g' => o = some (.int a) ∧ Pm' g')) (hc : zl_cm pc ks idx = true) (hi : i + 6 ≤ L) (hki : ∀ k ∈ ks, k.1 ≤ 5)
    (hw : zW D cA sa s q8 q9 Px Pm H locs) (hl : zLs b q8 q9 i ls) (kk : ∀ (H : Heap) (locs : List Loc), zW D cA sa s q8 q9 Px Pm' H locs → zG p l e s m below meth c b H locs 1338 ls []) : zG p l e s m below meth c b H locs pc ls [.int a] := by
  have FF := F
  obtain ⟨⟨hx, hb, hr0, hml, hown, hts0, hX, hbl, hlocks, hgv⟩, hL, hK, hB⟩ := F
  have hbA : ¬ zA s b := Nat.not_le.mpr hbl
  obtain ⟨adX, gx, adM, gm, hP, hD, hS, eX, eM, e8, e9, hpx, hpm⟩ := hw
  simp only [zl_cm, Bool.and_eq_true, decide_eq_true_eq] at hc
  obtain ⟨d0, dk, d1, d2⟩ := hc
  subst e9
  have hP2 : va_P D vwCl (xm_ws adX cA gx xs_X ++ xm_ws adM cA gm xs_M) H := zs_P hP
  have hD2 : va_D (zA s) (xm_ws adX cA gx xs_X ++ xm_ws adM cA gm xs_M) := zs_D hD
  refine lv_aload_n hx hb d0 rfl (lv_at hl 2 rfl) ?_
  refine zl_args hx hb hX hbl hbA hS (lv_at hl 0 rfl) (lv_at hl 3 rfl) (by omega) ks (pc + 1) _ dk (fun k hk => by have := hki k hk; omega) ?_
  refine zl_call FF hM hk hr (zl_al xs i ks) (zl_cv adM xs i ks) (hT gm hpm) ⟨_, rfl⟩ hl.1 hP2 hD2 hS eM (Nat.le_of_ble_eq_true rfl) d1 (fun o g1 H1 locs1 hq hP1 hD1 hS1 => ?_)
  obtain ⟨rfl, hq⟩ := hq
  refine lv_icmp_eq (x := a) (y := a) (tgt := 1338) hx hb d2 (by omega) (fun _ => ?_) (fun z => absurd rfl z)
  exact kk H1 locs1 ⟨adX, gx, adM, g1, zs_P hP1, zs_D hD1, hS1, eX, eM, e8, rfl, hpx, hq⟩
-- READING
theorem zW_i (ad : Nat → Nat) (cA : Nat → ClassId) (g : xG) : xm_ws ad cA (xGz 29 38 g) xs_R = xm_ws ad cA g xs_X := List.ext_getElem? (fun k => xW_i ad cA g k)
def zPi (n k : Nat) : Nat := if k < n then k else n + xPi (k - n)
theorem zPi_i (n : Nat) : ∀ i j, zPi n i = zPi n j → i = j := by
  intro i j h
  unfold zPi xPi at h
  by_cases a1 : i < n <;> by_cases b1 : j < n <;> simp only [a1, b1, if_true, if_false] at h <;> (repeat' split at h) <;> omega
theorem zPi_at {X : va_W} (ad : Nat → Nat) (cA : Nat → ClassId) (g : xG) (k : Nat) : (X ++ xm_ws (fun i => ad (xPi i)) cA g xs_X)[k]? = (X ++ xm_ws ad cA (xGz 38 29 (xGp g)) xs_R)[zPi X.length k]? := by
  unfold zPi
  by_cases h : k < X.length
  · rw [if_pos h, List.getElem?_append_left h, List.getElem?_append_left h]
  · rw [if_neg h, List.getElem?_append_right (by omega), List.getElem?_append_right (by omega), Nat.add_sub_cancel_left]
    exact (xW_p ad cA g (k - X.length)).symm
theorem zTop_z {σ : vS} {g : xG} (h : xTop σ g) : xTop σ (xGz 29 38 g) := h.Q ⟨fun _ _ => rfl, rfl⟩
theorem zl_xr (F : zF p s m meth c b L xs D cA sa) {σ : vS} {Pm : xG → Prop} (hk : xm_ML RL (23, 0, 0 + 1, 8) yX8_read cX8_read 2 (some .int)) (hc : zl_cx 302 [] 23 = true) (hbt : xBt (sN σ) (sB σ))
    (hw : zW D cA sa s q8 q9 (xTop σ) Pm H locs) (hl : zLs b q8 q9 i ls) (kk : ∀ (H : Heap) (locs : List Loc), zW D cA sa s q8 q9 (xTop (sRead σ)) Pm H locs → zG p l e s m below meth c b H locs 306 ls [.int (aRead σ)]) : zG p l e s m below meth c b H locs 302 ls [] := by
  have FF := F
  obtain ⟨⟨hx, hb, hr0, hml, hown, hts0, hX, hbl, hlocks, hgv⟩, hL, hK, hB⟩ := F
  obtain ⟨adX, gx, adM, gm, hP, hD, hS, eX, eM, e8, e9, hpx, hpm⟩ := hw
  simp only [zl_cx, Bool.and_eq_true, decide_eq_true_eq] at hc
  obtain ⟨d0, -, d1⟩ := hc
  subst e8
  rw [← zW_i adX cA gx] at hP hD
  refine lv_aload_n hx hb d0 rfl (lv_at hl 1 rfl) ?_
  refine zl_call FF (As := []) (rest := []) (Qx := fun o g' => o = some (.int (aRead σ)) ∧ ∃ g0, (g' = xGz 29 38 g0 ∨ g' = xGz 38 29 (xGp g0)) ∧ xTop (sRead σ) g0) xp_X8_read hk (by decide) rfl rfl ⟨σ, ⟨rfl, rfl, rfl, zTop_z hpx, hbt⟩, fun o g' h => h⟩ ⟨_, rfl⟩ hl.1 hP hD hS eX (Nat.zero_le _) d1 (fun o g1 H1 locs1 hq hP1 hD1 hS1 => ?_)
  obtain ⟨rfl, g0, hg, ht⟩ := hq
  rcases hg with rfl | rfl
  · rw [zW_i adX cA g0] at hP1 hD1
    exact kk H1 locs1 ⟨adX, g0, adM, gm, hP1, hD1, hS1, eX, eM, rfl, e9, ht, hpm⟩
  · exact kk H1 locs1 ⟨fun i => adX (xPi i), g0, adM, gm, va_P_of _ (zPi_at adX cA g0) hP1, va_D_of _ (zPi_i _) (zPi_at adX cA g0) hD1, hS1, (fun k hk => by
      show adX (xPi k) = sa k
      rw [xPi_3 (by omega)]; exact eX k hk), eM, rfl, e9, ht, hpm⟩
end
