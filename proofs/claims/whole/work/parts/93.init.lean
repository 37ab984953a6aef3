-- MAKING: constructors that lay arrays
theorem yo_i : Cond.instanceMethod Lib.objectInit ∈ xm_tbl := xm_in 26 (by decide +kernel) rfl
theorem yo_c : Cond.code Lib.objectInit ⟨#[0xb1]⟩ 1 none ∈ xm_tbl := xm_in 27 (by decide +kernel) rfl
def yi_A (a0 sz : Nat) : Nat → Prop := fun q => q = a0 ∨ sz ≤ q
def yi_Pre (D : va_G) (cA : Nat → ClassId) (av : List Value) (sz a0 ci : Nat) (fs : List Value) : Array Value → State → Prop := va_Pc av (fun U => U.heap.size = sz ∧ va_P D vwCl [(a0, .inr (ci, fs))] U.heap ∧ va_K D vwCl (xm_tys cA) U)
def yi_Post (D : va_G) (sz a0 : Nat) (w : (Nat → Nat) → va_W) : Array Value → State → Outcome → State → Prop := fun _ st oc t => (∃ ad : Nat → Nat, ad 0 = a0 ∧ oc = .returned none ∧ va_P D vwCl (w ad) t.heap ∧ va_D (yi_A a0 sz) (w ad)) ∧ va_F (yi_A a0 sz) st t
theorem yi_D1 {A : Nat → Prop} {a0 : Nat} {x : va_E} (h : A a0) : va_D A [(a0, x)] := by
  refine ⟨fun i j p q hi hj _ => ?_, fun k q hk => ?_⟩
  · have h1 := (List.getElem?_eq_some_iff.mp hi).1
    have h2 := (List.getElem?_eq_some_iff.mp hj).1
    simp only [List.length_singleton] at h1 h2
    omega
  · have h1 := (List.getElem?_eq_some_iff.mp hk).1
    simp only [List.length_singleton] at h1
    have h2 : k = 0 := by omega
    subst h2
    cases hk
    exact h
theorem yb_fs_len (ad : Nat → Nat) : ∀ (bl : List yB) (i : Nat) (fs : List Value), (yb_fs ad i fs bl).length = fs.length
  | [], _, _ => rfl
  | _ :: r, i, fs => by
    show (yb_fs ad (i + 1) _ r).length = _
    rw [yb_fs_len ad r (i + 1), List.length_set]
theorem yi_met1 {l : Launch} {D : va_G} {cA : Nat → ClassId} {y : MethodName} {bytes : ByteArray} {own : String} {FL : List (Nat × Nat × Nat)} {ci oi z : Nat} {fs : List Value} {bl : List yB} (a0 sz : Nat) (hy : plainFor y = true) (hyo : y.cls = own) (hyn : y.name = "<init>") (hcl : xm_cls) (hFL : xm_FLs own FL) (hoi : Cond.methodLink own oi Lib.objectInit ∈ xm_tbl) (hlen : ∀ q : vw_C, vwCl[ci]? = some q → q.2.2 ≤ fs.length)
    (hchk : (decide (decode bytes 0 = .ok (.aload_n 0, 1)) && decide (decode bytes 1 = .ok (.invokespecial oi, 3)) && yb_chk bytes FL own ci 4 bl z && decide (decode bytes z = .ok (.return_, 1))) = true) : Met l y (.code y bytes 1 none :: xm_tbl) (xm_rq 1 bl.length (yb_sum bl)) (yi_Pre D cA [.ref a0] sz a0 ci fs) (yi_Post D sz a0 (fun ad => (ad 0, .inr (ci, yb_fs ad 1 fs bl)) :: yb_ar cA ad 1 bl)) bl.length (yb_sum bl) (yi_A a0 sz) := by
  simp only [Bool.and_eq_true, decide_eq_true_eq] at hchk
  obtain ⟨⟨⟨d0, d1⟩, hc⟩, dz⟩ := hchk
  refine xm_ofW (cc := bytes) (maxL := 1) (ret := none) hy rfl ?_
  intro p e s m args below meth c s₁ BB hml hv
  obtain ⟨rfl, hsz, hP, hK⟩ := hv
  subst hsz
  have hts0 := atoms_spec (ws := Cond.code y bytes 1 none :: xm_tbl) BB.pre
  have hts : ∀ w ∈ xm_tbl, w.before _ s = true := fun w hw => hts0 w (List.mem_cons_of_mem _ hw)
  have hown : s.vm.findClass own = some m.cls := by rw [← hyo]; exact findClass_of_methodNamed BB.named
  have hname : meth.name = "<init>" := ((name_of_methodNamed BB.named BB.method).1).trans hyn
  rw [lg_entry_eq]
  refine lv_aload_n BB.exec BB.bytes d0 rfl (x := a0) rfl ?_
  refine W.objInit BB.exec BB.bytes hown (hts _ hoi) (hts _ yo_i) (hts _ yo_c) rfl hml.symm (a := a0) (rest := []) rfl d1 (Nat.le_refl 1) (by show 2 * 0 + 0 + 12 ≤ 60; decide) ?_
  refine yb_all (A := yi_A a0 s.heap.size) (H0 := s.heap) (a0 := a0) BB.exec BB.bytes hts hcl hFL hown hname hK (fun q hq => Or.inr hq) rfl bl 4 0 0 1 (fun _ => a0) fs [] s.heap [] hc hlen (Nat.le_of_eq (Nat.zero_add _)) (Nat.le_of_eq (Nat.zero_add _)) hP (yi_D1 (Or.inl rfl)) va_S.rf (fun ad H1 locs1 ha hP1 hD1 hS1 => ?_)
  have a00 : ad 0 = a0 := ha 0 (by omega)
  rw [Nat.zero_add, Nat.zero_add]
  exact W.vret BB.exec BB.bytes BB.returns (fun t ht hW => ⟨⟨ad, a00, rfl, by rw [ht]; dsimp only; rw [a00]; exact hP1, by dsimp only; rw [a00]; exact hD1⟩, hS1.F ht⟩) hS1.2.2 dz BB.notSynchronized
theorem yi_met2 {l : Launch} {D : va_G} {cA : Nat → ClassId} {y : MethodName} {bytes : ByteArray} {own : String} {FL : List (Nat × Nat × Nat)} {ci oi z k idx : Nat} {fs : List Value} {bl : List yB} (a0 b sz : Nat) (hy : plainFor y = true) (hyo : y.cls = own) (hyn : y.name = "<init>") (hcl : xm_cls) (hFL : xm_FLs own FL) (hoi : Cond.methodLink own oi Lib.objectInit ∈ xm_tbl) (hlen : ∀ q : vw_C, vwCl[ci]? = some q → q.2.2 ≤ fs.length)
    (hchk : (decide (decode bytes 0 = .ok (.aload_n 0, 1)) && decide (decode bytes 1 = .ok (.invokespecial oi, 3)) && yb_chk bytes FL own ci 4 bl z && decide (decode bytes z = .ok (.aload_n 0, 1)) && decide (decode bytes (z + 1) = .ok (.aload_n 1, 1)) && decide (decode bytes (z + 2) = .ok (.putfield idx, 3)) && decide (decode bytes (z + 5) = .ok (.return_, 1)) && FL.elem (idx, ci, k) && yb_fok own ci k) = true) : Met l y (.code y bytes 2 none :: xm_tbl) (xm_rq 1 bl.length (yb_sum bl)) (yi_Pre D cA [.ref a0, .ref b] sz a0 ci fs) (yi_Post D sz a0 (fun ad => (ad 0, .inr (ci, (yb_fs ad 1 fs bl).set k (.ref b))) :: yb_ar cA ad 1 bl)) bl.length (yb_sum bl) (yi_A a0 sz) := by
  simp only [Bool.and_eq_true, decide_eq_true_eq, List.elem_eq_mem] at hchk
  obtain ⟨⟨⟨⟨⟨⟨⟨⟨d0, d1⟩, hc⟩, z0⟩, z1⟩, z2⟩, z5⟩, hfl⟩, hok⟩ := hchk
  refine xm_ofW (cc := bytes) (maxL := 2) (ret := none) hy rfl ?_
  intro p e s m args below meth c s₁ BB hml hv
  obtain ⟨rfl, hsz, hP, hK⟩ := hv
  subst hsz
  have hts0 := atoms_spec (ws := Cond.code y bytes 2 none :: xm_tbl) BB.pre
  have hts : ∀ w ∈ xm_tbl, w.before _ s = true := fun w hw => hts0 w (List.mem_cons_of_mem _ hw)
  have hown : s.vm.findClass own = some m.cls := by rw [← hyo]; exact findClass_of_methodNamed BB.named
  have hname : meth.name = "<init>" := ((name_of_methodNamed BB.named BB.method).1).trans hyn
  rw [lg_entry_eq]
  refine lv_aload_n BB.exec BB.bytes d0 rfl (x := a0) rfl ?_
  refine W.objInit BB.exec BB.bytes hown (hts _ hoi) (hts _ yo_i) (hts _ yo_c) rfl hml.symm (a := a0) (rest := []) rfl d1 (Nat.le_refl 1) (by show 2 * 0 + 0 + 12 ≤ 60; decide) ?_
  refine yb_all (A := yi_A a0 s.heap.size) (H0 := s.heap) (a0 := a0) BB.exec BB.bytes hts hcl hFL hown hname hK (fun q hq => Or.inr hq) rfl bl 4 0 0 1 (fun _ => a0) fs [] s.heap [] hc hlen (Nat.le_of_eq (Nat.zero_add _)) (Nat.le_of_eq (Nat.zero_add _)) hP (yi_D1 (Or.inl rfl)) va_S.rf (fun ad H1 locs1 ha hP1 hD1 hS1 => ?_)
  have a00 : ad 0 = a0 := ha 0 (by omega)
  rw [Nat.zero_add, Nat.zero_add]
  refine lv_aload_n BB.exec BB.bytes z0 rfl (x := a0) rfl (lv_aload_n BB.exec BB.bytes z1 rfl (x := b) rfl ?_)
  refine yb_put (q0 := 0) BB.exec BB.bytes hts hcl hFL hown hname hK hP1 hD1 hS1 rfl hfl hok (fun q hq => by rw [yb_fs_len]; exact hlen q hq) z2 (fun H2 locs2 hP2 hD2 hS2 => ?_)
  exact W.vret BB.exec BB.bytes BB.returns (fun t ht hW => ⟨⟨ad, a00, rfl, by rw [ht]; dsimp only; rw [a00]; exact hP2, by dsimp only; rw [a00]; exact hD2⟩, hS2.F ht⟩) hS2.2.2 z5 BB.notSynchronized
