-- MAKING: a constructor is called
section
variable {p : Program} {l : Launch} {e : Env} {R : Room} {s : State} {m : MethodId} {args : Array Value} {below : List Frame} {meth : Method} {c : Code} {H : Heap} {locs : List Loc} {cells slots mc ms : Nat} {Q : State → Prop}
variable {pc : Nat} {ls : Array Slot} {rest st0 : List Value} {A : Nat → Prop} {H0 : Heap} {D : va_G} {cA : Nat → ClassId}
theorem yc_init {a' : Array Value} {w : (Nat → Nat) → va_W} {ws : va_W} {x : va_E} {q : Nat} (hr : va_Run p l e R s m args below meth c H locs cells slots mc ms (F0 m pc ls st0) rest (yi_Post D H.size q w a') (yi_A q H.size)) (hP : va_P D vwCl (ws ++ [(q, x)]) H) (hD : va_D A (ws ++ [(q, x)])) (hS : va_S A H0 H locs) (hA : ∀ z, H0.size ≤ z → A z)
    (kk : ∀ (ad : Nat → Nat) (H1 : Heap) (locs1 : List Loc), ad 0 = q → va_P D vwCl (ws ++ w ad) H1 → va_D A (ws ++ w ad) → va_S A H0 H1 locs1 → W p l e R s m args below meth c H1 locs1 (cells + mc) (slots + ms) Q (F0 m (pc + 3) ls rest)) : W p l e R s m args below meth c H locs cells slots Q (F0 m pc ls st0) := by
  have atq : (ws ++ [(q, x)])[ws.length]? = some (q, x) := by
    rw [List.getElem?_append_right (Nat.le_refl _), Nat.sub_self]; rfl
  have hq : A q := hD.2 _ _ atq
  have hA1 : ∀ z, yi_A q H.size z → A z := fun z h => by
    rcases h with h | h
    · rw [h]; exact hq
    · exact hA _ (Nat.le_trans hS.1 h)
  refine yc_call hr hS (A1 := yi_A q H.size) (fun st₀ o t h => h.2) (fun z _ h => hA1 z h) hA1 (fun o st₀ t locs1 h0 hq' hS1 => ?_)
  obtain ⟨⟨ad, e0, eo, hP1, hD1⟩, hF⟩ := hq'
  cases eo
  have hk : ∀ z : Nat, z < H.size → ¬ yi_A q H.size z → t.heap[z]? = H[z]? := fun z h1 h2 => by
    have := hF.2 z (by rw [h0]; exact h1) h2
    rw [h0] at this
    exact this
  obtain ⟨j1, j2⟩ := yc_join hP hD (fun z hz => hA z (Nat.le_trans hS.1 hz)) hk hP1 hD1
  exact kk ad t.heap locs1 e0 j1 j2 hS1
def yc_df (T : u_T) (N : Nat) (fs : List Value) : Bool := (List.range N).all (fun j => match parseFieldDescriptor (T j).2.2.1 with
  | some ty => decide (defaultValue ty = vp_V fs j)
  | none => false)
theorem yc_new {cc : ByteArray} {own C : String} {T : u_T} {N ci idx : Nat} {fs : List Value} {ws : va_W} (hx : p.tables.exec = Jvm.exec) (hb : c.code = cc) (hts : ∀ w ∈ xm_tbl, w.before args s = true) (hcl : xm_cls) (hown : s.vm.findClass own = some m.cls) (hK : va_K D vwCl (xm_tys cA) s) (hP : va_P D vwCl ws H) (hD : va_D A ws) (hS : va_S A H0 H locs) (hA : ∀ z, H0.size ≤ z → A z) (hc : vwCl[ci]? = some (C, T, N)) (w1 : Cond.classLink own idx C ∈ xm_tbl) (w2 : Cond.instantiable C N ∈ xm_tbl) (w3 : Cond.initialized C ∈ xm_tbl) (hfs : yc_df T N fs = true) (hcells : cells + 1 ≤ R.cells) (hslots : slots + N ≤ R.slots) (hdg : decode cc pc = .ok (.new idx, 3)) (hd2 : decode cc (pc + 3) = .ok (.dup, 1))
    (kk : ∀ (q : Nat) (H1 : Heap), va_P D vwCl (ws ++ [(q, .inr (ci, fs))]) H1 → va_D A (ws ++ [(q, .inr (ci, fs))]) → va_S A H0 H1 locs → W p l e R s m args below meth c H1 locs (cells + 1) (slots + N) Q (F0 m (pc + 3 + 1) ls (.ref q :: .ref q :: rest))) : W p l e R s m args below meth c H locs cells slots Q (F0 m pc ls rest) := by
  obtain ⟨hin, ⟨ty0, hty⟩, hnm⟩ := hcl ci (C, T, N) hc
  refine va_new hx hb hts hin ty0 hty hown (hts _ w1) (hts _ w2) (hts _ w3) hK hP hD hS hA hc (fun j hj => ?_) hcells hslots hdg (fun q H1 hP1 hD1 hS1 => lv_dup hx hb hd2 rfl (kk q H1 hP1 hD1 hS1))
  have h1 := List.all_eq_true.mp hfs j (List.mem_range.mpr hj)
  have h2 : parseFieldDescriptor (T j).2.2.1 = some (ty0 j) := hty j hj
  rw [h2] at h1
  exact of_decide_eq_true h1
theorem yi_blind {av : List Value} {sz a0 ci : Nat} {fs : List Value} : FrameBlind (yi_Pre D cA av sz a0 ci fs) := fun a U g mk q => by
  obtain ⟨q0, q1, qP, qK⟩ := q
  exact ⟨q0, q1, qP, va_K.moved (u := U) (U := U.calling g mk a) (Vm.Alike.refl U.vm) qK⟩
theorem yP1 {ws : va_W} {x : Nat × va_E} (h : va_P D vwCl (ws ++ [x]) H) : va_P D vwCl [x] H := fun k q hk => by
  have h1 := (List.getElem?_eq_some_iff.mp hk).1
  simp only [List.length_singleton] at h1
  have h2 : k = 0 := by omega
  subst h2
  cases hk
  exact h ws.length x (by rw [List.getElem?_append_right (Nat.le_refl _), Nat.sub_self]; rfl)
/-- a nest mate's constructor without arguments -/
theorem yc_mkN {cc : ByteArray} {own host : String} {y : MethodName} {bytes : ByteArray} {idx ci nL mc1 ms1 r1 q : Nat} {fs : List Value} {ws : va_W} {w : (Nat → Nat) → va_W} (hx : p.tables.exec = Jvm.exec) (hb : c.code = cc) (hml : c.maxLocals = nL) (hls : ls.size = nL) (hts : ∀ w ∈ xm_tbl, w.before args s = true) (hown : s.vm.findClass own = some m.cls) (hK : va_K D vwCl (xm_tys cA) s) (hP : va_P D vwCl (ws ++ [(q, .inr (ci, fs))]) H) (hD : va_D A (ws ++ [(q, .inr (ci, fs))])) (hS : va_S A H0 H locs) (hA : ∀ z, H0.size ≤ z → A z)
    (hM : Met l y (.code y bytes 1 none :: xm_tbl) (xm_rq r1 mc1 ms1) (yi_Pre D cA [.ref q] H.size q ci fs) (yi_Post D H.size q w) mc1 ms1 (yi_A q H.size)) (w0 : Cond.code y bytes 1 none ∈ xm_tbl) (w1 : va_Nw (.methodLinkNest own idx y host) s) (w2 : Cond.initialized y.cls ∈ xm_tbl) (w3 : Cond.instanceMethod y ∈ xm_tbl) (hyn : y.name = "<init>") (hd : y.cls ≠ "java/lang/invoke/MethodHandle" ∧ y.cls ≠ "java/lang/invoke/VarHandle" ∧ (parseMethodDescriptor y.desc).map (fun d => d.parameters.length) = some 0)
    (hR : r1 + 1 ≤ R.frames ∧ 8 + (1 + 11) + 60 * r1 ≤ R.locals) (hrest : 2 * (F0 m pc ls (.ref q :: rest)).monitorRoom + (rest.map fun v => v.category).sum ≤ 8) (hf : cells + mc1 ≤ R.cells ∧ slots + ms1 ≤ R.slots) (hdg : decode cc pc = .ok (.invokespecial idx, 3))
    (kk : ∀ (ad : Nat → Nat) (H1 : Heap) (locs1 : List Loc), ad 0 = q → va_P D vwCl (ws ++ w ad) H1 → va_D A (ws ++ w ad) → va_S A H0 H1 locs1 → W p l e R s m args below meth c H1 locs1 (cells + mc1) (slots + ms1) Q (F0 m (pc + 3) ls rest)) : W p l e R s m args below meth c H locs cells slots Q (F0 m pc ls (.ref q :: rest)) :=
  yc_init (va_runIN (As := []) (n := 0) ⟨hx, hb, hml, hown, hts⟩ hM ⟨va_cnB 0 hts (xm_goodIn w0) rfl rfl rfl w1 (hts _ w2) hd hR, hyn, hts _ w3⟩ ⟨yi_blind, fun U hU hW => ⟨rfl, by rw [hU], by rw [hU]; exact yP1 hP, va_K.moved hW.alike hK⟩⟩ rfl rfl hls rfl hrest hdg hf) hP hD hS hA kk
/-- a constructor with one argument, a reference -/
theorem yc_mkI {cc : ByteArray} {own : String} {y : MethodName} {bytes : ByteArray} {idx ci nL mc1 ms1 r1 q b : Nat} {fs : List Value} {ws : va_W} {w : (Nat → Nat) → va_W} {Pc : Array Value → State → Prop} (hx : p.tables.exec = Jvm.exec) (hb : c.code = cc) (hml : c.maxLocals = nL) (hls : ls.size = nL) (hts : ∀ w ∈ xm_tbl, w.before args s = true) (hown : s.vm.findClass own = some m.cls) (hP : va_P D vwCl (ws ++ [(q, .inr (ci, fs))]) H) (hD : va_D A (ws ++ [(q, .inr (ci, fs))])) (hS : va_S A H0 H locs) (hA : ∀ z, H0.size ≤ z → A z)
    (hM : Met l y (.code y bytes 2 none :: xm_tbl) (xm_rq r1 mc1 ms1) Pc (yi_Post D H.size q w) mc1 ms1 (yi_A q H.size)) (hp : PreS s H Pc [.ref q, .ref b]) (w0 : Cond.code y bytes 2 none ∈ xm_tbl) (w1 : Cond.methodLink own idx y ∈ xm_tbl) (w2 : Cond.initialized y.cls ∈ xm_tbl) (w3 : Cond.instanceMethod y ∈ xm_tbl) (hyn : y.name = "<init>") (hd : y.cls ≠ "java/lang/invoke/MethodHandle" ∧ y.cls ≠ "java/lang/invoke/VarHandle" ∧ (parseMethodDescriptor y.desc).map (fun d => d.parameters.length) = some 1)
    (hR : r1 + 1 ≤ R.frames ∧ 8 + (2 + 11) + 60 * r1 ≤ R.locals) (hrest : 2 * (F0 m pc ls (.ref b :: .ref q :: rest)).monitorRoom + (rest.map fun v => v.category).sum ≤ 8) (hf : cells + mc1 ≤ R.cells ∧ slots + ms1 ≤ R.slots) (hdg : decode cc pc = .ok (.invokespecial idx, 3))
    (kk : ∀ (ad : Nat → Nat) (H1 : Heap) (locs1 : List Loc), ad 0 = q → va_P D vwCl (ws ++ w ad) H1 → va_D A (ws ++ w ad) → va_S A H0 H1 locs1 → W p l e R s m args below meth c H1 locs1 (cells + mc1) (slots + ms1) Q (F0 m (pc + 3) ls rest)) : W p l e R s m args below meth c H locs cells slots Q (F0 m pc ls (.ref b :: .ref q :: rest)) :=
  yc_init (va_runI (As := [.ref b]) (n := 1) ⟨hx, hb, hml, hown, hts⟩ hM ⟨callB_of 1 hts (xm_goodIn w0) rfl rfl rfl (hts _ w2) (hts _ w1) hd hR, hyn, hts _ w3⟩ hp rfl rfl hls rfl hrest hdg hf) hP hD hS hA kk
end
