-- MAKING: arrays laid, and put into the fields of what is made
def yb_at (t : Nat) : ArrayType := match t with
  | 0 => .int
  | 1 => .byte
  | 2 => .boolean
  | _ => .long
def yb_a0 (t n : Nat) : vp_A := match t with
  | 3 => (n, .inr (.inl fun _ => 0))
  | _ => (n, .inl fun _ => 0)
theorem yb_w0 : Cond.arrayClass .int ∈ xm_tbl := xm_in 129 (by decide +kernel) rfl
theorem yb_w1 : Cond.arrayClass .byte ∈ xm_tbl := xm_in 44 (by decide +kernel) rfl
theorem yb_w2 : Cond.arrayClass .boolean ∈ xm_tbl := xm_in 397 (by decide +kernel) rfl
theorem yb_w3 : Cond.arrayClass .long ∈ xm_tbl := xm_in 155 (by decide +kernel) rfl
/-- pc, the push's length, the push, how many, the kind, the field, its place in the pool -/
abbrev yB : Type := Nat × Instr × Nat × Nat × Nat × Nat
def yb_push (i : Instr) (len n : Nat) : Bool := match i with
  | .iconst v => len == 1 && Int32.ofInt v == nI n
  | .bipush v => len == 2 && (Int8.ofInt v).toInt32 == nI n
  | .sipush v => len == 3 && (Int16.ofInt v).toInt32 == nI n
  | _ => false
def yb_ref (d : String) : Bool := match parseFieldDescriptor d with
  | some (.array _) => true
  | some (.object _) => true
  | _ => false
def yb_fok (own : String) (ci k : Nat) : Bool := match vwCl[ci]? with
  | some q => yb_ref (q.2.1 k).2.2.1 && decide ((q.2.1 k).1 = own)
  | none => false
def yb_chk (cc : ByteArray) (FL : List (Nat × Nat × Nat)) (own : String) (ci : Nat) : Nat → List yB → Nat → Bool
  | pc, [], z => pc == z
  | pc, (pl, i, n, t, k, idx) :: r, z => (decide (decode cc pc = .ok (.aload_n 0, 1)) && decide (decode cc (pc + 1) = .ok (i, pl)) && yb_push i pl n && decide (decode cc (pc + 1 + pl) = .ok (.newarray (yb_at t), 2)) && decide (decode cc (pc + 1 + pl + 2) = .ok (.putfield idx, 3)) && FL.elem (idx, ci, k) && Nat.ble t 3 && Nat.ble n 100000 && yb_fok own ci k) && yb_chk cc FL own ci (pc + 1 + pl + 2 + 3) r z
def yb_fs (ad : Nat → Nat) : Nat → List Value → List yB → List Value
  | _, fs, [] => fs
  | i, fs, b :: r => yb_fs ad (i + 1) (fs.set b.2.2.2.2.1 (.ref (ad i))) r
def yb_ar (cA : Nat → ClassId) (ad : Nat → Nat) : Nat → List yB → va_W
  | _, [] => []
  | i, b :: r => (ad i, .inl (cA b.2.2.2.1, yb_a0 b.2.2.2.1 b.2.2.1)) :: yb_ar cA ad (i + 1) r
def yb_sum : List yB → Nat
  | [] => 0
  | b :: r => b.2.2.1 + yb_sum r
theorem yb_cells (b : yB) (r : List yB) (c : Nat) : c + 1 + r.length = c + (b :: r).length := by simp only [List.length_cons]; omega
theorem yb_slots (b : yB) (r : List yB) (c : Nat) : c + b.2.2.1 + yb_sum r = c + yb_sum (b :: r) := by show _ = c + (b.2.2.1 + yb_sum r); omega
section
variable {p : Program} {l : Launch} {e : Env} {R : Room} {s : State} {m : MethodId} {args : Array Value} {below : List Frame} {meth : Method} {c : Code} {Q : State → Prop}
variable {cc : ByteArray} {ls : Array Slot} {rest : List Value} {D : va_G} {cA : Nat → ClassId} {A : Nat → Prop} {H0 : Heap}
theorem yb_new {H : Heap} {locs : List Loc} {cells slots pc : Nat} {ws : va_W} {t n : Nat} (ht : t ≤ 3) (hx : p.tables.exec = Jvm.exec) (hb : c.code = cc) (hts : ∀ w ∈ xm_tbl, w.before args s = true) (hK : va_K D vwCl (xm_tys cA) s) (hP : va_P D vwCl ws H) (hD : va_D A ws) (hS : va_S A H0 H locs) (hA : ∀ q, H0.size ≤ q → A q) (hn : n ≤ 100000) (hcells : cells + 1 ≤ R.cells) (hslots : slots + n ≤ R.slots) (hdg : decode cc pc = .ok (.newarray (yb_at t), 2))
    (kk : ∀ (q : Nat) (H1 : Heap), va_P D vwCl (ws ++ [(q, .inl (cA t, yb_a0 t n))]) H1 → va_D A (ws ++ [(q, .inl (cA t, yb_a0 t n))]) → va_S A H0 H1 locs → W p l e R s m args below meth c H1 locs (cells + 1) (slots + n) Q (F0 m (pc + 2) ls (.ref q :: rest))) : W p l e R s m args below meth c H locs cells slots Q (F0 m pc ls (.int (nI n) :: rest)) := by
  have t4 : t = 0 ∨ t = 1 ∨ t = 2 ∨ t = 3 := by omega
  rcases t4 with rfl | rfl | rfl | rfl
  · refine va_newa (atype := .int) hx hb (hts _ yb_w0) rfl hK hP hD hS hA (a0 := (n, .inl fun _ => 0)) (fun _ => rfl) (nI_pos (by omega)) (nI_clamp (by omega)) (by show n * 4 ≤ _; omega) hcells hslots hdg (fun q c1 H1 hK1 hP1 hD1 hS1 => ?_)
    have e1 : s.vm.findClass _ = some c1 := (hK1.2 4 (c1, .int) rfl).2
    have e2 : s.vm.findClass _ = some (cA 0) := (hK.2 0 (cA 0, .int) rfl).2
    have e3 : c1 = cA 0 := Option.some.inj (e1.symm.trans e2)
    subst e3
    exact kk q H1 hP1 hD1 hS1
  · refine va_newa (atype := .byte) hx hb (hts _ yb_w1) rfl hK hP hD hS hA (a0 := (n, .inl fun _ => 0)) (fun _ => rfl) (nI_pos (by omega)) (nI_clamp (by omega)) (by show n * 1 ≤ _; omega) hcells hslots hdg (fun q c1 H1 hK1 hP1 hD1 hS1 => ?_)
    have e1 : s.vm.findClass _ = some c1 := (hK1.2 4 (c1, .byte) rfl).2
    have e2 : s.vm.findClass _ = some (cA 1) := (hK.2 1 (cA 1, .byte) rfl).2
    have e3 : c1 = cA 1 := Option.some.inj (e1.symm.trans e2)
    subst e3
    exact kk q H1 hP1 hD1 hS1
  · refine va_newa (atype := .boolean) hx hb (hts _ yb_w2) rfl hK hP hD hS hA (a0 := (n, .inl fun _ => 0)) (fun _ => rfl) (nI_pos (by omega)) (nI_clamp (by omega)) (by show n * 1 ≤ _; omega) hcells hslots hdg (fun q c1 H1 hK1 hP1 hD1 hS1 => ?_)
    have e1 : s.vm.findClass _ = some c1 := (hK1.2 4 (c1, .boolean) rfl).2
    have e2 : s.vm.findClass _ = some (cA 2) := (hK.2 2 (cA 2, .boolean) rfl).2
    have e3 : c1 = cA 2 := Option.some.inj (e1.symm.trans e2)
    subst e3
    exact kk q H1 hP1 hD1 hS1
  · refine va_newa (atype := .long) hx hb (hts _ yb_w3) rfl hK hP hD hS hA (a0 := (n, .inr (.inl fun _ => 0))) (fun _ => rfl) (nI_pos (by omega)) (nI_clamp (by omega)) (by show n * 8 ≤ _; omega) hcells hslots hdg (fun q c1 H1 hK1 hP1 hD1 hS1 => ?_)
    have e1 : s.vm.findClass _ = some c1 := (hK1.2 4 (c1, .long) rfl).2
    have e2 : s.vm.findClass _ = some (cA 3) := (hK.2 3 (cA 3, .long) rfl).2
    have e3 : c1 = cA 3 := Option.some.inj (e1.symm.trans e2)
    subst e3
    exact kk q H1 hP1 hD1 hS1
/-- a reference put into a field of what is being made -/
theorem yb_put {H : Heap} {locs : List Loc} {cells slots pc : Nat} {ws : va_W} {own : String} {FL : List (Nat × Nat × Nat)} {a0 ci k idx q0 v : Nat} {fs : List Value} (hx : p.tables.exec = Jvm.exec) (hb : c.code = cc) (hts : ∀ w ∈ xm_tbl, w.before args s = true) (hcl : xm_cls) (hFL : xm_FLs own FL) (hown : s.vm.findClass own = some m.cls) (hname : meth.name = "<init>") (hK : va_K D vwCl (xm_tys cA) s) (hP : va_P D vwCl ws H) (hD : va_D A ws) (hS : va_S A H0 H locs) (he : ws[q0]? = some (a0, .inr (ci, fs))) (hfl : (idx, ci, k) ∈ FL) (hok : yb_fok own ci k = true) (hlen : ∀ q : vw_C, vwCl[ci]? = some q → q.2.2 ≤ fs.length)
    (hdg : decode cc pc = .ok (.putfield idx, 3)) (kk : ∀ (H1 : Heap) (locs1 : List Loc), va_P D vwCl (ws.set q0 (a0, .inr (ci, fs.set k (.ref v)))) H1 → va_D A (ws.set q0 (a0, .inr (ci, fs.set k (.ref v)))) → va_S A H0 H1 locs1 → W p l e R s m args below meth c H1 locs1 cells slots Q (F0 m (pc + 3) ls rest)) : W p l e R s m args below meth c H locs cells slots Q (F0 m pc ls (.ref v :: .ref a0 :: rest)) := by
  unfold yb_fok at hok
  cases hq : vwCl[ci]? with
  | none => rw [hq] at hok; cases hok
  | some q =>
    rw [hq] at hok
    dsimp only at hok
    rw [Bool.and_eq_true, decide_eq_true_eq] at hok
    obtain ⟨cq, f1, f2, f3⟩ := xm_FL_of (hFL _ hfl) hq
    have : cq = q := Option.some.inj (f1.symm.trans hq)
    subst this
    obtain ⟨hin, ⟨ty0, hty⟩, hnm⟩ := hcl _ _ hq
    have hl : k < fs.length := Nat.lt_of_lt_of_le f2 (hlen _ hq)
    obtain ⟨hr, hd⟩ := hok
    unfold yb_ref at hr
    cases hf : (cq.2.1 k).2.2.2 with
    | true =>
      split at hr
      · rename_i ty hty1
        exact va_putF hx hb hts hin ty0 hty hnm hown hK hP hD hS q0 he hq k f2 (hts _ f3) (fun _ h9 => h9) hf hname hd hty1 rfl rfl hl hdg kk
      · rename_i ty hty1
        exact va_putF hx hb hts hin ty0 hty hnm hown hK hP hD hS q0 he hq k f2 (hts _ f3) (fun _ h9 => h9) hf hname hd hty1 rfl rfl hl hdg kk
      · cases hr
    | false =>
      split at hr
      · rename_i ty hty1
        exact va_put hx hb hts hin ty0 hty hnm hown hK hP hD hS q0 he hq k f2 (hts _ f3) (fun _ h9 => h9) hf hty1 rfl rfl hl hdg kk
      · rename_i ty hty1
        exact va_put hx hb hts hin ty0 hty hnm hown hK hP hD hS q0 he hq k f2 (hts _ f3) (fun _ h9 => h9) hf hty1 rfl rfl hl hdg kk
      · cases hr
theorem yb_pushed {H : Heap} {locs : List Loc} {cells slots pc pl n : Nat} {i : Instr} (hx : p.tables.exec = Jvm.exec) (hb : c.code = cc) (hp : yb_push i pl n = true) (hdg : decode cc pc = .ok (i, pl)) (kk : W p l e R s m args below meth c H locs cells slots Q (F0 m (pc + pl) ls (.int (nI n) :: rest))) : W p l e R s m args below meth c H locs cells slots Q (F0 m pc ls rest) := by
  unfold yb_push at hp
  split at hp
  · simp only [Bool.and_eq_true, beq_iff_eq] at hp
    obtain ⟨rfl, hv⟩ := hp
    exact lv_iconst hx hb hdg hv kk
  · simp only [Bool.and_eq_true, beq_iff_eq] at hp
    obtain ⟨rfl, hv⟩ := hp
    exact lv_bipush hx hb hdg hv kk
  · simp only [Bool.and_eq_true, beq_iff_eq] at hp
    obtain ⟨rfl, hv⟩ := hp
    exact lv_sipush hx hb hdg hv kk
  · cases hp
theorem yb_all {own : String} {FL : List (Nat × Nat × Nat)} {a0 ci z : Nat} (hx : p.tables.exec = Jvm.exec) (hb : c.code = cc) (hts : ∀ w ∈ xm_tbl, w.before args s = true) (hcl : xm_cls) (hFL : xm_FLs own FL) (hown : s.vm.findClass own = some m.cls) (hname : meth.name = "<init>") (hK : va_K D vwCl (xm_tys cA) s) (hA : ∀ q, H0.size ≤ q → A q) (hl0 : ls[0]? = some (.val (.ref a0))) :
    ∀ (bl : List yB) (pc cells slots i : Nat) (ad : Nat → Nat) (fs : List Value) (Rw : va_W) (H : Heap) (locs : List Loc), yb_chk cc FL own ci pc bl z = true → (∀ q : vw_C, vwCl[ci]? = some q → q.2.2 ≤ fs.length) → cells + bl.length ≤ R.cells → slots + yb_sum bl ≤ R.slots → va_P D vwCl ((a0, .inr (ci, fs)) :: Rw) H → va_D A ((a0, .inr (ci, fs)) :: Rw) → va_S A H0 H locs →
    (∀ (ad' : Nat → Nat) (H1 : Heap) (locs1 : List Loc), (∀ j, j < i → ad' j = ad j) → va_P D vwCl ((a0, .inr (ci, yb_fs ad' i fs bl)) :: (Rw ++ yb_ar cA ad' i bl)) H1 → va_D A ((a0, .inr (ci, yb_fs ad' i fs bl)) :: (Rw ++ yb_ar cA ad' i bl)) → va_S A H0 H1 locs1 → W p l e R s m args below meth c H1 locs1 (cells + bl.length) (slots + yb_sum bl) Q (F0 m z ls rest)) →
    W p l e R s m args below meth c H locs cells slots Q (F0 m pc ls rest)
  | [], pc, cells, slots, i, ad, fs, Rw, H, locs, hc, _, _, _, hP, hD, hS, kk => by
    have hz : pc = z := by simpa [yb_chk] using hc
    subst hz
    have := kk ad H locs (fun _ _ => rfl) (by simpa [yb_ar, yb_fs] using hP) (by simpa [yb_ar, yb_fs] using hD) hS
    exact this
  | (pl, ins, n, t, k, idx) :: r, pc, cells, slots, i, ad, fs, Rw, H, locs, hc, hlen, hcs, hss, hP, hD, hS, kk => by
    simp only [yb_chk, Bool.and_eq_true, decide_eq_true_eq, List.elem_eq_mem] at hc
    obtain ⟨⟨⟨⟨⟨⟨⟨⟨⟨d1, d2⟩, d3⟩, d4⟩, d5⟩, d6⟩, d7⟩, d8⟩, d9⟩, hc⟩ := hc
    have l1 := yb_cells (pl, ins, n, t, k, idx) r cells
    have l2 := yb_slots (pl, ins, n, t, k, idx) r slots
    dsimp only at l2
    refine lv_aload_n hx hb d1 rfl hl0 (yb_pushed hx hb d3 d2 (yb_new (Nat.le_of_ble_eq_true d7) hx hb hts hK hP hD hS hA (Nat.le_of_ble_eq_true d8) (by omega) (by omega) d4 (fun q H1 hP1 hD1 hS1 => ?_)))
    refine yb_put (q0 := 0) hx hb hts hcl hFL hown hname hK hP1 hD1 hS1 rfl d6 d9 hlen d5 (fun H2 locs2 hP2 hD2 hS2 => ?_)
    have hP2 : va_P D vwCl ((a0, Sum.inr (ci, fs.set k (.ref q))) :: (Rw ++ [(q, Sum.inl (cA t, yb_a0 t n))])) H2 := hP2
    have hD2 : va_D A ((a0, Sum.inr (ci, fs.set k (.ref q))) :: (Rw ++ [(q, Sum.inl (cA t, yb_a0 t n))])) := hD2
    refine yb_all hx hb hts hcl hFL hown hname hK hA hl0 r (pc + 1 + pl + 2 + 3) (cells + 1) (slots + n) (i + 1) (fun j => if j = i then q else ad j) (fs.set k (.ref q)) (Rw ++ [(q, Sum.inl (cA t, yb_a0 t n))]) H2 locs2 hc (fun q' hq' => by rw [List.length_set]; exact hlen q' hq') (by omega) (by omega) hP2 hD2 hS2 (fun ad' H3 locs3 ha hP3 hD3 hS3 => ?_)
    have eq : ad' i = q := by rw [ha i (by omega), if_pos rfl]
    have e1 : yb_fs ad' i fs ((pl, ins, n, t, k, idx) :: r) = yb_fs ad' (i + 1) (fs.set k (.ref q)) r := by
      show yb_fs ad' (i + 1) (fs.set k (.ref (ad' i))) r = _
      rw [eq]
    have e2 : Rw ++ yb_ar cA ad' i ((pl, ins, n, t, k, idx) :: r) = (Rw ++ [(q, .inl (cA t, yb_a0 t n))]) ++ yb_ar cA ad' (i + 1) r := by
      show Rw ++ ((ad' i, .inl (cA t, yb_a0 t n)) :: yb_ar cA ad' (i + 1) r) = _
      rw [eq, List.append_assoc]; rfl
    have := kk ad' H3 locs3 (fun j hj => by rw [ha j (by omega), if_neg (by omega)]) (by rw [e1, e2]; exact hP3) (by rw [e1, e2]; exact hD3) hS3
    rw [← l1, ← l2] at this
    exact this
end
