-- WHAT A TABLE OF CODE MUST KEEP, as a check by the kernel
def xm_tgt (C : List xE) (pc : Nat) (off : Int) (a : Nat) : Bool := match xm_drop a C with
  | e :: _ => (pc : Int) + off == (e.2.1 : Int)
  | [] => false
def xm_swt (C : List xE) (pc : Nat) : Int → List Int → List (Int32 × Nat) → Bool
  | _, [], [] => true
  | lo, o :: os, q :: qs => (q.1.toInt == lo && xm_tgt C pc o q.2) && xm_swt C pc (lo + 1) os qs
  | _, _, _ => false
def xm_swl (C : List xE) (pc : Nat) : List (Int × Int) → List (Int32 × Nat) → Bool
  | [], [] => true
  | o :: os, q :: qs => (q.1.toInt == o.1 && xm_tgt C pc o.2 q.2) && xm_swl C pc os qs
  | _, _ => false
def xm_isK (ks : List xK) (a idx kind : Nat) : Bool := (xm_kth ks a).1 == idx && (xm_kth ks a).2.1 == kind
def xm_chkE (cc : ByteArray) (ret : Option FieldType) (FL : List (Nat × Nat × Nat)) (IL LL : List (Nat × Int32)) (ks : List xK) (C : List xE) (e : xE) : Bool := match e with
  | (_, pc, len, i, a, b, v, sw) => decide (decode cc pc = .ok (i, len)) && (match i with
    | .iconst n => len == 1 && Int32.ofInt n == v
    | .bipush n => len == 2 && (Int8.ofInt n).toInt32 == v
    | .sipush n => len == 3 && (Int16.ofInt n).toInt32 == v
    | .ldc n => len == 2 && ((a == 0 && IL.elem (n, v)) || (a == 101 && FL.elem (n, 101, b)))
    | .getstatic n => len == 3 && FL.elem (n, 102, b)
    | .ldc_w n => len == 3 && IL.elem (n, v)
    | .lconst n => len == 1 && Int64.ofNat n.val == v.toInt64
    | .ldc2_w n => len == 3 && LL.elem (n, v)
    | .iload _ => len == 2
    | .lload _ => len == 2
    | .aload _ => len == 2
    | .istore _ => len == 2
    | .lstore _ => len == 2
    | .astore _ => len == 2
    | .iinc _ n => len == 3 && Int32.ofInt n == v
    | .goto off => len == 3 && xm_tgt C pc off a
    | .ifCond _ off => len == 3 && xm_tgt C pc off a
    | .if_icmp _ off => len == 3 && xm_tgt C pc off a
    | .tableswitch d lo hi offs => (hi == lo + offs.toList.length - 1 && xm_tgt C pc d a) && xm_swt C pc lo offs.toList sw
    | .lookupswitch d ps => ((ps.toList.zip (ps.toList.drop 1)).all (fun (a, next) => a.1 < next.1) && xm_tgt C pc d a) && xm_swl C pc ps.toList sw
    | .getfield n => len == 3 && FL.elem (n, a, b)
    | .putfield n => len == 3 && FL.elem (n, a, b)
    | .invokevirtual n => len == 3 && (xm_isK ks a n 0 || xm_isK ks a n 3)
    | .invokestatic n => len == 3 && (xm_isK ks a n 1 || xm_isK ks a n 2 || (xm_kth ks a).2.1 == 9)
    | .ireturn => len == 1 && ((a == 0 && decide (ret = some .int)) || (a == 1 && decide (ret = some .boolean)) || (a == 2 && decide (ret = some .char)) || (a == 3 && decide (ret = some .byte)))
    | .lreturn => len == 1 && decide (ret = some .long)
    | .return_ => len == 1 && decide (ret = none)
    | _ => len == 1)
def xm_lin : List xE → Bool
  | e :: e' :: r => e.2.1 + e.2.2.1 == e'.2.1 && xm_lin (e' :: r)
  | _ => true
def xm_chk (cc : ByteArray) (ret : Option FieldType) (FL : List (Nat × Nat × Nat)) (IL LL : List (Nat × Int32)) (ks : List xK) (C : List xE) : Bool := (xm_lin C && (match C with | e :: _ => e.2.1 == 0 | [] => false)) && C.all (xm_chkE cc ret FL IL LL ks C)
def xm_chk2 (cc : ByteArray) (ret : Option FieldType) (FL : List (Nat × Nat × Nat)) (IL LL : List (Nat × Int32)) (ks : List xK) (C : List xE) : Bool := xm_lin C && C.all (xm_chkE cc ret FL IL LL ks C)
theorem xm_lin_at : ∀ {C : List xE}, xm_lin C = true → ∀ {e e' : xE} {r : List xE}, (e :: e' :: r) <:+ C → e'.2.1 = e.2.1 + e.2.2.1
  | [], _, _, _, _, h => by simp at h
  | [a], _, e, e', r, h => by
    have := h.length_le
    simp at this
  | a :: b :: C, hl, e, e', r, h => by
    simp only [xm_lin, Bool.and_eq_true, beq_iff_eq] at hl
    rcases List.suffix_cons_iff.mp h with q | q
    · cases q; exact hl.1.symm
    · exact xm_lin_at hl.2 q
theorem xm_drop_suf : ∀ (n : Nat) (l : List xE), xm_drop n l <:+ l
  | 0, l => List.suffix_refl l
  | _ + 1, [] => List.suffix_refl []
  | n + 1, _ :: l => (xm_drop_suf n l).trans (List.suffix_cons _ l)
-- THE WORDS
def xm_FL (own : String) (q : Nat × Nat × Nat) : Prop := ∃ c : vw_C, vwCl[q.2.1]? = some c ∧ q.2.2 < c.2.2 ∧ Cond.fieldLink own q.1 (c.2.1 q.2.2).1 (c.2.1 q.2.2).2.1 (c.2.1 q.2.2).2.2.1 ∈ xm_tbl
def xm_strs : List (String × Nat × Nat × String) := [("LanternPeople$Tokens", 79, 0, "slide   person  shown   takes   fades   pays    washes  seed    if      then    else    glow    warm    bright  week    seat    joins   which   others  slides  "), ("LanternPeople$Tokens", 57, 1, ";=+-*/<()")]
def xm_sfd (b : Nat) : String × String := if b = 0 then ("value", "[B") else ("code\x72", "B")
def xm_sst (b : Nat) : String × String × String := if b = 0 then ("java/lang/String", "COMPACT_STRINGS", "Z") else ("jdk/internal/util/Preconditions", "SIOOBE_FORMATTER", "Ljava/util/function/BiFunction;")
/-- a field of a text, a text, a static -/
def xm_FX (own : String) (q : Nat × Nat × Nat) : Prop := (q.2.1 = 100 ∧ Cond.fieldLink own q.1 "java/lang/String" (xm_sfd q.2.2).1 (xm_sfd q.2.2).2 ∈ xm_tbl) ∨ (q.2.1 = 101 ∧ ∃ tx, (own, q.1, q.2.2, tx) ∈ xm_strs) ∨ (q.2.1 = 102 ∧ Cond.fieldLink own q.1 (xm_sst q.2.2).1 (xm_sst q.2.2).2.1 (xm_sst q.2.2).2.2 ∈ xm_tbl)
def xm_FLs (own : String) (FL : List (Nat × Nat × Nat)) : Prop := ∀ q ∈ FL, xm_FL own q ∨ xm_FX own q
def xm_ILs (own : String) (IL : List (Nat × Int32)) : Prop := ∀ q ∈ IL, Cond.constant own q.1 q.2 ∈ xm_tbl
def xm_LLs (own : String) (LL : List (Nat × Int32)) : Prop := ∀ q ∈ LL, Cond.constantLong own q.1 q.2.toInt64 ∈ xm_tbl
def xm_ML (own : String) (k : xK) (y : MethodName) (bytes : ByteArray) (maxL : Nat) (ret : Option FieldType) : Prop :=
  (Cond.methodLink own k.1 y ∈ xm_tbl ∧ Cond.initialized y.cls ∈ xm_tbl ∧ Cond.code y bytes maxL ret ∈ xm_tbl ∧ maxL ≤ 41) ∧ (y.cls ≠ "java/lang/invoke/MethodHandle" ∧ y.cls ≠ "java/lang/invoke/VarHandle") ∧
  ((k.2.1 = 0 ∧ (parseMethodDescriptor y.desc).map (fun d => d.parameters.length + 1) = some k.2.2.1 ∧ Cond.instanceMethod y ∈ xm_tbl ∧ Cond.selects y.cls y y ∈ xm_tbl ∧ ∃ c : vw_C, vwCl[k.2.2.2]? = some c ∧ c.1 = y.cls) ∨
   (k.2.1 = 1 ∧ (parseMethodDescriptor y.desc).map (fun d => d.parameters.length) = some k.2.2.1 ∧ Cond.static y ∈ xm_tbl) ∨
   (k.2.1 = 3 ∧ (parseMethodDescriptor y.desc).map (fun d => d.parameters.length + 1) = some k.2.2.1 ∧ Cond.instanceMethod y ∈ xm_tbl ∧ Cond.selects y.cls y y ∈ xm_tbl ∧ y.cls = "java/lang/String"))
def xm_CP (own : String) (k : xK) : Prop := k.2.1 = 2 ∧ Cond.methodLink own k.1 arraycopyName ∈ xm_tbl ∧ Cond.native arraycopyName ∈ xm_tbl ∧ Cond.static arraycopyName ∈ xm_tbl ∧ Cond.initialized "java/lang/System" ∈ xm_tbl
/-- the classes of the worlds, by the tables -/
def xm_cls : Prop := ∀ (ci : Nat) (c : vw_C), vwCl[ci]? = some c → (∀ w ∈ u_ws c.1 c.2.1 c.2.2, w ∈ xm_tbl) ∧ (∃ ty0 : Nat → FieldType, ∀ k, k < c.2.2 → parseFieldDescriptor (c.2.1 k).2.2.1 = some (ty0 k)) ∧ (∀ a, a < c.2.2 → ∀ b, b < c.2.2 → a ≠ b → (c.2.1 a).2.1 ≠ (c.2.1 b).2.1)
/-- a field as the shape has it, and as the class has it -/
def xm_fok (q : String × String × String × Bool) (f : Nat × Nat) : Bool := match f.1 with
  | 0 => !q.2.2.2 && decide (parseFieldDescriptor q.2.2.1 = some .int)
  | 2 => !q.2.2.2 && decide (parseFieldDescriptor q.2.2.1 = some .boolean)
  | 3 => !q.2.2.2 && (match parseFieldDescriptor q.2.2.1 with | some (.object _) => true | _ => false)
  | 4 => !q.2.2.2 && (match parseFieldDescriptor q.2.2.1 with | some (.object _) => true | _ => false)
  | 1 => true
  | _ => false
def xm_sok1 (c : xC) : Bool := match c with
  | .inl (t, n) => Nat.ble n 100000 && Nat.ble t 3
  | .inr (ci, fs) => match vwCl[ci]? with
    | some q => fs.length == q.2.2 && (fs.zipIdx).all (fun p => xm_fok (q.2.1 p.2) p.1)
    | none => false
def xm_sok (S : List xC) : Bool := S.all xm_sok1
theorem xm_sok_at {S : List xC} (h : xm_sok S = true) {k ci : Nat} {fs : List (Nat × Nat)} (hk : S[k]? = some (.inr (ci, fs))) : ∃ q, vwCl[ci]? = some q ∧ fs.length = q.2.2 ∧ ∀ (j : Nat) (f : Nat × Nat), fs[j]? = some f → xm_fok (q.2.1 j) f = true := by
  have h1 := List.all_eq_true.mp h _ (List.mem_of_getElem? hk)
  unfold xm_sok1 at h1
  dsimp only at h1
  cases hq : vwCl[ci]? with
  | none => rw [hq] at h1; cases h1
  | some q =>
    rw [hq] at h1
    dsimp only at h1
    rw [Bool.and_eq_true, beq_iff_eq] at h1
    refine ⟨q, rfl, h1.1, fun j f hf => ?_⟩
    have := List.all_eq_true.mp h1.2 (f, j) (List.mem_zipIdx_iff_getElem?.mpr hf)
    exact this
theorem xm_sok_n {S : List xC} (h : xm_sok S = true) {k t n : Nat} (hk : S[k]? = some (.inl (t, n))) : n < 2 ^ 31 := by
  have h1 := List.all_eq_true.mp h _ (List.mem_of_getElem? hk)
  simp only [xm_sok1, Bool.and_eq_true] at h1
  have := Nat.le_of_ble_eq_true h1.1
  omega
theorem xm_sok_t {S : List xC} (h : xm_sok S = true) {k t n : Nat} (hk : S[k]? = some (.inl (t, n))) : t ≤ 3 := by
  have h1 := List.all_eq_true.mp h _ (List.mem_of_getElem? hk)
  simp only [xm_sok1, Bool.and_eq_true] at h1
  exact Nat.le_of_ble_eq_true h1.2
theorem xm_nar_bool {x : Int32} (h : x = 0 ∨ x = 1) : vp_nar .boolean x = x := by
  rcases h with rfl | rfl <;> decide
theorem xm_bn {x : Int32} (h : x = 0 ∨ x = 1) : narrow .boolean (.int x) = .int x ∧ fits .boolean (.int x) = true := by
  rcases h with rfl | rfl <;> decide
-- ROOMS AND CONTRACTS
def xm_rq (r mc ms : Nat) : Room := { frames := r, cells := mc, slots := ms, locals := 60 * r }
def xm_rm (r : Nat) : Room := { frames := r, cells := 0, slots := 0, locals := 60 * r }
def xm_A (ad : Nat → Nat) (S : List xC) (sz : Nat) : Nat → Prop := fun q => (∃ k, k < S.length ∧ q = ad k) ∨ sz ≤ q
/-- the constants' texts and two statics, outside the shape -/
def xm_B (_ : List (Nat × Cell)) (ad : Nat → Nat) (S : List xC) (U : State) (H : Heap) : Prop :=
  vk_S 2 xm_ln xm_by (fun i => ad (1000 + i)) (fun i => ad (2000 + i)) (xm_A ad S H.size) U H ∧ (∀ q ∈ xm_strs, vk_R q.1 q.2.1 q.2.2.2 (ad (1000 + q.2.2.1)) U) ∧
  va_Z (xm_sst 0).1 (xm_sst 0).2.1 (xm_sst 0).2.2 (.int 1) (xm_A ad S H.size) U H ∧ (va_Z (xm_sst 1).1 (xm_sst 1).2.1 (xm_sst 1).2.2 .null (xm_A ad S H.size) U H ∨ va_Z (xm_sst 1).1 (xm_sst 1).2.1 (xm_sst 1).2.2 (.ref (ad 3000)) (xm_A ad S H.size) U H)
theorem xm_B.same {B : List (Nat × Cell)} {ad : Nat → Nat} {S : List xC} {u U : State} {H : Heap} (hv : U.vm = u.vm) (h : xm_B B ad S u H) : xm_B B ad S U H := by
  have ha : u.vm.Alike U.vm := by rw [hv]; exact Vm.Alike.refl _
  exact ⟨h.1.moved ha, fun q hq => (h.2.1 q hq).same hv, h.2.2.1.moved ha, h.2.2.2.imp (fun z => z.moved ha) (fun z => z.moved ha)⟩
theorem xm_B.warm {B : List (Nat × Cell)} {ad : Nat → Nat} {S : List xC} {s U : State} {H : Heap} (hW : s.WarmedH U.vm) (h : xm_B B ad S s H) : xm_B B ad S U H := by
  have ha : s.vm.Alike U.vm := hW.alike
  exact ⟨h.1.moved ha, fun q hq => (h.2.1 q hq).warm hW, h.2.2.1.moved ha, h.2.2.2.imp (fun z => z.moved ha) (fun z => z.moved ha)⟩
theorem xm_B.kept {B : List (Nat × Cell)} {ad : Nat → Nat} {S : List xC} {U : State} {H0 H : Heap} (h : xm_B B ad S U H0) (hz : H0.size ≤ H.size) (hq : ∀ a : Nat, a < H0.size → ¬ xm_A ad S H0.size a → H[a]? = H0[a]?) : xm_B B ad S U H := by
  have hn : ∀ q, xm_A ad S H.size q → xm_A ad S H0.size q := fun q hq => hq.imp (fun z => z) (fun z => Nat.le_trans hz z)
  exact ⟨(h.1.kept hq).narrow hn, h.2.1, (h.2.2.1.kept hq).narrow hn, h.2.2.2.imp (fun z => (z.kept hq).narrow hn) (fun z => (z.kept hq).narrow hn)⟩
def xm_Pre (D : va_G) (cA : Nat → ClassId) (B : List (Nat × Cell)) (S : List xC) (ad : Nat → Nat) (sz : Nat) (av : List Value) (g : xG) : Array Value → State → Prop :=
  va_Pc (av.map (xm_cv ad)) (fun U => U.heap.size = sz ∧ va_P D vwCl (xm_ws ad cA g S) U.heap ∧ va_K D vwCl (xm_tys cA) U ∧ va_D (fun _ => True) (xm_ws ad cA g S) ∧ xm_B B ad S U U.heap)
def xm_Post (D : va_G) (cA : Nat → ClassId) (S : List xC) (ad : Nat → Nat) (sz : Nat) (Q : Option Value → xG → Prop) : Array Value → State → Outcome → State → Prop :=
  fun _ st oc t => (∃ (o : Option Value) (g' : xG), oc = .returned (o.map (xm_cv ad)) ∧ Q o g' ∧ va_P D vwCl (xm_ws ad cA g' S) t.heap) ∧ va_F (xm_A ad S sz) st t
def xm_Met (l : Launch) (D : va_G) (cA : Nat → ClassId) (B : List (Nat × Cell)) (S : List xC) (r : Nat) (y : MethodName) (bytes : ByteArray) (maxL : Nat) (ret : Option FieldType) (T : xT) : Prop :=
  ∀ (ad : Nat → Nat) (sz : Nat) (av : List Value) (g : xG) (Q : Option Value → xG → Prop), T av g Q → Met l y (.code y bytes maxL ret :: xm_tbl) (xm_rm r) (xm_Pre D cA B S ad sz av g) (xm_Post D cA S ad sz Q) 0 0 (xm_A ad S sz)
/-- a callee that the caller of rank r may use -/
def xm_LK (l : Launch) (D : va_G) (cA : Nat → ClassId) (B : List (Nat × Cell)) (S : List xC) (r : Nat) (own : String) (k : xK) (T : xT) : Prop :=
  (∃ (y : MethodName) (bytes : ByteArray) (maxL : Nat) (ret : Option FieldType) (r' : Nat), r' < r ∧ xm_ML own k y bytes maxL ret ∧ xm_Met l D cA B S r' y bytes maxL ret T) ∨ (xm_CP own k ∧ 2 ≤ r)
def xm_LKs (l : Launch) (D : va_G) (cA : Nat → ClassId) (B : List (Nat × Cell)) (S : List xC) (r : Nat) (own : String) : List xK → List xT → Prop
  | [], [] => True
  | k :: ks, T :: Ts => xm_LK l D cA B S r own k T ∧ xm_LKs l D cA B S r own ks Ts
  | _, _ => False
theorem xm_LKs_at {l : Launch} {D : va_G} {cA : Nat → ClassId} {B : List (Nat × Cell)} {S : List xC} {r : Nat} {own : String} : ∀ {ks : List xK} {Ts : List xT}, xm_LKs l D cA B S r own ks Ts → ∀ a, (xm_kth ks a).2.1 ≠ 9 → xm_LK l D cA B S r own (xm_kth ks a) (xm_tth Ts a)
  | [], [], _, _, hn => absurd rfl hn
  | [], _ :: _, h, _, _ => h.elim
  | _ :: _, [], h, _, _ => h.elim
  | _ :: _, _ :: _, h, 0, _ => h.1
  | _ :: ks, _ :: Ts, h, a + 1, hn => xm_LKs_at (ks := ks) (Ts := Ts) h.2 a hn
