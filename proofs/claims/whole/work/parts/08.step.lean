section
variable {p : Program} {l : Launch} {en : Env} {s : State} {m : MethodId} {args : Array Value} {below : List Frame} {meth : Method} {c : Code}
variable {cc : ByteArray} {nL r mc ms : Nat} {ret : Option FieldType} {own : String} {D : va_G} {cA : Nat → ClassId} {B : List (Nat × Cell)} {S : List xC} {ad : Nat → Nat}
variable {FL : List (Nat × Nat × Nat)} {IL LL : List (Nat × Int32)} {ks : List xK} {Ts : List xT} {C : List xE} {Q : Option Value → xG → Prop}
set_option maxHeartbeats 8000000 in
theorem xm_closed (F : xm_Fix p s m args meth c cc nL ret own D cA B S ad) (hcl : xm_cls) (hso : xm_sok S = true) (hFL : xm_FLs own FL) (hIL : xm_ILs own IL) (hLL : xm_LLs own LL) (hLK : xm_LKs l D cA B S r own ks Ts) (hchk : xm_chk2 cc ret FL IL LL ks C = true)
    (is : List xE) (L st : List Value) (g : xG) (k : xm_step S ks Ts C Q (xm_W p l en s m args below meth c nL r mc ms D cA S ad C Q) is L st g) : xm_W p l en s m args below meth c nL r mc ms D cA S ad C Q is L st g := by
  obtain ⟨⟨hx, hb, hml⟩, ⟨hr, hlocks⟩, hown, hts, hK, hB⟩ := F
  simp only [xm_chk2, Bool.and_eq_true] at hchk
  obtain ⟨hlin, hall⟩ := hchk
  cases is with
  | nil => exact k.elim
  | cons e r' =>
    refine ⟨e, r', rfl, fun hs H locs ls hP hD hS hl => ?_⟩
    have hE := List.all_eq_true.mp hall e (hs.subset List.mem_cons_self)
    obtain ⟨c0, pc, len, i, a, b, v, sw⟩ := e
    simp only [xm_chkE, Bool.and_eq_true, decide_eq_true_eq] at hE
    obtain ⟨hdg, hE⟩ := hE
    cases i
    case iconst n =>
      simp only [xm_step] at k
      simp only [Bool.and_eq_true, beq_iff_eq] at hE
      obtain ⟨rfl, rfl⟩ := hE
      exact lv_iconst hx hb hdg rfl (xm_W_next hlin hs rfl k hP hD hS hl)
    case bipush n =>
      simp only [xm_step] at k
      simp only [Bool.and_eq_true, beq_iff_eq] at hE
      obtain ⟨rfl, rfl⟩ := hE
      exact lv_bipush hx hb hdg rfl (xm_W_next hlin hs rfl k hP hD hS hl)
    case sipush n =>
      simp only [xm_step] at k
      simp only [Bool.and_eq_true, beq_iff_eq] at hE
      obtain ⟨rfl, rfl⟩ := hE
      exact lv_sipush hx hb hdg rfl (xm_W_next hlin hs rfl k hP hD hS hl)
    case lconst n =>
      simp only [xm_step] at k
      simp only [Bool.and_eq_true, beq_iff_eq] at hE
      obtain ⟨rfl, hv⟩ := hE
      exact lv_lconst hx hb hdg hv (xm_W_next hlin hs rfl k hP hD hS hl)
    case ldc n =>
      simp only [xm_step] at k
      simp only [Bool.and_eq_true, Bool.or_eq_true, beq_iff_eq, List.elem_eq_mem, decide_eq_true_eq] at hE
      obtain ⟨rfl, hv⟩ := hE
      rcases hv with ⟨rfl, hv⟩ | ⟨rfl, hv⟩
      · exact lv_ldc hx hb hown (hts _ (hIL _ hv)) hdg (xm_W_next hlin hs rfl k hP hD hS hl)
      · rcases hFL _ hv with ⟨cq, f1, -⟩ | hX
        · cases f1
        · rcases hX with ⟨h9, -⟩ | ⟨-, tx, htx⟩ | ⟨h9, -⟩
          · cases h9
          · exact va_ldcS hx hb hown (hB.2.1 _ htx) hdg (xm_W_next hlin hs rfl k hP hD hS hl)
          · cases h9
    case getstatic n =>
      simp only [xm_step] at k
      simp only [Bool.and_eq_true, beq_iff_eq, List.elem_eq_mem, decide_eq_true_eq] at hE
      obtain ⟨rfl, hf⟩ := hE
      rcases hFL _ hf with ⟨cq, f1, -⟩ | hX
      · cases f1
      · rcases hX with ⟨h9, -⟩ | ⟨h9, -⟩ | ⟨-, hl9⟩
        · cases h9
        · cases h9
        · cases b with
          | zero => exact va_gets hx hb hB.2.2.1 hS hown (hts _ hl9) (fun _ h => h) hdg (xm_W_next hlin hs rfl k hP hD hS hl)
          | succ b =>
            have e9 : xm_sst (b + 1) = xm_sst 1 := by simp [xm_sst]
            dsimp only at hl9
            rw [e9] at hl9
            rcases hB.2.2.2 with h8 | h8
            · exact va_gets hx hb h8 hS hown (hts _ hl9) (fun _ h => h) hdg (xm_W_next hlin hs rfl k.1 hP hD hS hl)
            · exact va_gets hx hb h8 hS hown (hts _ hl9) (fun _ h => h) hdg (xm_W_next hlin hs rfl k.2 hP hD hS hl)
    case ldc_w n =>
      simp only [xm_step] at k
      simp only [Bool.and_eq_true, beq_iff_eq, List.elem_eq_mem, decide_eq_true_eq] at hE
      obtain ⟨rfl, hv⟩ := hE
      exact lv_ldcw hx hb hown (hts _ (hIL _ hv)) hdg (xm_W_next hlin hs rfl k hP hD hS hl)
    case ldc2_w n =>
      simp only [xm_step] at k
      simp only [Bool.and_eq_true, beq_iff_eq, List.elem_eq_mem, decide_eq_true_eq] at hE
      obtain ⟨rfl, hv⟩ := hE
      exact lv_ldc2 hx hb hown (hts _ (hLL _ hv)) hdg (xm_W_next hlin hs rfl k hP hD hS hl)
    case iload n =>
      simp only [xm_step] at k
      simp only [beq_iff_eq] at hE
      subst hE
      split at k
      · rename_i x hg
        exact lv_iload hx hb hdg (hl.2.2.2 n _ (xm_get_at L n hg rfl) rfl) (xm_W_next hlin hs rfl k hP hD hS hl)
      · exact k.elim
    case iload_n n =>
      simp only [xm_step] at k
      simp only [beq_iff_eq] at hE
      subst hE
      split at k
      · rename_i x hg
        exact lv_iload_n hx hb hdg rfl (hl.2.2.2 n.val _ (xm_get_at L n.val hg rfl) rfl) (xm_W_next hlin hs rfl k hP hD hS hl)
      · exact k.elim
    case lload n =>
      simp only [xm_step] at k
      simp only [beq_iff_eq] at hE
      subst hE
      split at k
      · rename_i x hg
        exact lv_lload hx hb hdg (hl.2.2.2 n _ (xm_get_at L n hg rfl) rfl) (xm_W_next hlin hs rfl k hP hD hS hl)
      · exact k.elim
    case lload_n n =>
      simp only [xm_step] at k
      simp only [beq_iff_eq] at hE
      subst hE
      split at k
      · rename_i x hg
        exact lv_lload_n hx hb hdg rfl (hl.2.2.2 n.val _ (xm_get_at L n.val hg rfl) rfl) (xm_W_next hlin hs rfl k hP hD hS hl)
      · exact k.elim
    case aload n =>
      simp only [xm_step] at k
      simp only [beq_iff_eq] at hE
      subst hE
      split at k
      · rename_i x hg
        exact lv_aload hx hb hdg (hl.2.2.2 n _ (xm_get_at L n hg rfl) rfl) (xm_W_next hlin hs rfl k hP hD hS hl)
      · exact k.elim
    case aload_n n =>
      simp only [xm_step] at k
      simp only [beq_iff_eq] at hE
      subst hE
      split at k
      · rename_i x hg
        exact lv_aload_n hx hb hdg rfl (hl.2.2.2 n.val _ (xm_get_at L n.val hg rfl) rfl) (xm_W_next hlin hs rfl k hP hD hS hl)
      · exact k.elim
    case istore n =>
      simp only [xm_step] at k
      simp only [beq_iff_eq] at hE
      subst hE
      split at k
      · obtain ⟨L1, h1, h2, h3, h4, h5⟩ := xm_set_ok k
        exact lv_istore hx hb hdg (xm_L_has hl) (by rw [← hl.2.1]; exact h2) rfl (fun ls1 h6 => xm_W_next hlin hs rfl h1 hP hD hS (xm_L_store hl h3 h4 h5 h6))
      · exact k.elim
    case istore_n n =>
      simp only [xm_step] at k
      simp only [beq_iff_eq] at hE
      subst hE
      split at k
      · obtain ⟨L1, h1, h2, h3, h4, h5⟩ := xm_set_ok k
        exact lv_istore_n hx hb hdg rfl (xm_L_has hl) (by rw [← hl.2.1]; exact h2) rfl (fun ls1 h6 => xm_W_next hlin hs rfl h1 hP hD hS (xm_L_store hl h3 h4 h5 h6))
      · exact k.elim
    case astore n =>
      simp only [xm_step] at k
      simp only [beq_iff_eq] at hE
      subst hE
      split at k
      · obtain ⟨L1, h1, h2, h3, h4, h5⟩ := xm_set_ok k
        exact lv_astore hx hb hdg (xm_L_has hl) (by rw [← hl.2.1]; exact h2) rfl (fun ls1 h6 => xm_W_next hlin hs rfl h1 hP hD hS (xm_L_store hl h3 h4 h5 h6))
      · exact k.elim
    case astore_n n =>
      simp only [xm_step] at k
      simp only [beq_iff_eq] at hE
      subst hE
      split at k
      · obtain ⟨L1, h1, h2, h3, h4, h5⟩ := xm_set_ok k
        exact lv_astore_n hx hb hdg rfl (xm_L_has hl) (by rw [← hl.2.1]; exact h2) rfl (fun ls1 h6 => xm_W_next hlin hs rfl h1 hP hD hS (xm_L_store hl h3 h4 h5 h6))
      · exact k.elim
    case lstore n =>
      simp only [xm_step] at k
      simp only [beq_iff_eq] at hE
      subst hE
      split at k
      · obtain ⟨L1, k, a2, a3, a4, a5⟩ := xm_set_ok k
        obtain ⟨L2, k, b2, b3, b4, b5⟩ := xm_set_ok k
        obtain ⟨L3, k, d2, d3, d4, d5⟩ := xm_set_ok k
        refine lv_lstore hx hb hdg (xm_L_has hl) (by rw [← hl.2.1, ← a3]; exact b2) rfl (fun ls1 h6 => xm_W_next hlin hs rfl k hP hD hS (xm_L_store2 hl (by rw [d3, b3, a3]) d4 (fun j w hj hw hm => ?_) h6))
        obtain ⟨h7, h8⟩ := d5 j w hj hw hm
        have h9 : j ≠ n + 1 := fun q => by rw [q, b4] at h7; cases h7; cases hm
        obtain ⟨h10, -⟩ := b5 j w h9 h7 hm
        exact ⟨h9, a5 j w hj h10 hm⟩
      · exact k.elim
    case lstore_n n =>
      simp only [xm_step] at k
      simp only [beq_iff_eq] at hE
      subst hE
      split at k
      · obtain ⟨L1, k, a2, a3, a4, a5⟩ := xm_set_ok k
        obtain ⟨L2, k, b2, b3, b4, b5⟩ := xm_set_ok k
        obtain ⟨L3, k, d2, d3, d4, d5⟩ := xm_set_ok k
        refine lv_lstore_n hx hb hdg rfl (xm_L_has hl) (by rw [← hl.2.1, ← a3]; exact b2) rfl (fun ls1 h6 => xm_W_next hlin hs rfl k hP hD hS (xm_L_store2 hl (by rw [d3, b3, a3]) d4 (fun j w hj hw hm => ?_) h6))
        obtain ⟨h7, h8⟩ := d5 j w hj hw hm
        have h9 : j ≠ n.val + 1 := fun q => by rw [q, b4] at h7; cases h7; cases hm
        obtain ⟨h10, -⟩ := b5 j w h9 h7 hm
        exact ⟨h9, a5 j w hj h10 hm⟩
      · exact k.elim
    case iinc n x =>
      simp only [xm_step] at k
      simp only [Bool.and_eq_true, beq_iff_eq] at hE
      obtain ⟨rfl, rfl⟩ := hE
      split at k
      · rename_i x hg
        obtain ⟨L1, h1, h2, h3, h4, h5⟩ := xm_set_ok k
        obtain ⟨q, hq⟩ := List.getElem?_of_mem (xm_as_mem (ad := ad) (q := (n, .int x)).mpr ⟨_, xm_get_at L n hg rfl, rfl, rfl⟩)
        exact lv_iinc hx hb hdg (xm_L_has hl) hq rfl (by rw [← hl.2.1]; exact h2) rfl (fun ls1 h6 => xm_W_next hlin hs rfl h1 hP hD hS (xm_L_store hl h3 h4 h5 h6))
      · exact k.elim
    case iadd =>
      simp only [xm_step] at k
      simp only [beq_iff_eq] at hE
      subst hE
      split at k
      · exact lv_iadd hx hb hdg (xm_W_next hlin hs rfl k hP hD hS hl)
      · exact k.elim
    case isub =>
      simp only [xm_step] at k
      simp only [beq_iff_eq] at hE
      subst hE
      split at k
      · exact lv_isub hx hb hdg (xm_W_next hlin hs rfl k hP hD hS hl)
      · exact k.elim
    case imul =>
      simp only [xm_step] at k
      simp only [beq_iff_eq] at hE
      subst hE
      split at k
      · exact lv_imul hx hb hdg (xm_W_next hlin hs rfl k hP hD hS hl)
      · exact k.elim
    case iand =>
      simp only [xm_step] at k
      simp only [beq_iff_eq] at hE
      subst hE
      split at k
      · exact lv_iand hx hb hdg (xm_W_next hlin hs rfl k hP hD hS hl)
      · exact k.elim
    case ior =>
      simp only [xm_step] at k
      simp only [beq_iff_eq] at hE
      subst hE
      split at k
      · exact lv_ior hx hb hdg (xm_W_next hlin hs rfl k hP hD hS hl)
      · exact k.elim
    case ixor =>
      simp only [xm_step] at k
      simp only [beq_iff_eq] at hE
      subst hE
      split at k
      · exact lv_ixor hx hb hdg (xm_W_next hlin hs rfl k hP hD hS hl)
      · exact k.elim
    case ishl =>
      simp only [xm_step] at k
      simp only [beq_iff_eq] at hE
      subst hE
      split at k
      · exact lv_ishl hx hb hdg (xm_W_next hlin hs rfl k hP hD hS hl)
      · exact k.elim
    case ishr =>
      simp only [xm_step] at k
      simp only [beq_iff_eq] at hE
      subst hE
      split at k
      · exact lv_ishr hx hb hdg (xm_W_next hlin hs rfl k hP hD hS hl)
      · exact k.elim
    case ladd =>
      simp only [xm_step] at k
      simp only [beq_iff_eq] at hE
      subst hE
      split at k
      · exact lv_ladd hx hb hdg (xm_W_next hlin hs rfl k hP hD hS hl)
      · exact k.elim
    case lsub =>
      simp only [xm_step] at k
      simp only [beq_iff_eq] at hE
      subst hE
      split at k
      · exact lv_lsub hx hb hdg (xm_W_next hlin hs rfl k hP hD hS hl)
      · exact k.elim
    case lmul =>
      simp only [xm_step] at k
      simp only [beq_iff_eq] at hE
      subst hE
      split at k
      · exact lv_lmul hx hb hdg (xm_W_next hlin hs rfl k hP hD hS hl)
      · exact k.elim
    case ineg =>
      simp only [xm_step] at k
      simp only [beq_iff_eq] at hE
      subst hE
      split at k
      · exact lv_ineg hx hb hdg (xm_W_next hlin hs rfl k hP hD hS hl)
      · exact k.elim
    case iushr =>
      simp only [xm_step] at k
      simp only [beq_iff_eq] at hE
      subst hE
      split at k
      · exact lv_iushr hx hb hdg rfl (xm_W_next hlin hs rfl k hP hD hS hl)
      · exact k.elim
    case i2l =>
      simp only [xm_step] at k
      simp only [beq_iff_eq] at hE
      subst hE
      split at k
      · exact lv_i2l hx hb hdg rfl (xm_W_next hlin hs rfl k hP hD hS hl)
      · exact k.elim
    case l2i =>
      simp only [xm_step] at k
      simp only [beq_iff_eq] at hE
      subst hE
      split at k
      · exact lv_l2i hx hb hdg rfl (xm_W_next hlin hs rfl k hP hD hS hl)
      · exact k.elim
    case i2b =>
      simp only [xm_step] at k
      simp only [beq_iff_eq] at hE
      subst hE
      split at k
      · exact lv_i2b hx hb hdg rfl (xm_W_next hlin hs rfl k hP hD hS hl)
      · exact k.elim
    case i2c =>
      simp only [xm_step] at k
      simp only [beq_iff_eq] at hE
      subst hE
      split at k
      · exact lv_i2c hx hb hdg rfl (xm_W_next hlin hs rfl k hP hD hS hl)
      · exact k.elim
    case lcmp =>
      simp only [xm_step] at k
      simp only [beq_iff_eq] at hE
      subst hE
      split at k
      · exact W.lcmp hx hb hdg (xm_W_next hlin hs rfl k hP hD hS hl)
      · exact k.elim
    case idiv =>
      simp only [xm_step] at k
      simp only [beq_iff_eq] at hE
      subst hE
      split at k
      · exact lv_idiv hx hb hdg k.1 (xm_W_next hlin hs rfl k.2 hP hD hS hl)
      · exact k.elim
    case irem =>
      simp only [xm_step] at k
      simp only [beq_iff_eq] at hE
      subst hE
      split at k
      · exact lv_irem hx hb hdg k.1 (xm_W_next hlin hs rfl k.2 hP hD hS hl)
      · exact k.elim
    case dup =>
      simp only [xm_step] at k
      simp only [beq_iff_eq] at hE
      subst hE
      split at k
      · exact lv_dup hx hb hdg rfl (xm_W_next hlin hs rfl k hP hD hS hl)
      · exact lv_dup hx hb hdg rfl (xm_W_next hlin hs rfl k hP hD hS hl)
      · exact k.elim
    case dup2 =>
      simp only [xm_step] at k
      simp only [beq_iff_eq] at hE
      subst hE
      split at k
      · exact lv_dup2_11 hx hb hdg rfl rfl (xm_W_next hlin hs rfl k hP hD hS hl)
      · exact k.elim
    case pop =>
      simp only [xm_step] at k
      simp only [beq_iff_eq] at hE
      subst hE
      split at k
      · exact lv_pop hx hb hdg rfl (xm_W_next hlin hs rfl k hP hD hS hl)
      · exact lv_pop hx hb hdg rfl (xm_W_next hlin hs rfl k hP hD hS hl)
      · exact k.elim
    case goto off =>
      simp only [xm_step] at k
      simp only [Bool.and_eq_true, beq_iff_eq] at hE
      obtain ⟨rfl, ht⟩ := hE
      obtain ⟨tgt, h1, h2⟩ := xm_W_jump ht k hP hD hS hl
      exact lv_goto hx hb hdg h1 h2
    case ifCond cd off =>
      simp only [Bool.and_eq_true, beq_iff_eq] at hE
      obtain ⟨rfl, ht⟩ := hE
      obtain ⟨tgt, h1, h2⟩ := xm_tgt_ok (p := p) (l := l) (en := en) (s := s) (m := m) (args := args) (below := below) (meth := meth) (c := c) (nL := nL) (r := r) (mc := mc) (ms := ms) (D := D) (cA := cA) (S := S) (ad := ad) (Q := Q) ht
      cases cd
      case eq =>
        simp only [xm_step] at k
        split at k
        · exact lv_if_eq hx hb hdg h1 (fun q => h2 (k.1 q) hP hD hS hl) (fun q => xm_W_next hlin hs rfl (k.2 (q)) hP hD hS hl)
        · exact k.elim
      case ne =>
        simp only [xm_step] at k
        split at k
        · exact lv_if_ne hx hb hdg h1 (fun q => h2 (k.1 q) hP hD hS hl) (fun q => xm_W_next hlin hs rfl (k.2 (q)) hP hD hS hl)
        · exact k.elim
      case lt =>
        simp only [xm_step] at k
        split at k
        · exact lv_if_lt hx hb hdg h1 (fun q => h2 (k.1 q) hP hD hS hl) (fun q => xm_W_next hlin hs rfl (k.2 (Int32.not_lt.mp q)) hP hD hS hl)
        · exact k.elim
      case ge =>
        simp only [xm_step] at k
        split at k
        · exact lv_if_ge hx hb hdg h1 (fun q => h2 (k.1 q) hP hD hS hl) (fun q => xm_W_next hlin hs rfl (k.2 (Int32.not_le.mp q)) hP hD hS hl)
        · exact k.elim
      case gt =>
        simp only [xm_step] at k
        split at k
        · exact lv_if_gt hx hb hdg h1 (fun q => h2 (k.1 q) hP hD hS hl) (fun q => xm_W_next hlin hs rfl (k.2 (Int32.not_lt.mp q)) hP hD hS hl)
        · exact k.elim
      case le =>
        simp only [xm_step] at k
        split at k
        · exact lv_if_le hx hb hdg h1 (fun q => h2 (k.1 q) hP hD hS hl) (fun q => xm_W_next hlin hs rfl (k.2 (Int32.not_le.mp q)) hP hD hS hl)
        · exact k.elim
    case if_icmp cd off =>
      simp only [Bool.and_eq_true, beq_iff_eq] at hE
      obtain ⟨rfl, ht⟩ := hE
      obtain ⟨tgt, h1, h2⟩ := xm_tgt_ok (p := p) (l := l) (en := en) (s := s) (m := m) (args := args) (below := below) (meth := meth) (c := c) (nL := nL) (r := r) (mc := mc) (ms := ms) (D := D) (cA := cA) (S := S) (ad := ad) (Q := Q) ht
      cases cd
      case eq =>
        simp only [xm_step] at k
        split at k
        · exact lv_icmp_eq hx hb hdg h1 (fun q => h2 (k.1 q) hP hD hS hl) (fun q => xm_W_next hlin hs rfl (k.2 (q)) hP hD hS hl)
        · exact k.elim
      case ne =>
        simp only [xm_step] at k
        split at k
        · exact lv_icmp_ne hx hb hdg h1 (fun q => h2 (k.1 q) hP hD hS hl) (fun q => xm_W_next hlin hs rfl (k.2 (q)) hP hD hS hl)
        · exact k.elim
      case lt =>
        simp only [xm_step] at k
        split at k
        · exact lv_icmp_lt hx hb hdg h1 (fun q => h2 (k.1 q) hP hD hS hl) (fun q => xm_W_next hlin hs rfl (k.2 (Int32.not_lt.mp q)) hP hD hS hl)
        · exact k.elim
      case ge =>
        simp only [xm_step] at k
        split at k
        · exact lv_icmp_ge hx hb hdg h1 (fun q => h2 (k.1 q) hP hD hS hl) (fun q => xm_W_next hlin hs rfl (k.2 (Int32.not_le.mp q)) hP hD hS hl)
        · exact k.elim
      case gt =>
        simp only [xm_step] at k
        split at k
        · exact lv_icmp_gt hx hb hdg h1 (fun q => h2 (k.1 q) hP hD hS hl) (fun q => xm_W_next hlin hs rfl (k.2 (Int32.not_lt.mp q)) hP hD hS hl)
        · exact k.elim
      case le =>
        simp only [xm_step] at k
        split at k
        · exact lv_icmp_le hx hb hdg h1 (fun q => h2 (k.1 q) hP hD hS hl) (fun q => xm_W_next hlin hs rfl (k.2 (Int32.not_le.mp q)) hP hD hS hl)
        · exact k.elim
    case tableswitch d lo hi offs =>
      simp only [xm_step] at k
      simp only [Bool.and_eq_true, beq_iff_eq] at hE
      obtain ⟨⟨rfl, hd⟩, hsw⟩ := hE
      split at k
      · rcases xm_swt_ok hsw k with ⟨off, t, h1, h2, h3, h4, h5⟩ | ⟨h1, h5⟩
        · obtain ⟨tgt, g1, g2⟩ := xm_W_jump h4 h5 hP hD hS hl
          exact lv_tableIn hx hb hdg h1 (by omega) (by rw [← Array.getElem?_toList]; exact h3) g1 g2
        · obtain ⟨tgt, g1, g2⟩ := xm_W_jump hd h5 hP hD hS hl
          exact lv_tableOut hx hb hdg (by omega) g1 g2
      · exact k.elim
    case lookupswitch d ps =>
      simp only [xm_step] at k
      simp only [Bool.and_eq_true] at hE
      obtain ⟨⟨hp, hd⟩, hsw⟩ := hE
      split at k
      · obtain ⟨off, t, h1, h4, h5⟩ := xm_swl_ok hd hsw k
        obtain ⟨tgt, g1, g2⟩ := xm_W_jump h4 h5 hP hD hS hl
        exact lv_lookup hx hb hdg hp h1 g1 g2
      · exact k.elim
    case getfield n =>
      simp only [xm_step] at k
      simp only [Bool.and_eq_true, beq_iff_eq, List.elem_eq_mem, decide_eq_true_eq] at hE
      obtain ⟨rfl, hf⟩ := hE
      split at k
      · rename_i ka st1
        split at k
        · rename_i ci fs hn
          split at k
          · rename_i hci
            have hci := Nat.eq_of_beq_eq_true hci
            subst hci
            have hn := xm_nth_r hn
            obtain ⟨cq2, g1, g2, g3⟩ := xm_sok_at hso hn
            obtain ⟨cq, f1, f2, f3⟩ := xm_FL_of (hFL _ hf) g1
            have : cq2 = cq := Option.some.inj (g1.symm.trans f1)
            subst this
            have key : ∀ (f : Nat × Nat), fs[b]? = some f → (fs.mapIdx (fun j f => xm_fv ad g ka j f))[b]? = some (xm_fv ad g ka b f) := fun f hf => by rw [List.getElem?_mapIdx, hf]; rfl
            split at k
            · rename_i t hq
              exact va_get hx hb hts (hcl _ _ f1).1 hown hK hP _ (xm_ws_at hn) f1 b f2 (hts _ f3) (fun _ h9 => h9) (key _ (xm_fld_at hq (by decide))) hdg (xm_W_next hlin hs rfl k hP hD hS hl)
            · rename_i t hq
              exact va_get hx hb hts (hcl _ _ f1).1 hown hK hP _ (xm_ws_at hn) f1 b f2 (hts _ f3) (fun _ h9 => h9) (key _ (xm_fld_at hq (by decide))) hdg (xm_W_next hlin hs rfl k hP hD hS hl)
            · rename_i t hq
              exact va_get hx hb hts (hcl _ _ f1).1 hown hK hP _ (xm_ws_at hn) f1 b f2 (hts _ f3) (fun _ h9 => h9) (key _ (xm_fld_at hq (by decide))) hdg (xm_W_next hlin hs rfl k hP hD hS hl)
            · rename_i t hq
              obtain ⟨k1, k⟩ := k
              subst k1
              exact va_get hx hb hts (hcl _ _ f1).1 hown hK hP _ (xm_ws_at hn) f1 b f2 (hts _ f3) (fun _ h9 => h9) (key _ (xm_fld_at hq (by decide))) hdg (xm_W_next hlin hs rfl k hP hD hS hl)
            · rename_i t hq
              obtain ⟨t1, k1, k⟩ := k
              subst k1
              exact va_get hx hb hts (hcl _ _ f1).1 hown hK hP _ (xm_ws_at hn) f1 b f2 (hts _ f3) (fun _ h9 => h9) (key _ (xm_fld_at hq (by decide))) hdg (xm_W_next hlin hs rfl k hP hD hS hl)
            · exact k.elim
          · exact k.elim
        · split at k
          · rename_i h9
            have h9 := Nat.eq_of_beq_eq_true h9
            split at k
            · rename_i h8
              obtain ⟨i, hi, rfl⟩ := xm_ble2 h8
              rcases hFL _ hf with ⟨cq, f1, -⟩ | hX
              · rw [h9] at f1; cases f1
              · rcases hX with ⟨-, hl9⟩ | ⟨h7, -⟩ | ⟨h7, -⟩
                · cases b with
                  | zero => exact vk_getf hx hb (hB.1.1 i hi).2.2.1 hS hown (hts _ hl9) (fun _ h => h) hdg (xm_W_next hlin hs rfl (by rw [show 1000 + i + 1000 = 2000 + i by omega] at k; exact k) hP hD hS hl)
                  | succ b =>
                    have e9 : xm_sfd (b + 1) = xm_sfd 1 := by simp [xm_sfd]
                    dsimp only at hl9
                    rw [e9] at hl9
                    exact vk_getf hx hb (hB.1.1 i hi).2.1 hS hown (hts _ hl9) (fun _ h => h) hdg (xm_W_next hlin hs rfl k hP hD hS hl)
                · rw [h9] at h7; cases h7
                · rw [h9] at h7; cases h7
            · exact k.elim
          · exact k.elim
        · exact k.elim
      · exact k.elim
    case putfield n =>
      simp only [xm_step] at k
      simp only [Bool.and_eq_true, beq_iff_eq, List.elem_eq_mem, decide_eq_true_eq] at hE
      obtain ⟨rfl, hf⟩ := hE
      split at k
      · rename_i x1 ka st1
        split at k
        · rename_i ci fs hn
          split at k
          · rename_i hci
            have hci := Nat.eq_of_beq_eq_true hci
            subst hci
            have hn := xm_nth_r hn
            obtain ⟨cq2, g1, g2, g3⟩ := xm_sok_at hso hn
            obtain ⟨cq, f1, f2, f3⟩ := xm_FL_of (hFL _ hf) g1
            obtain ⟨hin, ⟨ty0, hty⟩, hnm⟩ := hcl _ _ f1
            have : cq2 = cq := Option.some.inj (g1.symm.trans f1)
            subst this
            have hlen : b < (fs.mapIdx (fun j f => xm_fv ad g ka j f)).length := by rw [List.length_mapIdx, g2]; exact f2
            split at k
            · rename_i t hq
              have hq := xm_fld_at hq (by decide)
              have h3 := g3 b _ hq
              simp only [xm_fok, Bool.and_eq_true, Bool.not_eq_true', decide_eq_true_eq] at h3
              refine va_put hx hb hts hin ty0 hty hnm hown hK hP hD hS _ (xm_ws_at hn) f1 b f2 (hts _ f3) (fun _ h9 => h9) h3.1 h3.2 rfl rfl hlen hdg (fun H1 locs1 hP hD hS => ?_)
              have ew := xm_ws_set (ad := ad) (cA := cA) (g := g) (g' := xm_sI g ka b x1) hn (fun i hi => xm_u2_off _ _ _ _ i hi) (fun i hi => rfl) (fun i hi => rfl)
              rw [xm_ce_sI hq (Or.inl rfl)] at ew
              exact xm_W_next hlin hs rfl k (by rw [← ew]; exact hP) (by rw [← ew]; exact hD) hS hl
            · rename_i t hq
              obtain ⟨k1, k⟩ := k
              have hq := xm_fld_at hq (by decide)
              have h3 := g3 b _ hq
              simp only [xm_fok, Bool.and_eq_true, Bool.not_eq_true', decide_eq_true_eq] at h3
              refine va_put hx hb hts hin ty0 hty hnm hown hK hP hD hS _ (xm_ws_at hn) f1 b f2 (hts _ f3) (fun _ h9 => h9) h3.1 h3.2 (xm_bn k1).1 (xm_bn k1).2 hlen hdg (fun H1 locs1 hP hD hS => ?_)
              have ew := xm_ws_set (ad := ad) (cA := cA) (g := g) (g' := xm_sI g ka b x1) hn (fun i hi => xm_u2_off _ _ _ _ i hi) (fun i hi => rfl) (fun i hi => rfl)
              rw [xm_ce_sI hq (Or.inr rfl)] at ew
              exact xm_W_next hlin hs rfl k (by rw [← ew]; exact hP) (by rw [← ew]; exact hD) hS hl
            · exact k.elim
          · exact k.elim
        · exact k.elim
      · rename_i x1 ka st1
        split at k
        · rename_i ci fs hn
          split at k
          · rename_i hci
            have hci := Nat.eq_of_beq_eq_true hci
            subst hci
            have hn := xm_nth_r hn
            obtain ⟨cq2, g1, g2, g3⟩ := xm_sok_at hso hn
            obtain ⟨cq, f1, f2, f3⟩ := xm_FL_of (hFL _ hf) g1
            obtain ⟨hin, ⟨ty0, hty⟩, hnm⟩ := hcl _ _ f1
            have : cq2 = cq := Option.some.inj (g1.symm.trans f1)
            subst this
            have hlen : b < (fs.mapIdx (fun j f => xm_fv ad g ka j f)).length := by rw [List.length_mapIdx, g2]; exact f2
            split at k
            · rename_i t hq
              have hq := xm_fld_at hq (by decide)
              have h3 := g3 b _ hq
              simp only [xm_fok, Bool.and_eq_true, Bool.not_eq_true'] at h3
              obtain ⟨h3, h4⟩ := h3
              split at h4
              · rename_i dn hdn
                refine va_put hx hb hts hin ty0 hty hnm hown hK hP hD hS _ (xm_ws_at hn) f1 b f2 (hts _ f3) (fun _ h9 => h9) h3 hdn rfl rfl hlen hdg (fun H1 locs1 hP hD hS => ?_)
                have ew := xm_ws_set (ad := ad) (cA := cA) (g := g) (g' := xm_sR g ka b x1) hn (fun i hi => rfl) (fun i hi => rfl) (fun i hi => xm_u2N_off _ _ _ _ i hi)
                rw [xm_ce_sR (Or.inl rfl) hq] at ew
                exact xm_W_next hlin hs rfl k (by rw [← ew]; exact hP) (by rw [← ew]; exact hD) hS hl
              · cases h4
            · rename_i t hq
              have hq := xm_fld_at hq (by decide)
              have h3 := g3 b _ hq
              simp only [xm_fok, Bool.and_eq_true, Bool.not_eq_true'] at h3
              obtain ⟨h3, h4⟩ := h3
              split at h4
              · rename_i dn hdn
                refine va_put hx hb hts hin ty0 hty hnm hown hK hP hD hS _ (xm_ws_at hn) f1 b f2 (hts _ f3) (fun _ h9 => h9) h3 hdn rfl rfl hlen hdg (fun H1 locs1 hP hD hS => ?_)
                have ew := xm_ws_set (ad := ad) (cA := cA) (g := g) (g' := xm_sR g ka b x1) hn (fun i hi => rfl) (fun i hi => rfl) (fun i hi => xm_u2N_off _ _ _ _ i hi)
                rw [xm_ce_sR (Or.inr rfl) hq] at ew
                exact xm_W_next hlin hs rfl k (by rw [← ew]; exact hP) (by rw [← ew]; exact hD) hS hl
              · cases h4
            · exact k.elim
          · exact k.elim
        · exact k.elim
      · exact k.elim
    case iaload =>
      simp only [xm_step] at k
      simp only [beq_iff_eq] at hE
      subst hE
      split at k
      · split at k
        · rename_i n hn
          obtain ⟨j, hj, k⟩ := k
          have hn := xm_nth_l hn (by decide)
          obtain ⟨h1, h2⟩ := xm_ix hj (xm_sok_n hso hn)
          refine va_iald hx hb hK hP _ 0 (xm_ws_at hn) rfl h1 hdg ?_
          rw [h2]
          exact (xm_W_next hlin hs rfl k hP hD hS hl)
        · exact k.elim
      · exact k.elim
    case baload =>
      simp only [xm_step] at k
      simp only [beq_iff_eq] at hE
      subst hE
      split at k
      · split at k
        · rename_i n hn
          obtain ⟨j, hj, k⟩ := k
          have hn := xm_nth_l hn (by decide)
          obtain ⟨h1, h2⟩ := xm_ix hj (xm_sok_n hso hn)
          refine va_bald hx hb hK hP _ 1 (xm_ws_at hn) rfl h1 hdg ?_
          rw [h2]
          exact (xm_W_next hlin hs rfl k hP hD hS hl)
        · rename_i n hn
          obtain ⟨j, hj, k⟩ := k
          have hn := xm_nth_l hn (by decide)
          obtain ⟨h1, h2⟩ := xm_ix hj (xm_sok_n hso hn)
          refine va_zald hx hb hK hP _ 2 (xm_ws_at hn) rfl h1 hdg ?_
          rw [h2]
          exact (xm_W_next hlin hs rfl k hP hD hS hl)
        · split at k
          · rename_i h8
            obtain ⟨i, hi, rfl⟩ := xm_ble3 h8
            obtain ⟨j, ⟨hj, rfl⟩, k⟩ := k
            rw [show 2000 + i - 2000 = i by omega] at hj k
            have hb31 : xm_ln.getD i 0 < 2 ^ 31 := xm_ln_b i
            exact va_tb hx hb (hB.1.1 i hi).2.2.2 hS (vp_in_nI hj hb31) (by rw [nI_clamp (by omega)]; rfl) hdg (xm_W_next hlin hs rfl k hP hD hS hl)
          · exact k.elim
        · exact k.elim
      · exact k.elim
    case laload =>
      simp only [xm_step] at k
      simp only [beq_iff_eq] at hE
      subst hE
      split at k
      · split at k
        · rename_i n hn
          obtain ⟨j, hj, k⟩ := k
          have hn := xm_nth_l hn (by decide)
          obtain ⟨h1, h2⟩ := xm_ix hj (xm_sok_n hso hn)
          refine va_lald hx hb hK hP _ 3 (xm_ws_at hn) rfl h1 hdg ?_
          rw [h2]
          exact (xm_W_next hlin hs rfl k hP hD hS hl)
        · exact k.elim
      · exact k.elim
    case iastore =>
      simp only [xm_step] at k
      simp only [beq_iff_eq] at hE
      subst hE
      have hD0 := hD
      split at k
      · rename_i x1 i1 ka st1
        split at k
        · rename_i n hn
          obtain ⟨j, hj, k⟩ := k
          have hn := xm_nth_l hn (by decide)
          obtain ⟨h1, h2⟩ := xm_ix hj (xm_sok_n hso hn)
          refine va_iast hx hb hK hP hD hS _ 0 (xm_ws_at hn) rfl h1 hdg (fun H1 locs1 hP hD hS => ?_)
          have ew := xm_ws_set (ad := ad) (cA := cA) (g := g) (g' := xm_sI g ka j x1) hn (fun i hi => xm_u2_off _ _ _ _ i hi) (fun i hi => rfl) (fun i hi => rfl)
          rw [h2] at hP hD
          have hP : va_P D vwCl (xm_ws ad cA (xm_sI g ka j x1) S) H1 := by rw [← ew]; simpa only [xm_ce, xm_sI, xm_sL, xm_u2_row, xm_u2L_row] using hP
          exact xm_W_next hlin hs rfl k hP (xm_D_cong hD0) hS hl
        · exact k.elim
      · exact k.elim
    case bastore =>
      simp only [xm_step] at k
      simp only [beq_iff_eq] at hE
      subst hE
      have hD0 := hD
      split at k
      · rename_i x1 i1 ka st1
        split at k
        · rename_i n hn
          obtain ⟨j, hj, k⟩ := k
          have hn := xm_nth_l hn (by decide)
          obtain ⟨h1, h2⟩ := xm_ix hj (xm_sok_n hso hn)
          refine va_bast hx hb hK hP hD hS _ 1 (xm_ws_at hn) rfl h1 hdg (fun H1 locs1 hP hD hS => ?_)
          have ew := xm_ws_set (ad := ad) (cA := cA) (g := g) (g' := xm_sI g ka j x1.toInt8.toInt32) hn (fun i hi => xm_u2_off _ _ _ _ i hi) (fun i hi => rfl) (fun i hi => rfl)
          rw [h2] at hP hD
          have hP : va_P D vwCl (xm_ws ad cA (xm_sI g ka j x1.toInt8.toInt32) S) H1 := by rw [← ew]; simpa only [xm_ce, xm_sI, xm_sL, xm_u2_row, xm_u2L_row, vp_nar_byte] using hP
          exact xm_W_next hlin hs rfl k hP (xm_D_cong hD0) hS hl
        · rename_i n hn
          obtain ⟨j, ⟨hj1, hj2, hz⟩, k⟩ := k
          have hn := xm_nth_l hn (by decide)
          obtain ⟨h1, h2⟩ := xm_ix ⟨hj1, hj2⟩ (xm_sok_n hso hn)
          have hnz := xm_nar_bool hz
          refine va_zast hx hb hK hP hD hS _ 2 (xm_ws_at hn) rfl h1 hdg (fun H1 locs1 hP hD hS => ?_)
          have ew := xm_ws_set (ad := ad) (cA := cA) (g := g) (g' := xm_sI g ka j x1) hn (fun i hi => xm_u2_off _ _ _ _ i hi) (fun i hi => rfl) (fun i hi => rfl)
          rw [h2] at hP hD
          have hP : va_P D vwCl (xm_ws ad cA (xm_sI g ka j x1) S) H1 := by rw [← ew]; simpa only [xm_ce, xm_sI, xm_sL, xm_u2_row, xm_u2L_row, hnz] using hP
          exact xm_W_next hlin hs rfl k hP (xm_D_cong hD0) hS hl
        · exact k.elim
      · exact k.elim
    case lastore =>
      simp only [xm_step] at k
      simp only [beq_iff_eq] at hE
      subst hE
      have hD0 := hD
      split at k
      · rename_i x1 i1 ka st1
        split at k
        · rename_i n hn
          obtain ⟨j, hj, k⟩ := k
          have hn := xm_nth_l hn (by decide)
          obtain ⟨h1, h2⟩ := xm_ix hj (xm_sok_n hso hn)
          refine va_last hx hb hK hP hD hS _ 3 (xm_ws_at hn) rfl h1 hdg (fun H1 locs1 hP hD hS => ?_)
          have ew := xm_ws_set (ad := ad) (cA := cA) (g := g) (g' := xm_sL g ka j x1) hn (fun i hi => rfl) (fun i hi => xm_u2L_off _ _ _ _ i hi) (fun i hi => rfl)
          rw [h2] at hP hD
          have hP : va_P D vwCl (xm_ws ad cA (xm_sL g ka j x1) S) H1 := by rw [← ew]; simpa only [xm_ce, xm_sI, xm_sL, xm_u2_row, xm_u2L_row] using hP
          exact xm_W_next hlin hs rfl k hP (xm_D_cong hD0) hS hl
        · exact k.elim
      · exact k.elim
    case arraylength =>
      simp only [xm_step] at k
      simp only [beq_iff_eq] at hE
      subst hE
      split at k
      · split at k
        · rename_i n hn
          have hn := xm_nth_l hn (by decide)
          exact va_alen hx hb hK hP _ 0 (xm_ws_at hn) rfl rfl hdg (xm_W_next hlin hs rfl k hP hD hS hl)
        · rename_i n hn
          have hn := xm_nth_l hn (by decide)
          exact va_alen hx hb hK hP _ 1 (xm_ws_at hn) rfl rfl hdg (xm_W_next hlin hs rfl k hP hD hS hl)
        · rename_i n hn
          have hn := xm_nth_l hn (by decide)
          exact va_alen hx hb hK hP _ 2 (xm_ws_at hn) rfl rfl hdg (xm_W_next hlin hs rfl k hP hD hS hl)
        · rename_i n hn
          have hn := xm_nth_l hn (by decide)
          exact va_alen hx hb hK hP _ 3 (xm_ws_at hn) rfl rfl hdg (xm_W_next hlin hs rfl k hP hD hS hl)
        · split at k
          · rename_i h8
            obtain ⟨i, hi, rfl⟩ := xm_ble3 h8
            rw [show 2000 + i - 2000 = i by omega] at k
            exact va_tlen hx hb (hB.1.1 i hi).2.2.2 hS rfl hdg (xm_W_next hlin hs rfl k hP hD hS hl)
          · exact k.elim
        · exact k.elim
      · exact k.elim
    case invokevirtual n =>
      simp only [xm_step] at k
      simp only [Bool.and_eq_true, Bool.or_eq_true, beq_iff_eq, xm_isK] at hE
      obtain ⟨rfl, hi⟩ := hE
      have hi1 : (xm_kth ks a).1 = n := by rcases hi with q | q <;> exact q.1
      split at k
      · rename_i idx na ci hk
        obtain ⟨av, rest, k2, rfl, hna⟩ := xm_pop_ok0 k
        clear k
        have k := k2
        have LK := xm_LKs_at hLK a (by rw [hk]; show (0 : Nat) ≠ 9; decide)
        rw [hk] at LK hi1
        dsimp only at hi1
        subst hi1
        split at k
        · rename_i ka As
          split at k
          · rename_i ci1 fs hn
            split at k
            · rename_i hci hcat
              have hci := Nat.eq_of_beq_eq_true hci
              subst hci
              have hn := xm_nth_r hn
              rcases LK with ⟨y, bytes, maxL, ret1, r1, hr1, hML, hMet⟩ | ⟨hcp, -⟩
              · obtain ⟨⟨w1, w2, w3, w4⟩, ⟨y1, y2⟩, hkind⟩ := hML
                rcases hkind with ⟨-, hpar, hinst, hsel, cq, c1, c2⟩ | ⟨h9, -⟩ | ⟨h9, -⟩
                · have hpar2 : (parseMethodDescriptor y.desc).map (fun d => d.parameters.length) = some (As.map (xm_cv ad)).length := by
                    cases hd : parseMethodDescriptor y.desc with
                    | none => rw [hd] at hpar; cases hpar
                    | some d => rw [hd] at hpar; simp only [Option.map_some, Option.some.injEq, List.length_map] at hpar ⊢; simp only [List.length_cons] at hna; omega
                  have cb := callB_of (R := xm_rq r mc ms) (s := s) (args := args) (own := own) (mc := 0) (ms := 0) (rm := xm_rm r1) _ hts (xm_goodIn w3) rfl rfl rfl (hts _ w2) (hts _ w1) ⟨y1, y2, hpar2⟩ ⟨by show r1 + 1 ≤ r; omega, by show 8 + (maxL + 11) + 60 * r1 ≤ 60 * r; omega⟩
                  refine xm_call (va_runV (As := As.map (xm_cv ad)) (rest := rest.map (xm_cv ad)) (b := ad ka) ⟨hx, hb, hml, hown, hts⟩ (hMet ad H.size _ g _ k) ⟨cb, hts _ hinst, hts _ hsel⟩ ⟨fun a U g mk q => by obtain ⟨q0, q1, qP, qK, qD, qB⟩ := q; exact ⟨q0, q1, qP, va_K.moved (u := U) (U := U.calling g mk a) (Vm.Alike.refl U.vm) qK, qD, xm_B.same (u := U) (U := U.calling g mk a) rfl qB⟩, c2 ▸ va_recv hK hP c1 (xm_ws_at hn), fun U hU hW => ⟨rfl, by rw [hU], by rw [hU]; exact hP, va_K.moved hW.alike hK, hD.weaken (fun _ _ _ _ => trivial), by rw [hU]; exact (xm_B_kept hB hS).warm hW⟩⟩ rfl rfl hl.1 (by simp [xm_cv]) (lv_room (by rw [xm_cat_sum]; exact Nat.le_of_ble_eq_true hcat)) hdg ⟨Nat.le_refl _, Nat.le_refl _⟩) hS (A1 := xm_A ad S H.size) ?_ ?_ ?_ ?_
                  · exact fun st₀ o t q => q.2
                  · rintro q hq (⟨z, hz, rfl⟩ | h9)
                    · exact Or.inl ⟨z, hz, rfl⟩
                    · omega
                  · rintro q (⟨z, hz, rfl⟩ | h9)
                    · exact Or.inl ⟨z, hz, rfl⟩
                    · exact Or.inr (Nat.le_trans hS.1 h9)
                  · intro o st₀ t locs1 h0 hq hS1
                    obtain ⟨⟨o1, g1, ho, hQ, hP1⟩, -⟩ := hq
                    cases ho
                    cases o1 with
                    | none => exact xm_W_next hlin hs rfl hQ hP1 (xm_D_cong hD) hS1 hl
                    | some x => exact xm_W_next hlin hs rfl hQ hP1 (xm_D_cong hD) hS1 hl
                · cases h9
                · cases h9
              · cases hcp.1
            · exact k.elim
          · exact k.elim
        · exact k.elim
      · rename_i idx na ci hk
        obtain ⟨av, rest, k2, rfl, hna⟩ := xm_pop_ok0 k
        clear k
        have k := k2
        have LK := xm_LKs_at hLK a (by rw [hk]; show (3 : Nat) ≠ 9; decide)
        rw [hk] at LK hi1
        dsimp only at hi1
        subst hi1
        split at k
        · rename_i ka As
          split at k
          · rename_i h8
            obtain ⟨i, hi, rfl⟩ := xm_ble2 h8
            split at k
            · rename_i hcat
              rcases LK with ⟨y, bytes, maxL, ret1, r1, hr1, hML, hMet⟩ | ⟨hcp, -⟩
              · obtain ⟨⟨w1, w2, w3, w4⟩, ⟨y1, y2⟩, hkind⟩ := hML
                rcases hkind with ⟨h9, -⟩ | ⟨h9, -⟩ | ⟨-, hpar, hinst, hsel, hys⟩
                · cases h9
                · cases h9
                · have hpar2 : (parseMethodDescriptor y.desc).map (fun d => d.parameters.length) = some (As.map (xm_cv ad)).length := by
                    cases hd : parseMethodDescriptor y.desc with
                    | none => rw [hd] at hpar; cases hpar
                    | some d => rw [hd] at hpar; simp only [Option.map_some, Option.some.injEq, List.length_map] at hpar ⊢; simp only [List.length_cons] at hna; omega
                  have cb := callB_of (R := xm_rq r mc ms) (s := s) (args := args) (own := own) (mc := 0) (ms := 0) (rm := xm_rm r1) _ hts (xm_goodIn w3) rfl rfl rfl (hts _ w2) (hts _ w1) ⟨y1, y2, hpar2⟩ ⟨by show r1 + 1 ≤ r; omega, by show 8 + (maxL + 11) + 60 * r1 ≤ 60 * r; omega⟩
                  have rc : ∃ cell : Cell, H[ad (1000 + i)]? = some cell ∧ cell.vm.isStatics = false ∧ s.vm.findClass y.cls = some cell.cls := by rw [hys]; exact vk_recv (i := i) hB.1 hi hS
                  refine xm_call (va_runV (As := As.map (xm_cv ad)) (rest := rest.map (xm_cv ad)) (b := ad (1000 + i)) ⟨hx, hb, hml, hown, hts⟩ (hMet ad H.size _ g _ k) ⟨cb, hts _ hinst, hts _ hsel⟩ ⟨fun a U g mk q => by obtain ⟨q0, q1, qP, qK, qD, qB⟩ := q; exact ⟨q0, q1, qP, va_K.moved (u := U) (U := U.calling g mk a) (Vm.Alike.refl U.vm) qK, qD, xm_B.same (u := U) (U := U.calling g mk a) rfl qB⟩, rc, fun U hU hW => ⟨rfl, by rw [hU], by rw [hU]; exact hP, va_K.moved hW.alike hK, hD.weaken (fun _ _ _ _ => trivial), by rw [hU]; exact (xm_B_kept hB hS).warm hW⟩⟩ rfl rfl hl.1 (by simp [xm_cv]) (lv_room (by rw [xm_cat_sum]; exact Nat.le_of_ble_eq_true hcat)) hdg ⟨Nat.le_refl _, Nat.le_refl _⟩) hS (A1 := xm_A ad S H.size) ?_ ?_ ?_ ?_
                  · exact fun st₀ o t q => q.2
                  · rintro q hq (⟨z, hz, rfl⟩ | h9)
                    · exact Or.inl ⟨z, hz, rfl⟩
                    · omega
                  · rintro q (⟨z, hz, rfl⟩ | h9)
                    · exact Or.inl ⟨z, hz, rfl⟩
                    · exact Or.inr (Nat.le_trans hS.1 h9)
                  · intro o st₀ t locs1 h0 hq hS1
                    obtain ⟨⟨o1, g1, ho, hQ, hP1⟩, -⟩ := hq
                    cases ho
                    cases o1 with
                    | none => exact xm_W_next hlin hs rfl hQ hP1 (xm_D_cong hD) hS1 hl
                    | some x => exact xm_W_next hlin hs rfl hQ hP1 (xm_D_cong hD) hS1 hl
              · cases hcp.1
            · exact k.elim
          · exact k.elim
        · exact k.elim
      · exact k.elim
    case invokestatic n =>
      simp only [xm_step] at k
      simp only [Bool.and_eq_true, Bool.or_eq_true, beq_iff_eq, xm_isK] at hE
      obtain ⟨rfl, hi⟩ := hE
      have hi1 : (xm_kth ks a).2.1 = 9 ∨ (xm_kth ks a).1 = n := by
        rcases hi with (q | q) | q
        · exact Or.inr q.1
        · exact Or.inr q.1
        · exact Or.inl q
      split at k
      · rename_i idx na ci hk
        obtain ⟨av, rest, k2, rfl, hna⟩ := xm_pop_ok0 k
        clear k
        have k := k2
        have LK := xm_LKs_at hLK a (by rw [hk]; show (1 : Nat) ≠ 9; decide)
        rw [hk] at LK hi1
        dsimp only at hi1
        have hi1 := hi1.resolve_left (by decide)
        subst hi1
        split at k
        · rename_i hcat
          rcases LK with ⟨y, bytes, maxL, ret1, r1, hr1, hML, hMet⟩ | ⟨hcp, -⟩
          · obtain ⟨⟨w1, w2, w3, w4⟩, ⟨y1, y2⟩, hkind⟩ := hML
            rcases hkind with ⟨h9, -⟩ | ⟨-, hpar, hstat⟩ | ⟨h9, -⟩
            · cases h9
            · have hpar2 : (parseMethodDescriptor y.desc).map (fun d => d.parameters.length) = some (av.map (xm_cv ad)).length := by rw [hpar, List.length_map, hna]
              have cb := callB_of (R := xm_rq r mc ms) (s := s) (args := args) (own := own) (mc := 0) (ms := 0) (rm := xm_rm r1) _ hts (xm_goodIn w3) rfl rfl rfl (hts _ w2) (hts _ w1) ⟨y1, y2, hpar2⟩ ⟨by show r1 + 1 ≤ r; omega, by show 8 + (maxL + 11) + 60 * r1 ≤ 60 * r; omega⟩
              refine xm_call (va_runS (As := av.map (xm_cv ad)) (rest := rest.map (xm_cv ad)) ⟨hx, hb, hml, hown, hts⟩ (hMet ad H.size _ g _ k) ⟨cb, hts _ hstat⟩ ⟨fun a U g mk q => by obtain ⟨q0, q1, qP, qK, qD, qB⟩ := q; exact ⟨q0, q1, qP, va_K.moved (u := U) (U := U.calling g mk a) (Vm.Alike.refl U.vm) qK, qD, xm_B.same (u := U) (U := U.calling g mk a) rfl qB⟩, fun U hU hW => ⟨rfl, by rw [hU], by rw [hU]; exact hP, va_K.moved hW.alike hK, hD.weaken (fun _ _ _ _ => trivial), by rw [hU]; exact (xm_B_kept hB hS).warm hW⟩⟩ rfl rfl hl.1 (by simp) (lv_room (by rw [xm_cat_sum]; exact Nat.le_of_ble_eq_true hcat)) hdg ⟨Nat.le_refl _, Nat.le_refl _⟩) hS (A1 := xm_A ad S H.size) ?_ ?_ ?_ ?_
              · exact fun st₀ o t q => q.2
              · rintro q hq (⟨z, hz, rfl⟩ | h9)
                · exact Or.inl ⟨z, hz, rfl⟩
                · omega
              · rintro q (⟨z, hz, rfl⟩ | h9)
                · exact Or.inl ⟨z, hz, rfl⟩
                · exact Or.inr (Nat.le_trans hS.1 h9)
              · intro o st₀ t locs1 h0 hq hS1
                obtain ⟨⟨o1, g1, ho, hQ, hP1⟩, -⟩ := hq
                cases ho
                cases o1 with
                | none => exact xm_W_next hlin hs rfl hQ hP1 (xm_D_cong hD) hS1 hl
                | some x => exact xm_W_next hlin hs rfl hQ hP1 (xm_D_cong hD) hS1 hl
            · cases h9
          · cases hcp.1
        · exact k.elim
      · rename_i idx na ci hk
        have LK := xm_LKs_at hLK a (by rw [hk]; show (2 : Nat) ≠ 9; decide)
        rw [hk] at LK hi1
        dsimp only at hi1
        have hi1 := hi1.resolve_left (by decide)
        subst hi1
        rcases LK with ⟨y, bytes, maxL, ret1, r1, hr1, hML, hMet⟩ | ⟨⟨-, w1, w2, w3, w4⟩, hr2⟩
        · rcases hML.2.2 with ⟨h9, -⟩ | ⟨h9, -⟩ | ⟨h9, -⟩ <;> cases h9
        · split at k
          · rename_i m1 dp1 dd sp1 ka st1
            split at k
            · rename_i n0 n1 hn hd hcat
              obtain ⟨sj, dj, nj, ⟨rfl, rfl, rfl, h4, h5⟩, k⟩ := k
              have hn := xm_nth_l hn (by decide)
              have hd := xm_nth_l hd (by decide)
              have b0 := xm_sok_n hso hn
              have b1 := xm_sok_n hso hd
              have hc8 := Nat.le_of_ble_eq_true hcat
              have hD0 := hD
              refine va_copyi hx hb (by rw [hml]; exact hl.1.symm) hown (hts _ w1) (hts _ w2) (hts _ w3) (hts _ w4) hK hP hD hS _ _ 0 0 (xm_ws_at hn) (xm_ws_at hd) rfl rfl rfl (nI_pos (by omega)) (nI_pos (by omega)) (nI_pos (by omega)) (by rw [nI_clamp (by omega), nI_clamp (by omega)]; exact h4) (by rw [nI_clamp (by omega), nI_clamp (by omega)]; exact h5) (fun _ _ => rfl) (by show 1 ≤ r; omega) (by rw [xm_cat_sum]; show _ ≤ 60 * r; have : nativeFrameWords "java/lang/System" "arraycopy" 5 + 11 ≤ 100 := (by decide +kernel); omega) hdg (fun H1 locs1 hP hD hS => ?_)
              rw [nI_clamp (by omega), nI_clamp (by omega), nI_clamp (by omega)] at hP
              have ew := xm_ws_set (ad := ad) (cA := cA) (g := g) (g' := xm_sA g dd (va_cpy (g.1 ka) (g.1 dd) sj dj nj)) hd (fun i hi => xm_uA_off _ _ _ i hi) (fun i hi => rfl) (fun i hi => rfl)
              refine xm_W_next hlin hs rfl k ?_ (xm_D_cong hD0) hS hl
              rw [← ew]
              simpa only [xm_ce, xm_sA, xm_uA_row] using hP
            · exact k.elim
          · exact k.elim
      · exact k.elim
    case ireturn =>
      simp only [xm_step] at k
      simp only [Bool.and_eq_true, Bool.or_eq_true, beq_iff_eq, decide_eq_true_eq] at hE
      obtain ⟨rfl, hE⟩ := hE
      split at k
      · rcases hE with ((⟨rfl, hE⟩ | ⟨rfl, hE⟩) | ⟨rfl, hE⟩) | ⟨rfl, hE⟩
        · exact W.iret hx hb (hr.trans hE) (fun t ht hW => ⟨⟨_, g, rfl, k, by rw [ht]; exact hP⟩, hS.F ht⟩) hS.2.2 hdg hlocks
        · exact W.zret hx hb (hr.trans hE) (by rcases k.1 with q | q <;> (rw [q]; decide)) (fun t ht hW => ⟨⟨_, g, rfl, k.2, by rw [ht]; exact hP⟩, hS.F ht⟩) hS.2.2 hdg hlocks
        · exact W.zret hx hb (hr.trans hE) k.1 (fun t ht hW => ⟨⟨_, g, rfl, k.2, by rw [ht]; exact hP⟩, hS.F ht⟩) hS.2.2 hdg hlocks
        · exact W.zret hx hb (hr.trans hE) k.1 (fun t ht hW => ⟨⟨_, g, rfl, k.2, by rw [ht]; exact hP⟩, hS.F ht⟩) hS.2.2 hdg hlocks
      · exact k.elim
    case lreturn =>
      simp only [xm_step] at k
      simp only [Bool.and_eq_true, beq_iff_eq, decide_eq_true_eq] at hE
      obtain ⟨rfl, hE⟩ := hE
      split at k
      · exact W.lret hx hb (hr.trans hE) (fun t ht hW => ⟨⟨_, g, rfl, k, by rw [ht]; exact hP⟩, hS.F ht⟩) hS.2.2 hdg hlocks
      · exact k.elim
    case return_ =>
      simp only [xm_step] at k
      simp only [Bool.and_eq_true, beq_iff_eq, decide_eq_true_eq] at hE
      obtain ⟨rfl, hE⟩ := hE
      split at k
      · exact W.vret hx hb (hr.trans hE) (fun t ht hW => ⟨⟨_, g, rfl, k, by rw [ht]; exact hP⟩, hS.F ht⟩) hS.2.2 hdg hlocks
      · exact k.elim
    all_goals (simp only [xm_step] at k)
end
/-- a contract out of a walk, of a method that is run by its own code -/
theorem xm_ofW {l : Launch} {y : MethodName} {ws ws' : List Cond} {rm : Room} {Pc : Array Value → State → Prop} {Qc : Array Value → State → Outcome → State → Prop} {mc ms : Nat} {free : Addr → Prop} {cc : ByteArray} {maxL : Nat} {ret : Option FieldType}
    (hy : plainFor y = true) (hw : ws = Cond.code y cc maxL ret :: ws')
    (walk : ∀ p e s m args below meth c s₁, BodyLoose p l y (headSpec ws rm) cc maxL ret e s m args below meth c s₁ → c.maxLocals = maxL → Pc args s → W p l e (headSpec ws rm).room s m args below meth c s.heap [] 0 0 (MQ below Qc args s mc ms free) (entryFrame m args maxL)) : Met l y ws rm Pc Qc mc ms free := by
  refine MetFree.of_bodySF (code := cc) (maxLocals := maxL) (ret := ret) hy (fun args s m h hn => ?_) (fun p e s m args below meth c s₁ BB hml hP _ => ?_)
  · have hcode := atoms_spec (ws := ws) h _ (by rw [hw]; exact List.mem_cons_self)
    obtain ⟨meth, c, h1, h2, h3, h4, h5, h6, -⟩ := Cond.code_spec hn hcode
    exact ⟨meth, c, h1, h2, h3, h4, h5, h6⟩
  · have hh : s₁.heap = s.heap := by rw [BB.state]; rfl
    obtain ⟨t, a1, o, b1, b2, b3⟩ := walk p e s m args below meth c s₁ BB hml hP s₁ hh (Stand.of_body BB)
    exact ⟨t, o, a1, b1, b2, b3⟩
/-- A METHOD: its spec leads through its code -/
theorem xm_meth {l : Launch} {D : va_G} {cA : Nat → ClassId} {B : List (Nat × Cell)} {S : List xC} {r : Nat} {y : MethodName} {bytes : ByteArray} {maxL : Nat} {ret : Option FieldType} {own : String} {FL : List (Nat × Nat × Nat)} {IL LL : List (Nat × Int32)} {ks : List xK} {Ts : List xT} {C : List xE} {T : xT}
    (hy : plainFor y = true) (hyo : y.cls = own) (hcl : xm_cls) (hso : xm_sok S = true) (hFL : xm_FLs own FL) (hIL : xm_ILs own IL) (hLL : xm_LLs own LL) (hLK : xm_LKs l D cA B S r own ks Ts) (hchk : xm_chk bytes ret FL IL LL ks C = true)
    (hL : ∀ (av : List Value) (g : xG) (Q : Option Value → xG → Prop), T av g Q → (xm_slots av).length ≤ maxL)
    (h : ∀ (av : List Value) (g : xG) (Q : Option Value → xG → Prop), T av g Q → xm_go S ks Ts C Q C (xm_pad maxL (xm_slots av)) [] g) : xm_Met l D cA B S r y bytes maxL ret T := by
  intro ad sz av g Q hT
  refine xm_ofW (cc := bytes) (maxL := maxL) (ret := ret) hy rfl ?_
  intro p e s m args below meth c s₁ BB hml hv
  obtain ⟨rfl, hsz, hP, hK, hD0, hB⟩ := hv
  subst hsz
  have hts0 := atoms_spec (ws := Cond.code y bytes maxL ret :: xm_tbl) BB.pre
  have hts : ∀ w ∈ xm_tbl, w.before _ s = true := fun w hw => hts0 w (List.mem_cons_of_mem _ hw)
  have hown : s.vm.findClass own = some m.cls := by rw [← hyo]; exact findClass_of_methodNamed BB.named
  have hD : va_D (xm_A ad S s.heap.size) (xm_ws ad cA g S) := hD0.weaken (fun k q hk _ => by
    obtain ⟨c, h1, rfl⟩ := xm_ws_of hk
    exact Or.inl ⟨k, (List.getElem?_eq_some_iff.mp h1).1, rfl⟩)
  have hS : va_S (xm_A ad S s.heap.size) s.heap s.heap [] := va_S.rf
  have hlen : (lg_sl (av.map (xm_cv ad))).length ≤ maxL := by
    refine Nat.le_trans (Nat.le_of_eq ?_) (hL av g Q hT)
    clear hT hL h hP hK hD0 hB hts hts0 hD BB
    induction av with
    | nil => rfl
    | cons v r ih =>
      cases v <;> simp_all [lg_sl, xm_slots, xm_cv, Value.category]
  have hent := xm_entry ad av hlen
  rw [lg_entry_eq]
  have k := h av g Q hT
  have hF : xm_Fix p s m (av.map (xm_cv ad)).toArray meth c bytes maxL ret own D cA B S ad := ⟨⟨BB.exec, BB.bytes, hml⟩, ⟨BB.returns, BB.notSynchronized⟩, hown, hts, hK, hB⟩
  have hchk2 : xm_chk2 bytes ret FL IL LL ks C = true := by
    have h9 := hchk
    simp only [xm_chk, Bool.and_eq_true] at h9
    simp only [xm_chk2, Bool.and_eq_true]
    exact ⟨h9.1.1, h9.2⟩
  have hw := k _ (fun is L st g q => xm_closed (p := p) (l := l) (en := e) (s := s) (m := m) (args := (av.map (xm_cv ad)).toArray) (below := below) (meth := meth) (c := c) (r := r) (mc := 0) (ms := 0) (Q := Q) hF hcl hso hFL hIL hLL hLK hchk2 is L st g q)
  obtain ⟨e0, r0, he, hw⟩ := hw
  have hc0 : e0.2.1 = 0 := by
    rw [he] at hchk
    simp only [xm_chk, Bool.and_eq_true, beq_iff_eq] at hchk
    exact hchk.1.2
  have := hw (List.suffix_refl C) s.heap [] _ hP hD hS hent
  rw [hc0] at this
  exact this
