-- a spec keeps what follows
def xm_mono (T : xT) : Prop := ∀ (av : List Value) (g : xG) (Q Q' : Option Value → xG → Prop), (∀ o g, Q o g → Q' o g) → T av g Q → T av g Q'
def xm_monos : List xT → Prop
  | [] => True
  | T :: r => xm_mono T ∧ xm_monos r
/-- a spec as a function: what it wants, what it answers, what it changes -/
def xm_fn {Z : Type} (pre : Z → List Value → xG → Prop) (o : Z → xG → Option Value) (u : Z → xG → xG) : xT := fun av g Q => ∃ z, pre z av g ∧ Q (o z g) (u z g)
theorem xm_fn_mono {Z : Type} (pre : Z → List Value → xG → Prop) (o : Z → xG → Option Value) (u : Z → xG → xG) : xm_mono (xm_fn pre o u) := fun _ _ _ _ h ⟨z, h1, h2⟩ => ⟨z, h1, h _ _ h2⟩
/-- a spec as a relation -/
def xm_rl {Z : Type} (pre : Z → List Value → xG → Prop) (post : Z → xG → Option Value → xG → Prop) : xT := fun av g Q => ∃ z, pre z av g ∧ ∀ o g', post z g o g' → Q o g'
theorem xm_rl_mono {Z : Type} (pre : Z → List Value → xG → Prop) (post : Z → xG → Option Value → xG → Prop) : xm_mono (xm_rl pre post) := fun _ _ _ _ h ⟨z, h1, h2⟩ => ⟨z, h1, fun o g' q => h _ _ (h2 o g' q)⟩
theorem xm_tth_mono : ∀ {Ts : List xT}, xm_monos Ts → ∀ a, xm_mono (xm_tth Ts a)
  | [], _, _ => fun _ _ _ _ _ h => h
  | _ :: _, h, 0 => h.1
  | _ :: _, h, a + 1 => xm_tth_mono h.2 a
section
variable {P P' : List xE → List Value → List Value → xG → Prop}
theorem xm_on_mono (h : ∀ is L st g, P is L st g → P' is L st g) {is : List xE} {L st : List Value} {g : xG} (k : xm_on P is L st g) : xm_on P' is L st g := by
  cases is with
  | nil => exact h _ _ _ _ k
  | cons e r =>
    obtain ⟨c0, e⟩ := e
    cases c0 with
    | false => exact h _ _ _ _ k
    | true => exact ⟨h _ _ _ _ k.1, trivial⟩
theorem xm_on_imp {is : List xE} {L st : List Value} {g : xG} (k : xm_on P is L st g) : P is L st g := by
  cases is with
  | nil => exact k
  | cons e r =>
    obtain ⟨c0, e⟩ := e
    cases c0 with
    | false => exact k
    | true => exact k.1
theorem xm_set_mono : ∀ {L : List Value} {i : Nat} {v : Value} {k k' : List Value → Prop}, (∀ L, k L → k' L) → xm_set L i v k → xm_set L i v k'
  | [], _, _, _, _, _, h => by simp only [xm_set] at h
  | _ :: _, 0, _, _, _, hk, h => by
    simp only [xm_set] at h ⊢
    exact hk _ h
  | w :: r, 1, v, k, k', hk, h => by
    cases w <;> (simp only [xm_set] at h ⊢; exact xm_set_mono (fun _ q => hk _ q) h)
  | w :: r, i + 2, v, k, k', hk, h => by
    simp only [xm_set] at h ⊢
    exact xm_set_mono (fun _ q => hk _ q) h
theorem xm_pop_mono : ∀ {n : Nat} {st acc : List Value} {k k' : List Value → List Value → Prop}, (∀ a b, k a b → k' a b) → xm_pop n st acc k → xm_pop n st acc k'
  | 0, _, _, _, _, hk, h => by
    simp only [xm_pop] at h ⊢
    exact hk _ _ h
  | _ + 1, [], _, _, _, _, h => by simp only [xm_pop] at h
  | n + 1, _ :: _, _, _, _, hk, h => by
    simp only [xm_pop] at h ⊢
    exact xm_pop_mono hk h
theorem xm_sw_mono {x : Int32} {go go' : Nat → Prop} {d : Nat} (h : ∀ t, go t → go' t) : ∀ {l : List (Int32 × Nat)}, xm_sw x go d l → xm_sw x go' d l
  | [], k => h _ k
  | _ :: _, k => ⟨fun e => h _ (k.1 e), fun e => xm_sw_mono h (k.2 e)⟩
end
set_option maxHeartbeats 4000000 in
theorem xm_step_mono {S : List xC} {ks : List xK} {Ts : List xT} {C : List xE} {Q : Option Value → xG → Prop} (hm : xm_monos Ts) {P P' : List xE → List Value → List Value → xG → Prop} (h : ∀ is L st g, P is L st g → P' is L st g) {is : List xE} {L st : List Value} {g : xG} (k : xm_step S ks Ts C Q P is L st g) : xm_step S ks Ts C Q P' is L st g := by
  have ho : ∀ {is : List xE} {L st : List Value} {g : xG}, xm_on P is L st g → xm_on P' is L st g := fun q => xm_on_mono h q
  cases is with
  | nil => exact k
  | cons e r =>
    obtain ⟨c0, pc, len, i, a, b, v, sw⟩ := e
    cases i
    case invokevirtual n =>
      simp only [xm_step] at k ⊢
      split at k
      · refine xm_pop_mono (fun av st q => ?_) k
        split at q
        · split at q
          · split at q
            · refine xm_tth_mono hm a _ _ _ _ (fun o g q => ?_) q
              split at q <;> exact ho q
            · exact q.elim
          · exact q.elim
        · exact q.elim
      · refine xm_pop_mono (fun av st q => ?_) k
        split at q
        · split at q
          · split at q
            · refine xm_tth_mono hm a _ _ _ _ (fun o g q => ?_) q
              split at q <;> exact ho q
            · exact q.elim
          · exact q.elim
        · exact q.elim
      · exact k.elim
    case invokestatic n =>
      simp only [xm_step] at k ⊢
      split at k
      · refine xm_pop_mono (fun av st q => ?_) k
        split at q
        · refine xm_tth_mono hm a _ _ _ _ (fun o g q => ?_) q
          split at q <;> exact ho q
        · exact q.elim
      · split at k
        · split at k
          · obtain ⟨sj, dj, nj, h1, h2⟩ := k
            exact ⟨sj, dj, nj, h1, ho h2⟩
          · exact k.elim
        · exact k.elim
      · exact k.elim
    case ifCond c n =>
      cases c <;> (simp only [xm_step] at k ⊢; split at k <;> first | exact ⟨fun q => ho (k.1 q), fun q => ho (k.2 q)⟩ | exact k.elim)
    case if_icmp c n =>
      cases c <;> (simp only [xm_step] at k ⊢; split at k <;> first | exact ⟨fun q => ho (k.1 q), fun q => ho (k.2 q)⟩ | exact k.elim)
    all_goals (try simp only [xm_step] at k ⊢)
    all_goals (try exact k.elim)
    all_goals (try exact ho k)
    all_goals (repeat' split at k)
    all_goals (try exact k.elim)
    all_goals (try exact ho k)
    all_goals (try exact ⟨k.1, ho k.2⟩)
    all_goals (try exact ⟨ho k.1, ho k.2⟩)
    all_goals (try exact ⟨fun q => ho (k.1 q), fun q => ho (k.2 q)⟩)
    all_goals (try exact xm_sw_mono (fun _ q => ho q) k)
    all_goals (try exact xm_set_mono (fun _ q => ho q) k)
    all_goals (try exact xm_set_mono (fun _ q => xm_set_mono (fun _ q => xm_set_mono (fun _ q => ho q) q) q) k)
    all_goals (try (obtain ⟨j, h1, h2⟩ := k; exact ⟨j, h1, ho h2⟩))
    all_goals (try exact k)
theorem xm_go_fold {S : List xC} {ks : List xK} {Ts : List xT} {C : List xE} {Q : Option Value → xG → Prop} (hm : xm_monos Ts) {is : List xE} {L st : List Value} {g : xG} (k : xm_step S ks Ts C Q (xm_go S ks Ts C Q) is L st g) : xm_go S ks Ts C Q is L st g :=
  fun P hP => hP _ _ _ _ (xm_step_mono hm (fun _ _ _ _ q => q P hP) k)
theorem xm_go_open {S : List xC} {ks : List xK} {Ts : List xT} {C : List xE} {Q : Option Value → xG → Prop} (hm : xm_monos Ts) {is : List xE} {L st : List Value} {g : xG} (k : xm_go S ks Ts C Q is L st g) : xm_step S ks Ts C Q (xm_go S ks Ts C Q) is L st g :=
  k _ (fun _ _ _ _ q => xm_step_mono hm (fun _ _ _ _ q => xm_go_fold hm q) q)
theorem xm_run_go {S : List xC} {ks : List xK} {Ts : List xT} {C : List xE} {Q : Option Value → xG → Prop} (hm : xm_monos Ts) : ∀ (n : Nat) {is : List xE} {L st : List Value} {g : xG}, xm_run S ks Ts C Q n is L st g → xm_go S ks Ts C Q is L st g
  | 0, _, _, _, _, k => k
  | n + 1, _, _, _, _, k => xm_go_fold hm (xm_step_mono hm (fun _ _ _ _ q => xm_run_go hm n q) k)
theorem xm_go_run {S : List xC} {ks : List xK} {Ts : List xT} {C : List xE} {Q : Option Value → xG → Prop} (hm : xm_monos Ts) : ∀ (n : Nat) {is : List xE} {L st : List Value} {g : xG}, xm_go S ks Ts C Q is L st g → xm_run S ks Ts C Q n is L st g
  | 0, _, _, _, _, k => k
  | n + 1, _, _, _, _, k => xm_step_mono hm (fun _ _ _ _ q => xm_go_run hm n q) (xm_go_open hm k)
theorem xm_cut {S : List xC} {ks : List xK} {Ts : List xT} {C : List xE} {Q : Option Value → xG → Prop} (hm : xm_monos Ts) {n : Nat} {is : List xE} {L st : List Value} {g : xG} (k : xm_go S ks Ts C Q is L st g) : xm_stop (xm_run S ks Ts C Q n is L st g) := ⟨xm_go_run hm n k, trivial⟩
