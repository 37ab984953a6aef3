-- WHERE THE TWO STORIES MAY CHANGE PLACES
theorem xm_imp {l : Launch} {y : MethodName} {ws : List Cond} {rm : Room} {Pc Pc' : Array Value → State → Prop} {Qc Qc' : Array Value → State → Outcome → State → Prop} {mc ms : Nat} {free free' : Addr → Prop} (h : Met l y ws rm Pc Qc mc ms free) (hi : ∀ a s, Pc' a s → Pc a s ∧ ∀ o t, Qc a s o t → Qc' a s o t) (hf : ∀ q, free q → free' q) : Met l y ws rm Pc' Qc' mc ms free' := by
  intro p e h1 h2 h3 s m args below h4 h5 hP hK
  obtain ⟨n, o, g1, g2, g3, hQ, L, hL, hfr⟩ := h p e h1 h2 h3 s m args below h4 h5 (hi _ _ hP).1 hK
  exact ⟨n, o, g1, g2, g3, (hi _ _ hP).2 _ _ hQ, L, hL, fun q hq => hf _ (hfr q hq)⟩
theorem va_P_of {D : va_G} {cl : List vw_C} {W0 W1 : va_W} {H : Heap} (f : Nat → Nat) (hw : ∀ k, W1[k]? = W0[f k]?) (h : va_P D cl W0 H) : va_P D cl W1 H := fun k q hk => h (f k) q (by rw [← hw]; exact hk)
theorem va_D_of {A : Nat → Prop} {W0 W1 : va_W} (f : Nat → Nat) (hf : ∀ i j, f i = f j → i = j) (hw : ∀ k, W1[k]? = W0[f k]?) (h : va_D A W0) : va_D A W1 := ⟨fun i j p q hi hj e => hf i j (h.1 (f i) (f j) p q (by rw [← hw]; exact hi) (by rw [← hw]; exact hj) e), fun k q hk => h.2 (f k) q (by rw [← hw]; exact hk)⟩
def xm_cj (π : Nat → Nat) (ψ : xG → xG) (T : xT) : xT := fun av g Q => ∃ g0, g = ψ g0 ∧ T (av.map (xm_cv π)) g0 (fun o g' => Q (o.map (xm_cv π)) (ψ g'))
theorem xm_cj_mono {π : Nat → Nat} {ψ : xG → xG} {T : xT} (h : xm_mono T) : xm_mono (xm_cj π ψ T) := fun _ _ _ _ hq ⟨g0, e, hT⟩ => ⟨g0, e, h _ _ _ _ (fun o g' q => hq _ _ q) hT⟩
theorem xm_cv_cv {π : Nat → Nat} (hπ : ∀ k, π (π k) = k) (ad : Nat → Nat) (v : Value) : xm_cv (fun i => ad (π i)) (xm_cv π v) = xm_cv ad v := by
  cases v <;> simp [xm_cv, hπ]
theorem xm_cv_c2 (π : Nat → Nat) (ad : Nat → Nat) (v : Value) : xm_cv (fun i => ad (π i)) v = xm_cv ad (xm_cv π v) := by
  cases v <;> simp [xm_cv]
theorem xm_cj_met {l : Launch} {D : va_G} {cA : Nat → ClassId} {B : List (Nat × Cell)} {S S' : List xC} {r : Nat} {y : MethodName} {bytes : ByteArray} {maxL : Nat} {ret : Option FieldType} {T : xT} (π : Nat → Nat) (ψ : xG → xG) (hπ : ∀ k, π (π k) = k) (hfix : ∀ k, 1000 ≤ k → π k = k) (hl : ∀ k, π k < S'.length ↔ k < S.length)
    (hw : ∀ (ad : Nat → Nat) (cA : Nat → ClassId) (g : xG) (k : Nat), (xm_ws ad cA (ψ g) S')[π k]? = (xm_ws (fun i => ad (π i)) cA g S)[k]?) (h : xm_Met l D cA B S r y bytes maxL ret T) : xm_Met l D cA B S' r y bytes maxL ret (xm_cj π ψ T) := by
  rintro ad sz av g Q ⟨g0, rfl, hT⟩
  have eA : ∀ z, xm_A (fun i => ad (π i)) S z = xm_A ad S' z := by
    intro z
    funext q
    apply propext
    constructor
    · rintro (⟨k, hk, rfl⟩ | hq)
      · exact Or.inl ⟨π k, (hl k).mpr hk, rfl⟩
      · exact Or.inr hq
    · rintro (⟨k, hk, rfl⟩ | hq)
      · exact Or.inl ⟨π k, (hl (π k)).mp (by rw [hπ]; exact hk), by dsimp only; rw [hπ]⟩
      · exact Or.inr hq
  have h1 := h (fun i => ad (π i)) sz (av.map (xm_cv π)) g0 _ hT
  rw [eA] at h1
  have w1 : ∀ (g : xG) (k : Nat), (xm_ws ad cA (ψ g) S')[k]? = (xm_ws (fun i => ad (π i)) cA g S)[π k]? := fun g k => by rw [← hw, hπ]
  have w2 : ∀ (g : xG) (k : Nat), (xm_ws (fun i => ad (π i)) cA g S)[k]? = (xm_ws ad cA (ψ g) S')[π k]? := fun g k => (hw ad cA g k).symm
  have inj : ∀ i j, π i = π j → i = j := fun i j e => by rw [← hπ i, e, hπ]
  refine xm_imp h1 ?_ (fun q hq => hq)
  rintro a s ⟨ha, hsz, hP, hK, hD, hB⟩
  refine ⟨⟨?_, hsz, va_P_of π (w2 _) hP, hK, va_D_of π inj (w2 _) hD, ?_⟩, ?_⟩
  · rw [ha, List.map_map]
    congr 1
    apply List.map_congr_left
    intro v _
    exact (xm_cv_cv hπ ad v).symm
  · obtain ⟨b1, b2, b3, b4⟩ := hB
    have e1 : (fun i => ad (π (1000 + i))) = fun i => ad (1000 + i) := funext fun i => by rw [hfix _ (by omega)]
    have e2 : (fun i => ad (π (2000 + i))) = fun i => ad (2000 + i) := funext fun i => by rw [hfix _ (by omega)]
    refine ⟨?_, fun q hq => ?_, ?_, ?_⟩
    · rw [eA]; show vk_S 2 xm_ln xm_by (fun i => ad (π (1000 + i))) (fun i => ad (π (2000 + i))) _ _ _
      rw [e1, e2]; exact b1
    · show vk_R q.1 q.2.1 q.2.2.2 (ad (π (1000 + q.2.2.1))) s
      rw [hfix _ (by omega)]; exact b2 q hq
    · rw [eA]; exact b3
    · rw [eA]; show _ ∨ va_Z (xm_sst 1).1 (xm_sst 1).2.1 (xm_sst 1).2.2 (.ref (ad (π 3000))) _ _ _
      rw [hfix 3000 (by omega)]; exact b4
  · rintro o t ⟨⟨o1, g', e, hq, hP'⟩, hF⟩
    refine ⟨⟨o1.map (xm_cv π), ψ g', ?_, hq, va_P_of π (w1 _) hP'⟩, ?_⟩
    · rw [e, Option.map_map]
      congr 2
      funext v
      exact xm_cv_c2 π ad v
    · rw [← eA]; exact hF
def xs_R : List xC := [.inr (8, [(1, 1), (1, 3), (1, 11), (1, 20), (1, 47), (1, 49), (1, 54), (4, 29), (0, 0)]),
  .inr (6, [(1, 2), (0, 0)]),
  .inl (1, 2000),
  .inr (1, [(4, 38), (1, 7), (1, 4), (1, 5), (1, 6), (0, 0), (0, 0), (0, 0), (0, 0), (0, 0), (0, 0), (0, 0)]),
  .inl (3, 5),
  .inl (3, 6),
  .inl (0, 21),
  .inr (7, [(1, 8), (1, 9), (1, 10), (1, 1), (0, 0)]),
  .inl (0, 402),
  .inl (0, 402),
  .inl (3, 402),
  .inr (3, [(1, 12), (1, 13), (0, 0), (0, 0), (1, 14), (1, 15), (1, 16), (1, 17), (1, 18), (1, 19), (3, 29)]),
  .inl (0, 30),
  .inl (0, 6),
  .inl (0, 6),
  .inl (0, 6),
  .inl (0, 6),
  .inl (0, 6),
  .inl (0, 30),
  .inl (0, 32),
  .inr (3, [(1, 21), (1, 22), (0, 0), (0, 0), (1, 23), (1, 24), (1, 25), (1, 26), (1, 27), (1, 28), (3, 29)]),
  .inl (0, 30),
  .inl (0, 6),
  .inl (0, 6),
  .inl (0, 6),
  .inl (0, 6),
  .inl (0, 6),
  .inl (0, 30),
  .inl (0, 32),
  .inr (5, [(1, 30), (1, 31), (1, 32), (1, 33), (1, 34), (1, 35), (1, 36), (1, 37), (0, 0), (0, 0), (0, 0), (0, 0), (0, 0)]),
  .inl (0, 5),
  .inl (0, 5),
  .inl (0, 5),
  .inl (0, 6),
  .inl (0, 20),
  .inl (0, 20),
  .inl (0, 408),
  .inl (0, 4),
  .inr (5, [(1, 39), (1, 40), (1, 41), (1, 42), (1, 43), (1, 44), (1, 45), (1, 46), (0, 0), (0, 0), (0, 0), (0, 0), (0, 0)]),
  .inl (0, 5),
  .inl (0, 5),
  .inl (0, 5),
  .inl (0, 6),
  .inl (0, 20),
  .inl (0, 20),
  .inl (0, 408),
  .inl (0, 4),
  .inr (4, [(0, 0), (0, 0), (0, 0), (1, 48)]),
  .inl (0, 1634),
  .inr (2, [(0, 0), (0, 0), (0, 0), (1, 50), (0, 0), (0, 0), (1, 51), (1, 52), (1, 53)]),
  .inl (0, 6),
  .inl (0, 6),
  .inl (0, 6),
  .inl (0, 30),
  .inr (0, [(0, 0), (1, 55), (1, 56), (1, 57)]),
  .inl (0, 20),
  .inl (0, 20),
  .inl (2, 20)]
theorem xs_R_ok : xm_sok xs_R = true := by decide +kernel
def xPi (k : Nat) : Nat := if 29 ≤ k ∧ k ≤ 37 then k + 9 else if 38 ≤ k ∧ k ≤ 46 then k - 9 else k
theorem xPi_1 {k : Nat} (h : 29 ≤ k ∧ k ≤ 37) : xPi k = k + 9 := by unfold xPi; rw [if_pos h]
theorem xPi_2 {k : Nat} (h : 38 ≤ k ∧ k ≤ 46) : xPi k = k - 9 := by unfold xPi; rw [if_neg (by omega), if_pos h]
theorem xPi_3 {k : Nat} (h : k < 29 ∨ 46 < k) : xPi k = k := by unfold xPi; rw [if_neg (by omega), if_neg (by omega)]
theorem xPi_c (k : Nat) : (29 ≤ k ∧ k ≤ 37 ∧ xPi k = k + 9) ∨ (38 ≤ k ∧ k ≤ 46 ∧ xPi k = k - 9) ∨ ((k < 29 ∨ 46 < k) ∧ xPi k = k) := by
  by_cases h1 : 29 ≤ k ∧ k ≤ 37
  · exact Or.inl ⟨h1.1, h1.2, xPi_1 h1⟩
  · by_cases h2 : 38 ≤ k ∧ k ≤ 46
    · exact Or.inr (Or.inl ⟨h2.1, h2.2, xPi_2 h2⟩)
    · exact Or.inr (Or.inr ⟨by omega, xPi_3 (by omega)⟩)
theorem xPi_i (k : Nat) : xPi (xPi k) = k := by
  rcases xPi_c k with ⟨h1, h2, e⟩ | ⟨h1, h2, e⟩ | ⟨h1, e⟩
  · rw [e, xPi_2 (by omega)]; omega
  · rw [e, xPi_1 (by omega)]; omega
  · rw [e, e]
def xGp (g : xG) : xG := (fun k => g.1 (xPi k), fun k => g.2.1 (xPi k), fun k j => xPi (g.2.2 (xPi k) j))
def xGz (a b : Nat) (g : xG) : xG := (g.1, g.2.1, fun k j => if k = 0 then (if j = 7 then a else g.2.2 k j) else if k = 3 then (if j = 0 then b else g.2.2 k j) else g.2.2 k j)
theorem xGz_id {a b : Nat} {g : xG} (h0 : g.2.2 0 7 = a) (h3 : g.2.2 3 0 = b) : xGz a b g = g := by
  unfold xGz
  refine Prod.ext rfl (Prod.ext rfl ?_)
  funext k j
  dsimp only
  split
  · next e =>
    subst e
    split
    · next e => subst e; exact h0.symm
    · rfl
  · split
    · next e =>
      subst e
      split
      · next e => subst e; exact h3.symm
      · rfl
    · rfl
theorem xGp_i (g : xG) : xGp (xGp g) = g := by
  unfold xGp
  refine Prod.ext ?_ (Prod.ext ?_ ?_)
  · funext k; dsimp only; rw [xPi_i]
  · funext k; dsimp only; rw [xPi_i]
  · funext k j; dsimp only; rw [xPi_i, xPi_i]
def xm_mi {A C : Type} (f : Nat → A → C) : Nat → List A → List C
  | _, [] => []
  | k, a :: r => f k a :: xm_mi f (k + 1) r
theorem xm_mi_at {A C : Type} (f : Nat → A → C) : ∀ (l : List A) (k i : Nat), (xm_mi f k l)[i]? = (l[i]?).map (f (k + i))
  | [], _, _ => rfl
  | _ :: _, _, 0 => rfl
  | _ :: r, k, i + 1 => by
    show (xm_mi f (k + 1) r)[i]? = _
    rw [xm_mi_at f r (k + 1) i, show k + 1 + i = k + (i + 1) by omega]
    rfl
theorem xm_mi_eq {A C : Type} (f : Nat → A → C) (l : List A) : l.mapIdx f = xm_mi f 0 l := by
  apply List.ext_getElem?
  intro i
  rw [List.getElem?_mapIdx, xm_mi_at, Nat.zero_add]
def xm_ce2 (ad : Nat → Nat) (cA : Nat → ClassId) (g : xG) (k : Nat) (c : xC) : va_E := match c with
  | .inl q => xm_ce ad cA g k (.inl q)
  | .inr (ci, fs) => .inr (ci, xm_mi (fun j f => xm_fv ad g k j f) 0 fs)
theorem xm_ce2_eq (ad : Nat → Nat) (cA : Nat → ClassId) (g : xG) (k : Nat) (c : xC) : xm_ce ad cA g k c = xm_ce2 ad cA g k c := by
  cases c with
  | inl q => rfl
  | inr q => obtain ⟨ci, fs⟩ := q; unfold xm_ce xm_ce2; dsimp only; rw [xm_mi_eq]
theorem xm_ws_q (ad : Nat → Nat) (cA : Nat → ClassId) (g : xG) (S : List xC) (k : Nat) : (xm_ws ad cA g S)[k]? = (S[k]?).map (fun c => (ad k, xm_ce2 ad cA g k c)) := by
  unfold xm_ws
  rw [List.getElem?_mapIdx]
  congr 1
  funext c
  rw [xm_ce2_eq]
set_option maxRecDepth 100000 in
theorem xW_i0 (ad : Nat → Nat) (cA : Nat → ClassId) (g : xG) : ∀ k, k < 58 → (xs_R[k]?).map (fun c => (ad k, xm_ce2 ad cA (xGz 29 38 g) k c)) = (xs_X[k]?).map (fun c => ((fun i => ad i) k, xm_ce2 (fun i => ad i) cA g k c))
  | 0, _ => rfl
  | 1, _ => rfl
  | 2, _ => rfl
  | 3, _ => rfl
  | 4, _ => rfl
  | 5, _ => rfl
  | 6, _ => rfl
  | 7, _ => rfl
  | 8, _ => rfl
  | 9, _ => rfl
  | 10, _ => rfl
  | 11, _ => rfl
  | 12, _ => rfl
  | 13, _ => rfl
  | 14, _ => rfl
  | 15, _ => rfl
  | 16, _ => rfl
  | 17, _ => rfl
  | 18, _ => rfl
  | 19, _ => rfl
  | 20, _ => rfl
  | 21, _ => rfl
  | 22, _ => rfl
  | 23, _ => rfl
  | 24, _ => rfl
  | 25, _ => rfl
  | 26, _ => rfl
  | 27, _ => rfl
  | 28, _ => rfl
  | 29, _ => rfl
  | 30, _ => rfl
  | 31, _ => rfl
  | 32, _ => rfl
  | 33, _ => rfl
  | 34, _ => rfl
  | 35, _ => rfl
  | 36, _ => rfl
  | 37, _ => rfl
  | 38, _ => rfl
  | 39, _ => rfl
  | 40, _ => rfl
  | 41, _ => rfl
  | 42, _ => rfl
  | 43, _ => rfl
  | 44, _ => rfl
  | 45, _ => rfl
  | 46, _ => rfl
  | 47, _ => rfl
  | 48, _ => rfl
  | 49, _ => rfl
  | 50, _ => rfl
  | 51, _ => rfl
  | 52, _ => rfl
  | 53, _ => rfl
  | 54, _ => rfl
  | 55, _ => rfl
  | 56, _ => rfl
  | 57, _ => rfl
  | k + 58, h => absurd h (by omega)
set_option maxRecDepth 100000 in
theorem xW_p0 (ad : Nat → Nat) (cA : Nat → ClassId) (g : xG) : ∀ k, k < 58 → (xs_R[xPi k]?).map (fun c => (ad (xPi k), xm_ce2 ad cA (xGz 38 29 (xGp g)) (xPi k) c)) = (xs_X[k]?).map (fun c => ((fun i => ad (xPi i)) k, xm_ce2 (fun i => ad (xPi i)) cA g k c))
  | 0, _ => rfl
  | 1, _ => rfl
  | 2, _ => rfl
  | 3, _ => rfl
  | 4, _ => rfl
  | 5, _ => rfl
  | 6, _ => rfl
  | 7, _ => rfl
  | 8, _ => rfl
  | 9, _ => rfl
  | 10, _ => rfl
  | 11, _ => rfl
  | 12, _ => rfl
  | 13, _ => rfl
  | 14, _ => rfl
  | 15, _ => rfl
  | 16, _ => rfl
  | 17, _ => rfl
  | 18, _ => rfl
  | 19, _ => rfl
  | 20, _ => rfl
  | 21, _ => rfl
  | 22, _ => rfl
  | 23, _ => rfl
  | 24, _ => rfl
  | 25, _ => rfl
  | 26, _ => rfl
  | 27, _ => rfl
  | 28, _ => rfl
  | 29, _ => rfl
  | 30, _ => rfl
  | 31, _ => rfl
  | 32, _ => rfl
  | 33, _ => rfl
  | 34, _ => rfl
  | 35, _ => rfl
  | 36, _ => rfl
  | 37, _ => rfl
  | 38, _ => rfl
  | 39, _ => rfl
  | 40, _ => rfl
  | 41, _ => rfl
  | 42, _ => rfl
  | 43, _ => rfl
  | 44, _ => rfl
  | 45, _ => rfl
  | 46, _ => rfl
  | 47, _ => rfl
  | 48, _ => rfl
  | 49, _ => rfl
  | 50, _ => rfl
  | 51, _ => rfl
  | 52, _ => rfl
  | 53, _ => rfl
  | 54, _ => rfl
  | 55, _ => rfl
  | 56, _ => rfl
  | 57, _ => rfl
  | k + 58, h => absurd h (by omega)
theorem xm_ws_n {ad : Nat → Nat} {cA : Nat → ClassId} {g : xG} {S : List xC} {k : Nat} (h : S.length ≤ k) : (xm_ws ad cA g S)[k]? = none := by
  unfold xm_ws
  rw [List.getElem?_eq_none]
  rw [List.length_mapIdx]; exact h
theorem xW_i (ad : Nat → Nat) (cA : Nat → ClassId) (g : xG) (k : Nat) : (xm_ws ad cA (xGz 29 38 g) xs_R)[k]? = (xm_ws (fun i => ad i) cA g xs_X)[k]? := by
  by_cases h : k < 58
  · rw [xm_ws_q, xm_ws_q]; exact xW_i0 ad cA g k h
  · rw [xm_ws_n (by show 58 ≤ k; omega), xm_ws_n (by show 58 ≤ k; omega)]
theorem xPi_58 (k : Nat) : xPi k < 58 ↔ k < 58 := by
  rcases xPi_c k with ⟨h1, h2, e⟩ | ⟨h1, h2, e⟩ | ⟨h1, e⟩ <;> omega
theorem xW_p (ad : Nat → Nat) (cA : Nat → ClassId) (g : xG) (k : Nat) : (xm_ws ad cA (xGz 38 29 (xGp g)) xs_R)[xPi k]? = (xm_ws (fun i => ad (xPi i)) cA g xs_X)[k]? := by
  by_cases h : k < 58
  · rw [xm_ws_q, xm_ws_q]; exact xW_p0 ad cA g k h
  · have := xPi_58 k
    rw [xm_ws_n (by show 58 ≤ xPi k; omega), xm_ws_n (by show 58 ≤ k; omega)]
def xcI (T : xT) : xT := xm_cj (fun k => k) (xGz 29 38) T
def xcP (T : xT) : xT := xm_cj xPi (fun g => xGz 38 29 (xGp g)) T
theorem xl_R : xs_R.length = 58 := rfl
theorem xl_X : xs_X.length = 58 := rfl
theorem xcI_met {l : Launch} {D : va_G} {cA : Nat → ClassId} {B : List (Nat × Cell)} {r : Nat} {y : MethodName} {bytes : ByteArray} {maxL : Nat} {ret : Option FieldType} {T : xT} (h : xm_Met l D cA B xs_X r y bytes maxL ret T) : xm_Met l D cA B xs_R r y bytes maxL ret (xcI T) := xm_cj_met (S := xs_X) (S' := xs_R) (fun k => k) (xGz 29 38) (fun _ => rfl) (fun _ _ => rfl) (fun k => by rw [xl_R, xl_X]) xW_i h
theorem xcP_met {l : Launch} {D : va_G} {cA : Nat → ClassId} {B : List (Nat × Cell)} {r : Nat} {y : MethodName} {bytes : ByteArray} {maxL : Nat} {ret : Option FieldType} {T : xT} (h : xm_Met l D cA B xs_X r y bytes maxL ret T) : xm_Met l D cA B xs_R r y bytes maxL ret (xcP T) := xm_cj_met (S := xs_X) (S' := xs_R) xPi (fun g => xGz 38 29 (xGp g)) xPi_i (fun _ h => xPi_3 (by omega)) (fun k => by rw [xl_R, xl_X]; exact xPi_58 k) xW_p h
def xt_X1_startRA : xT := xcI xt_X1_start
theorem xn_X1_startRA : xm_mono xt_X1_startRA := xm_cj_mono (xm_rl_mono _ _)
theorem xp_X1_startRA {l : Launch} {D : va_G} {cA : Nat → ClassId} {B : List (Nat × Cell)} : xm_Met l D cA B xs_R 9 yX1_start cX1_start 1 none xt_X1_startRA := xcI_met xp_X1_start
def xt_X1_goesOnRA : xT := xcI xt_X1_goesOn
theorem xn_X1_goesOnRA : xm_mono xt_X1_goesOnRA := xm_cj_mono (xm_fn_mono _ _ _)
theorem xp_X1_goesOnRA {l : Launch} {D : va_G} {cA : Nat → ClassId} {B : List (Nat × Cell)} : xm_Met l D cA B xs_R 1 yX1_goesOn cX1_goesOn 1 (some .boolean) xt_X1_goesOnRA := xcI_met xp_X1_goesOn
def xt_X1_readTellRA : xT := xcI xt_X1_readTell
theorem xn_X1_readTellRA : xm_mono xt_X1_readTellRA := xm_cj_mono (xm_rl_mono _ _)
theorem xp_X1_readTellRA {l : Launch} {D : va_G} {cA : Nat → ClassId} {B : List (Nat × Cell)} : xm_Met l D cA B xs_R 5 yX1_readTell cX1_readTell 2 none xt_X1_readTellRA := xcI_met xp_X1_readTell
def xt_X1_faultPlaceRA : xT := xcI xt_X1_faultPlace
theorem xn_X1_faultPlaceRA : xm_mono xt_X1_faultPlaceRA := xm_cj_mono (xm_fn_mono _ _ _)
theorem xp_X1_faultPlaceRA {l : Launch} {D : va_G} {cA : Nat → ClassId} {B : List (Nat × Cell)} : xm_Met l D cA B xs_R 0 yX1_faultPlace cX1_faultPlace 1 (some .int) xt_X1_faultPlaceRA := xcI_met xp_X1_faultPlace
def xt_X1_faultNumberRA : xT := xcI xt_X1_faultNumber
theorem xn_X1_faultNumberRA : xm_mono xt_X1_faultNumberRA := xm_cj_mono (xm_fn_mono _ _ _)
theorem xp_X1_faultNumberRA {l : Launch} {D : va_G} {cA : Nat → ClassId} {B : List (Nat × Cell)} : xm_Met l D cA B xs_R 0 yX1_faultNumber cX1_faultNumber 1 (some .int) xt_X1_faultNumberRA := xcI_met xp_X1_faultNumber
def xt_X3_beginRA : xT := xcP xt_X3_begin
theorem xn_X3_beginRA : xm_mono xt_X3_beginRA := xm_cj_mono (xm_rl_mono _ _)
theorem xp_X3_beginRA {l : Launch} {D : va_G} {cA : Nat → ClassId} {B : List (Nat × Cell)} : xm_Met l D cA B xs_R 5 yX3_begin cX3_begin 3 none xt_X3_beginRA := xcP_met xp_X3_begin
def xt_X4_clearRA : xT := xcP xt_X4_clear
theorem xn_X4_clearRA : xm_mono xt_X4_clearRA := xm_cj_mono (xm_fn_mono _ _ _)
theorem xp_X4_clearRA {l : Launch} {D : va_G} {cA : Nat → ClassId} {B : List (Nat × Cell)} : xm_Met l D cA B xs_R 0 yX4_clear cX4_clear 1 none xt_X4_clearRA := xcP_met xp_X4_clear
