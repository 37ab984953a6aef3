-- THE LAW from its entry
set_option maxRecDepth 100000 in
theorem zd_b : decode code 0 = .ok (.new 7, 3) ∧ decode code 3 = .ok (.dup, 1) ∧ decode code 4 = .ok (.invokespecial 9, 3) ∧ decode code 7 = .ok (.astore_n 1, 1) ∧ decode code 8 = .ok (.new 10, 3) ∧ decode code 11 = .ok (.dup, 1) ∧ decode code 12 = .ok (.invokespecial 12, 3) ∧ decode code 15 = .ok (.astore_n 2, 1) ∧ decode code 16 = .ok (.iconst 0, 1) ∧ decode code 17 = .ok (.istore_n 3, 1) := by decide +kernel
set_option maxRecDepth 100000 in
/-- from the entry, for every script of at most 3072 ints, the law comes to its end with true -/
theorem whole_start {p : Program} {e : Env} {s : State} {m : MethodId} {below : List Frame} {meth : Method} {c : Code} (l : Launch) (hflags : l.flags = flags0) {b L : Nat} {xs : Nat → Int32} (hL : L ≤ 3072) (C0 : lw_At p s m meth c b L xs) : W p l e room_1 s m #[Value.ref b] below meth c s.heap [] 0 0 (lw_Z below #[Value.ref b] s) (entryFrame m ([Value.ref b] : List Value).toArray 4) := by
  obtain ⟨d0, d3, d4, d7, d8, d11, d12, d15, d16, d17⟩ := zd_b
  obtain ⟨hx, hb, hr, hml, hown, hts0, hX, hbl, hlocks, hgv⟩ := id C0
  have hts : ∀ w ∈ xm_tbl, w.before #[Value.ref b] s = true := fun w hw => hts0 w (List.mem_filter.mp hw).1
  obtain ⟨D, cA, hK⟩ := z_K hts0
  obtain ⟨sa, hB⟩ := z_Bq hts0 hgv
  have hN := z_N hts0
  have hA : ∀ z, s.heap.size ≤ z → zA s z := fun _ h => h
  have hS0 : va_S (zA s) s.heap s.heap [] := va_S.rf
  have hP0 : va_P D vwCl [] s.heap := fun k q h => by simp at h
  have hD0 : va_D (zA s) [] := ⟨fun i j p q h => by simp at h, fun k q h => by simp at h⟩
  have hl := lv_entry ([.ref b]) (n := 4) (Nat.le_of_ble_eq_true rfl)
  rw [lg_entry_eq]
  generalize (lg_sl ([.ref b]) ++ List.replicate (4 - (lg_sl ([.ref b])).length) Slot.unset).toArray = ls at hl ⊢
  have hl : lv_has ls 4 [(0, .ref b)] := hl
  have hown1 : s.vm.findClass RL = some m.cls := hown
  refine yc_new (own := RL) (A := zA s) (H0 := s.heap) (ci := 8) (fs := yf_X8) hx hb hts xm_clsok hown1 hK hP0 hD0 hS0 hA rfl (xm_in 20 (by decide +kernel) rfl) (xm_in 21 (by decide +kernel) rfl) (xm_in 1 (by decide +kernel) rfl) (by decide +kernel) (Nat.le_of_ble_eq_true rfl) (Nat.le_of_ble_eq_true rfl) d0 d3 (fun a8 H1 hP1 hD1 hS1 => ?_)
  have nar : ∀ {ws : va_W} {x : va_E} {q : Nat} {H : Heap} {locs : List Loc}, va_D (zA s) (ws ++ [(q, x)]) → va_S (zA s) s.heap H locs → ∀ z, yi_A q H.size z → zA s z := fun {ws x q H locs} hD hS z h => by
    have atq : (ws ++ [(q, x)])[ws.length]? = some (q, x) := by
      rw [List.getElem?_append_right (Nat.le_refl _), Nat.sub_self]; rfl
    rcases h with h | h
    · rw [h]; exact hD.2 _ _ atq
    · exact Nat.le_trans hS.1 h
  refine z_init (sa := sa) (S := xs_X) (P := xTop s0) (D := D) (cA := cA) (ws := []) (x := .inr (8, yf_X8)) (q := a8) (rest := [.ref a8]) (mc := 57) (ms := 6254)
    (va_runI (As := []) (n := 0) ⟨hx, hb, hml, hown1, hts⟩ (y8_met sa a8 H1.size) ⟨callB_of 0 hts (xm_goodIn (xm_in 24 rfl rfl)) rfl rfl rfl (hts _ (xm_in 1 (by decide +kernel) rfl)) (hts _ (xm_in 22 (by decide +kernel) rfl)) ⟨by decide +kernel, by decide +kernel, by decide +kernel⟩ ⟨Nat.le_of_ble_eq_true rfl, Nat.le_of_ble_eq_true rfl⟩, rfl, hts _ (xm_in 23 (by decide +kernel) rfl)⟩ ⟨y8_blind, fun U hU hW => ⟨rfl, by rw [hU], by rw [hU]; exact hP1, va_K.moved hW.alike hK, (hB.at hS1 hW hU).narrow (nar (ws := []) hD1 hS1), hN.warm hW⟩⟩ rfl rfl hl.1 rfl (Nat.le_of_ble_eq_true rfl) d4 ⟨Nat.le_of_ble_eq_true rfl, Nat.le_of_ble_eq_true rfl⟩)
    (fun _ _ _ h => h) hP1 hD1 hS1 hA (fun adX gx H2 locs2 e8 eX hpx hP2 hD2 hS2 => ?_)
  refine lv_astore_n (lv' := [(1, .ref a8), (0, .ref b)]) hx hb d7 rfl hl (by decide) rfl (fun ls hl => ?_)
  rw [List.nil_append] at hP2 hD2
  refine yc_new (own := RL) (A := zA s) (H0 := s.heap) (ci := 9) (fs := yf_X9) hx hb hts xm_clsok hown1 hK hP2 hD2 hS2 hA rfl (xm_in 1111 (by decide +kernel) rfl) (xm_in 1112 (by decide +kernel) rfl) (xm_in 12 (by decide +kernel) rfl) (by decide +kernel) (Nat.le_of_ble_eq_true rfl) (Nat.le_of_ble_eq_true rfl) d8 d11 (fun a9 H3 hP3 hD3 hS3 => ?_)
  refine z_init (sa := sa) (S := xs_M) (P := mTp 0 s0) (D := D) (cA := cA) (ws := xm_ws adX cA gx xs_X) (x := .inr (9, yf_X9)) (q := a9) (rest := [.ref a9]) (mc := 43) (ms := 11511)
    (va_runI (As := []) (n := 0) ⟨hx, hb, hml, hown1, hts⟩ (y9_met sa a9 H3.size) ⟨callB_of 0 hts (xm_goodIn (xm_in 1115 rfl rfl)) rfl rfl rfl (hts _ (xm_in 12 (by decide +kernel) rfl)) (hts _ (xm_in 1113 (by decide +kernel) rfl)) ⟨by decide +kernel, by decide +kernel, by decide +kernel⟩ ⟨Nat.le_of_ble_eq_true rfl, Nat.le_of_ble_eq_true rfl⟩, rfl, hts _ (xm_in 1114 (by decide +kernel) rfl)⟩ ⟨y9_blind, fun U hU hW => ⟨rfl, by rw [hU], by rw [hU]; exact yP1 hP3, va_K.moved hW.alike hK, (hB.at hS3 hW hU).narrow (nar hD3 hS3)⟩⟩ rfl rfl hl.1 rfl (Nat.le_of_ble_eq_true rfl) d12 ⟨Nat.le_of_ble_eq_true rfl, Nat.le_of_ble_eq_true rfl⟩)
    (fun _ _ _ h => h) hP3 hD3 hS3 hA (fun adM gm H4 locs4 e9 eM hpm hP4 hD4 hS4 => ?_)
  refine lv_astore_n (lv' := [(2, .ref a9), (1, .ref a8), (0, .ref b)]) hx hb d15 rfl hl (by decide) rfl (fun ls hl => ?_)
  refine lv_iconst (v := 0) hx hb d16 (by decide) ?_
  refine lv_istore_n (lv' := [(3, .int 0), (2, .ref a9), (1, .ref a8), (0, .ref b)]) hx hb d17 rfl hl (by decide) rfl (fun ls hl => ?_)
  refine W.widen (k := 102) (n := 17839) (Nat.le_of_ble_eq_true rfl) (Nat.le_of_ble_eq_true rfl) ?_
  exact zl_loop (q8 := a8) (q9 := a9) ⟨C0, hL, hK, hB⟩ (L + 1) 0 s0 H4 locs4 ls (Nat.zero_le _) (by omega) zB_s0 ⟨adX, gx, adM, gm, zs_P hP4, zs_D hD4, hS4, eX, eM, e8, e9, hpx, 0, hpm⟩ (lv_sub hl [3, 2, 1, 0] rfl)
