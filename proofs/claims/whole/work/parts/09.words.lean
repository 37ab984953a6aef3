theorem xm_in {w : Cond} (i : Nat) (h : tables_1[i]? = some w) (hg : goodWord w = true) : w ∈ xm_tbl := List.mem_filter.mpr ⟨List.mem_append_right _ (List.mem_of_getElem? h), hg⟩
theorem xm_ins {w : Cond} (i : Nat) (h : (k2_sels lw_privs)[i]? = some w) (hg : goodWord w = true) : w ∈ xm_tbl := List.mem_filter.mpr ⟨List.mem_append_left _ (List.mem_of_getElem? h), hg⟩
def xm_flc (own : String) (q : (Nat × Nat × Nat) × Nat) : Bool := match vwCl[q.1.2.1]? with
  | some c => Nat.blt q.1.2.2 c.2.2 && (decide (tables_1[q.2]? = some (Cond.fieldLink own q.1.1 (c.2.1 q.1.2.2).1 (c.2.1 q.1.2.2).2.1 (c.2.1 q.1.2.2).2.2.1)))
  | none => (Nat.beq q.1.2.1 100 && decide (tables_1[q.2]? = some (Cond.fieldLink own q.1.1 "java/lang/String" (xm_sfd q.1.2.2).1 (xm_sfd q.1.2.2).2))) || (Nat.beq q.1.2.1 101 && xm_strs.any (fun z => decide (z.1 = own) && (decide (z.2.1 = q.1.1) && decide (z.2.2.1 = q.1.2.2)))) || (Nat.beq q.1.2.1 102 && decide (tables_1[q.2]? = some (Cond.fieldLink own q.1.1 (xm_sst q.1.2.2).1 (xm_sst q.1.2.2).2.1 (xm_sst q.1.2.2).2.2)))
theorem xm_FLs_of {own : String} (L : List ((Nat × Nat × Nat) × Nat)) (h : L.all (xm_flc own) = true) : xm_FLs own (L.map Prod.fst) := by
  intro q hq
  obtain ⟨z, hz, rfl⟩ := List.mem_map.mp hq
  have h1 := List.all_eq_true.mp h z hz
  unfold xm_flc at h1
  cases hc : vwCl[z.1.2.1]? with
  | none =>
    rw [hc] at h1
    simp only [Bool.and_eq_true, Bool.or_eq_true, decide_eq_true_eq, List.any_eq_true] at h1
    right
    rcases h1 with (⟨h1, h2⟩ | ⟨h1, w, hw, h2, h3, h4⟩) | ⟨h1, h2⟩
    · exact Or.inl ⟨Nat.eq_of_beq_eq_true h1, xm_in z.2 h2 rfl⟩
    · refine Or.inr (Or.inl ⟨Nat.eq_of_beq_eq_true h1, w.2.2.2, ?_⟩)
      rw [← h2, ← h3, ← h4]; exact hw
    · exact Or.inr (Or.inr ⟨Nat.eq_of_beq_eq_true h1, xm_in z.2 h2 rfl⟩)
  | some c =>
    rw [hc] at h1
    simp only [Bool.and_eq_true, decide_eq_true_eq] at h1
    exact Or.inl ⟨c, hc, Nat.lt_of_succ_le (by simpa [Nat.blt] using h1.1), xm_in z.2 h1.2 rfl⟩
def xm_wsc (L : List (Cond × Nat)) : Bool := L.all (fun q => decide (tables_1[q.2]? = some q.1) && goodWord q.1)
theorem xm_wsc_in {L : List (Cond × Nat)} (h : xm_wsc L = true) : ∀ w ∈ L.map Prod.fst, w ∈ xm_tbl := by
  intro w hw
  obtain ⟨z, hz, rfl⟩ := List.mem_map.mp hw
  have h1 := List.all_eq_true.mp h z hz
  simp only [Bool.and_eq_true, decide_eq_true_eq] at h1
  exact xm_in z.2 h1.1 h1.2

set_option maxRecDepth 100000 in
theorem xw_X0 : ((List.range 4).zip [388, 390, 392, 394]).all (fun q => decide (tables_1[q.2]? = some (u_lay RX0 TX0 q.1)) && goodWord (u_lay RX0 TX0 q.1)) = true := by decide +kernel
set_option maxRecDepth 100000 in
theorem xw_X1 : ((List.range 12).zip [169, 171, 173, 175, 177, 179, 181, 183, 185, 187, 189, 191]).all (fun q => decide (tables_1[q.2]? = some (u_lay RX1 TX1 q.1)) && goodWord (u_lay RX1 TX1 q.1)) = true := by decide +kernel
set_option maxRecDepth 100000 in
theorem xw_X2 : ((List.range 9).zip [358, 360, 362, 364, 366, 368, 370, 372, 374]).all (fun q => decide (tables_1[q.2]? = some (u_lay RX2 TX2 q.1)) && goodWord (u_lay RX2 TX2 q.1)) = true := by decide +kernel
set_option maxRecDepth 100000 in
theorem xw_X3 : ((List.range 11).zip [245, 247, 249, 251, 253, 255, 257, 259, 261, 263, 265]).all (fun q => decide (tables_1[q.2]? = some (u_lay RX3 TX3 q.1)) && goodWord (u_lay RX3 TX3 q.1)) = true := by decide +kernel
set_option maxRecDepth 100000 in
theorem xw_X4 : ((List.range 4).zip [330, 332, 334, 336]).all (fun q => decide (tables_1[q.2]? = some (u_lay RX4 TX4 q.1)) && goodWord (u_lay RX4 TX4 q.1)) = true := by decide +kernel
set_option maxRecDepth 100000 in
theorem xw_X5 : ((List.range 13).zip [102, 104, 106, 108, 110, 112, 114, 116, 118, 120, 122, 124, 126]).all (fun q => decide (tables_1[q.2]? = some (u_lay RX5 TX5 q.1)) && goodWord (u_lay RX5 TX5 q.1)) = true := by decide +kernel
set_option maxRecDepth 100000 in
theorem xw_X6 : ((List.range 2).zip [39, 41]).all (fun q => decide (tables_1[q.2]? = some (u_lay RX6 TX6 q.1)) && goodWord (u_lay RX6 TX6 q.1)) = true := by decide +kernel
set_option maxRecDepth 100000 in
theorem xw_X7 : ((List.range 5).zip [144, 146, 148, 150, 152]).all (fun q => decide (tables_1[q.2]? = some (u_lay RX7 TX7 q.1)) && goodWord (u_lay RX7 TX7 q.1)) = true := by decide +kernel
set_option maxRecDepth 100000 in
theorem xw_X8 : ((List.range 9).zip [407, 409, 411, 413, 415, 417, 419, 421, 423]).all (fun q => decide (tables_1[q.2]? = some (u_lay RX8 TX8 q.1)) && goodWord (u_lay RX8 TX8 q.1)) = true := by decide +kernel
set_option maxRecDepth 100000 in
theorem xw_X9 : ((List.range 65).zip [1270, 1272, 1274, 1276, 1278, 1280, 1282, 1284, 1286, 1288, 1290, 1292, 1294, 1296, 1298, 1300, 1302, 1304, 1306, 1308, 1310, 1312, 1314, 1316, 1318, 1320, 1322, 1324, 1326, 1328, 1330, 1332, 1334, 1336, 1338, 1340, 1342, 1344, 1346, 1348, 1350, 1352, 1354, 1356, 1358, 1360, 1362, 1364, 1366, 1368, 1370, 1372, 1374, 1376, 1378, 1380, 1382, 1384, 1386, 1388, 1390, 1392, 1394, 1396, 1398]).all (fun q => decide (tables_1[q.2]? = some (u_lay RX9 TX9 q.1)) && goodWord (u_lay RX9 TX9 q.1)) = true := by decide +kernel
theorem xm_uws {C : String} {T : u_T} {N : Nat} {ps : List Nat} (hl : ps.length = N) (h : ((List.range N).zip ps).all (fun q => decide (tables_1[q.2]? = some (u_lay C T q.1)) && goodWord (u_lay C T q.1)) = true) : ∀ w ∈ u_ws C T N, w ∈ xm_tbl := by
  intro w hw
  obtain ⟨k, hk, rfl⟩ := List.mem_map.mp hw
  have hkN := List.mem_range.mp hk
  have hm : (k, ps[k]'(by omega)) ∈ (List.range N).zip ps := by
    refine List.mem_iff_getElem?.mpr ⟨k, ?_⟩
    rw [List.getElem?_zip_eq_some]
    exact ⟨by simp [hkN], by simp [hl, hkN]⟩
  have h1 := List.all_eq_true.mp h _ hm
  simp only [Bool.and_eq_true, decide_eq_true_eq] at h1
  exact xm_in _ h1.1 h1.2
theorem xm_clsok : xm_cls := by
  intro ci c h
  match ci, h with
  | 0, h => cases h; exact ⟨xm_uws rfl xw_X0, ⟨tyX0, tyX0_ok⟩, nmX0⟩
  | 1, h => cases h; exact ⟨xm_uws rfl xw_X1, ⟨tyX1, tyX1_ok⟩, nmX1⟩
  | 2, h => cases h; exact ⟨xm_uws rfl xw_X2, ⟨tyX2, tyX2_ok⟩, nmX2⟩
  | 3, h => cases h; exact ⟨xm_uws rfl xw_X3, ⟨tyX3, tyX3_ok⟩, nmX3⟩
  | 4, h => cases h; exact ⟨xm_uws rfl xw_X4, ⟨tyX4, tyX4_ok⟩, nmX4⟩
  | 5, h => cases h; exact ⟨xm_uws rfl xw_X5, ⟨tyX5, tyX5_ok⟩, nmX5⟩
  | 6, h => cases h; exact ⟨xm_uws rfl xw_X6, ⟨tyX6, tyX6_ok⟩, nmX6⟩
  | 7, h => cases h; exact ⟨xm_uws rfl xw_X7, ⟨tyX7, tyX7_ok⟩, nmX7⟩
  | 8, h => cases h; exact ⟨xm_uws rfl xw_X8, ⟨tyX8, tyX8_ok⟩, nmX8⟩
  | 9, h => cases h; exact ⟨xm_uws rfl xw_X9, ⟨tyX9, tyX9_ok⟩, nmX9⟩
  | n + 10, h => simp [vwCl] at h
def xf_J0 : List (Nat × Nat × Nat) := [(9, 100, 0), (15, 100, 1), (38, 102, 0), (1053, 102, 1)]
set_option maxRecDepth 100000 in
theorem xf_J0_ok : xm_FLs RJ0 xf_J0 := xm_FLs_of [((9, 100, 0), 1812), ((15, 100, 1), 1811), ((38, 102, 0), 488), ((1053, 102, 1), 496)] (by decide +kernel)
def xi_J0 : List (Nat × Int32) := []
theorem xi_J0_ok : xm_ILs RJ0 xi_J0 := fun _ h => absurd h List.not_mem_nil
def xj_J0 : List (Nat × Int32) := []
theorem xj_J0_ok : xm_LLs RJ0 xj_J0 := fun _ h => absurd h List.not_mem_nil
def xf_J1 : List (Nat × Nat × Nat) := []
set_option maxRecDepth 100000 in
theorem xf_J1_ok : xm_FLs RJ1 xf_J1 := xm_FLs_of [] (by decide +kernel)
def xi_J1 : List (Nat × Int32) := []
theorem xi_J1_ok : xm_ILs RJ1 xi_J1 := fun _ h => absurd h List.not_mem_nil
def xj_J1 : List (Nat × Int32) := []
theorem xj_J1_ok : xm_LLs RJ1 xj_J1 := fun _ h => absurd h List.not_mem_nil
def xf_J3 : List (Nat × Nat × Nat) := []
set_option maxRecDepth 100000 in
theorem xf_J3_ok : xm_FLs RJ3 xf_J3 := xm_FLs_of [] (by decide +kernel)
def xi_J3 : List (Nat × Int32) := []
theorem xi_J3_ok : xm_ILs RJ3 xi_J3 := fun _ h => absurd h List.not_mem_nil
def xj_J3 : List (Nat × Int32) := []
theorem xj_J3_ok : xm_LLs RJ3 xj_J3 := fun _ h => absurd h List.not_mem_nil
def xf_J6 : List (Nat × Nat × Nat) := []
set_option maxRecDepth 100000 in
theorem xf_J6_ok : xm_FLs RJ6 xf_J6 := xm_FLs_of [] (by decide +kernel)
def xi_J6 : List (Nat × Int32) := [(265, 1431655765), (266, 858993459), (267, 252645135)]
theorem xi_J6_ok : xm_ILs RJ6 xi_J6 := List.forall_mem_cons.mpr ⟨xm_in 1040 (by decide +kernel) rfl, List.forall_mem_cons.mpr ⟨xm_in 1041 (by decide +kernel) rfl, List.forall_mem_cons.mpr ⟨xm_in 1042 (by decide +kernel) rfl, fun _ h => absurd h List.not_mem_nil⟩⟩⟩
def xj_J6 : List (Nat × Int32) := []
theorem xj_J6_ok : xm_LLs RJ6 xj_J6 := fun _ h => absurd h List.not_mem_nil
def xf_J7 : List (Nat × Nat × Nat) := []
set_option maxRecDepth 100000 in
theorem xf_J7_ok : xm_FLs RJ7 xf_J7 := xm_FLs_of [] (by decide +kernel)
def xi_J7 : List (Nat × Int32) := []
theorem xi_J7_ok : xm_ILs RJ7 xi_J7 := fun _ h => absurd h List.not_mem_nil
def xj_J7 : List (Nat × Int32) := []
theorem xj_J7_ok : xm_LLs RJ7 xj_J7 := fun _ h => absurd h List.not_mem_nil
def xf_J9 : List (Nat × Nat × Nat) := []
set_option maxRecDepth 100000 in
theorem xf_J9_ok : xm_FLs RJ9 xf_J9 := xm_FLs_of [] (by decide +kernel)
def xi_J9 : List (Nat × Int32) := []
theorem xi_J9_ok : xm_ILs RJ9 xi_J9 := fun _ h => absurd h List.not_mem_nil
def xj_J9 : List (Nat × Int32) := []
theorem xj_J9_ok : xm_LLs RJ9 xj_J9 := fun _ h => absurd h List.not_mem_nil
def xf_X0 : List (Nat × Nat × Nat) := [(11, 0, 1), (15, 0, 2), (18, 0, 3), (22, 0, 0), (26, 3, 10), (32, 5, 8), (60, 5, 0), (63, 5, 1), (66, 5, 2)]
set_option maxRecDepth 100000 in
theorem xf_X0_ok : xm_FLs RX0 xf_X0 := xm_FLs_of [((11, 0, 1), 385), ((15, 0, 2), 386), ((18, 0, 3), 387), ((22, 0, 0), 383), ((26, 3, 10), 244), ((32, 5, 8), 83), ((60, 5, 0), 58), ((63, 5, 1), 63), ((66, 5, 2), 68)] (by decide +kernel)
def xi_X0 : List (Nat × Int32) := []
theorem xi_X0_ok : xm_ILs RX0 xi_X0 := fun _ h => absurd h List.not_mem_nil
def xj_X0 : List (Nat × Int32) := []
theorem xj_X0_ok : xm_LLs RX0 xj_X0 := fun _ h => absurd h List.not_mem_nil
def xf_X1 : List (Nat × Nat × Nat) := [(14, 1, 0), (18, 1, 2), (22, 1, 3), (25, 1, 4), (34, 1, 1), (44, 1, 7), (48, 1, 8), (51, 1, 9), (54, 1, 10), (57, 1, 11), (85, 5, 11), (91, 5, 8), (102, 5, 9), (108, 5, 10), (119, 7, 2), (138, 5, 12), (144, 1, 5), (147, 1, 6), (170, 7, 0), (173, 7, 1)]
set_option maxRecDepth 100000 in
theorem xf_X1_ok : xm_FLs RX1 xf_X1 := xm_FLs_of [((14, 1, 0), 156), ((18, 1, 2), 159), ((22, 1, 3), 160), ((25, 1, 4), 161), ((34, 1, 1), 158), ((44, 1, 7), 164), ((48, 1, 8), 165), ((51, 1, 9), 166), ((54, 1, 10), 167), ((57, 1, 11), 168), ((85, 5, 11), 97), ((91, 5, 8), 85), ((102, 5, 9), 91), ((108, 5, 10), 95), ((119, 7, 2), 141), ((138, 5, 12), 100), ((144, 1, 5), 162), ((147, 1, 6), 163), ((170, 7, 0), 137), ((173, 7, 1), 139)] (by decide +kernel)
def xi_X1 : List (Nat × Int32) := []
theorem xi_X1_ok : xm_ILs RX1 xi_X1 := fun _ h => absurd h List.not_mem_nil
def xj_X1 : List (Nat × Int32) := []
theorem xj_X1_ok : xm_LLs RX1 xj_X1 := fun _ h => absurd h List.not_mem_nil
def xf_X2 : List (Nat × Nat × Nat) := [(9, 2, 3), (15, 2, 6), (18, 2, 7), (23, 2, 8), (26, 3, 10), (30, 5, 9), (36, 2, 4), (37, 2, 5), (40, 3, 5), (53, 2, 0), (79, 2, 1), (82, 2, 2), (112, 5, 1), (115, 5, 8), (118, 3, 1), (121, 5, 0)]
set_option maxRecDepth 100000 in
theorem xf_X2_ok : xm_FLs RX2 xf_X2 := xm_FLs_of [((9, 2, 3), 351), ((15, 2, 6), 355), ((18, 2, 7), 356), ((23, 2, 8), 357), ((26, 3, 10), 243), ((30, 5, 9), 88), ((36, 2, 4), 353), ((37, 2, 5), 354), ((40, 3, 5), 234), ((53, 2, 0), 345), ((79, 2, 1), 347), ((82, 2, 2), 349), ((112, 5, 1), 66), ((115, 5, 8), 86), ((118, 3, 1), 224), ((121, 5, 0), 61)] (by decide +kernel)
def xi_X2 : List (Nat × Int32) := []
theorem xi_X2_ok : xm_ILs RX2 xi_X2 := fun _ h => absurd h List.not_mem_nil
def xj_X2 : List (Nat × Int32) := []
theorem xj_X2_ok : xm_LLs RX2 xj_X2 := fun _ h => absurd h List.not_mem_nil
def xf_X3 : List (Nat × Nat × Nat) := [(11, 3, 0), (15, 3, 1), (18, 3, 4), (21, 3, 5), (24, 3, 6), (27, 3, 7), (30, 3, 8), (33, 3, 9), (36, 3, 10), (40, 3, 2), (44, 3, 3), (56, 5, 10), (61, 5, 4), (64, 5, 5), (77, 5, 9), (88, 5, 8), (95, 5, 1), (98, 5, 0), (116, 5, 6), (119, 5, 7), (122, 5, 12), (132, 5, 3), (135, 5, 2)]
set_option maxRecDepth 100000 in
theorem xf_X3_ok : xm_FLs RX3 xf_X3 := xm_FLs_of [((11, 3, 0), 218), ((15, 3, 1), 221), ((18, 3, 4), 231), ((21, 3, 5), 233), ((24, 3, 6), 236), ((27, 3, 7), 238), ((30, 3, 8), 240), ((33, 3, 9), 241), ((36, 3, 10), 242), ((40, 3, 2), 225), ((44, 3, 3), 228), ((56, 5, 10), 94), ((61, 5, 4), 75), ((64, 5, 5), 77), ((77, 5, 9), 90), ((88, 5, 8), 84), ((95, 5, 1), 64), ((98, 5, 0), 59), ((116, 5, 6), 79), ((119, 5, 7), 81), ((122, 5, 12), 101), ((132, 5, 3), 73), ((135, 5, 2), 70)] (by decide +kernel)
def xi_X3 : List (Nat × Int32) := [(164, 1103515245)]
theorem xi_X3_ok : xm_ILs RX3 xi_X3 := List.forall_mem_cons.mpr ⟨xm_in 821 (by decide +kernel) rfl, fun _ h => absurd h List.not_mem_nil⟩
def xj_X3 : List (Nat × Int32) := []
theorem xj_X3_ok : xm_LLs RX3 xj_X3 := fun _ h => absurd h List.not_mem_nil
def xf_X4 : List (Nat × Nat × Nat) := [(13, 4, 3), (17, 4, 0), (21, 4, 1), (24, 4, 2), (34, 3, 2), (37, 3, 3), (40, 3, 1), (49, 3, 0)]
set_option maxRecDepth 100000 in
theorem xf_X4_ok : xm_FLs RX4 xf_X4 := xm_FLs_of [((13, 4, 3), 329), ((17, 4, 0), 324), ((21, 4, 1), 326), ((24, 4, 2), 328), ((34, 3, 2), 226), ((37, 3, 3), 229), ((40, 3, 1), 222), ((49, 3, 0), 219)] (by decide +kernel)
def xi_X4 : List (Nat × Int32) := []
theorem xi_X4_ok : xm_ILs RX4 xi_X4 := fun _ h => absurd h List.not_mem_nil
def xj_X4 : List (Nat × Int32) := []
theorem xj_X4_ok : xm_LLs RX4 xj_X4 := fun _ h => absurd h List.not_mem_nil
def xf_X5 : List (Nat × Nat × Nat) := [(13, 5, 0), (17, 5, 1), (20, 5, 2), (23, 5, 3), (26, 5, 4), (29, 5, 5), (32, 5, 6), (35, 5, 7), (38, 5, 8), (42, 5, 9), (45, 5, 10), (48, 5, 11), (51, 5, 12)]
set_option maxRecDepth 100000 in
theorem xf_X5_ok : xm_FLs RX5 xf_X5 := xm_FLs_of [((13, 5, 0), 57), ((17, 5, 1), 62), ((20, 5, 2), 67), ((23, 5, 3), 71), ((26, 5, 4), 74), ((29, 5, 5), 76), ((32, 5, 6), 78), ((35, 5, 7), 80), ((38, 5, 8), 82), ((42, 5, 9), 89), ((45, 5, 10), 93), ((48, 5, 11), 96), ((51, 5, 12), 99)] (by decide +kernel)
def xi_X5 : List (Nat × Int32) := []
theorem xi_X5_ok : xm_ILs RX5 xi_X5 := fun _ h => absurd h List.not_mem_nil
def xj_X5 : List (Nat × Int32) := []
theorem xj_X5_ok : xm_LLs RX5 xj_X5 := fun _ h => absurd h List.not_mem_nil
def xf_X6 : List (Nat × Nat × Nat) := [(9, 6, 0), (13, 6, 1)]
set_option maxRecDepth 100000 in
theorem xf_X6_ok : xm_FLs RX6 xf_X6 := xm_FLs_of [((9, 6, 0), 34), ((13, 6, 1), 38)] (by decide +kernel)
def xi_X6 : List (Nat × Int32) := []
theorem xi_X6_ok : xm_ILs RX6 xi_X6 := fun _ h => absurd h List.not_mem_nil
def xj_X6 : List (Nat × Int32) := []
theorem xj_X6_ok : xm_LLs RX6 xj_X6 := fun _ h => absurd h List.not_mem_nil
def xf_X7 : List (Nat × Nat × Nat) := [(9, 7, 0), (13, 7, 1), (16, 7, 2), (20, 7, 3), (24, 6, 1), (30, 7, 4), (75, 6, 0), (57, 101, 1), (79, 101, 0)]
set_option maxRecDepth 100000 in
theorem xf_X7_ok : xm_FLs RX7 xf_X7 := xm_FLs_of [((9, 7, 0), 136), ((13, 7, 1), 138), ((16, 7, 2), 140), ((20, 7, 3), 142), ((24, 6, 1), 37), ((30, 7, 4), 143), ((75, 6, 0), 35), ((57, 101, 1), 0), ((79, 101, 0), 0)] (by decide +kernel)
def xi_X7 : List (Nat × Int32) := []
theorem xi_X7_ok : xm_ILs RX7 xi_X7 := fun _ h => absurd h List.not_mem_nil
def xj_X7 : List (Nat × Int32) := [(64, 32), (66, 97), (85, 10), (87, 48)]
theorem xj_X7_ok : xm_LLs RX7 xj_X7 := List.forall_mem_cons.mpr ⟨xm_in 469 (by decide +kernel) rfl, List.forall_mem_cons.mpr ⟨xm_in 470 (by decide +kernel) rfl, List.forall_mem_cons.mpr ⟨xm_in 527 (by decide +kernel) rfl, List.forall_mem_cons.mpr ⟨xm_in 528 (by decide +kernel) rfl, fun _ h => absurd h List.not_mem_nil⟩⟩⟩⟩
def xf_X8 : List (Nat × Nat × Nat) := [(10, 8, 0), (21, 8, 1), (28, 8, 7), (40, 8, 2), (44, 8, 3), (53, 8, 4), (60, 8, 5), (67, 8, 6), (71, 8, 8), (75, 6, 1), (103, 1, 0), (107, 0, 0), (114, 5, 0), (118, 5, 1), (121, 5, 2), (131, 5, 3), (134, 3, 5), (137, 3, 4), (140, 3, 7), (149, 3, 6), (152, 3, 0), (169, 3, 1), (193, 5, 11), (200, 3, 2), (213, 2, 0), (216, 2, 3), (222, 2, 1), (225, 2, 2), (241, 5, 8), (250, 5, 9), (256, 3, 3), (298, 4, 0), (301, 4, 1)]
set_option maxRecDepth 100000 in
theorem xf_X8_ok : xm_FLs RX8 xf_X8 := xm_FLs_of [((10, 8, 0), 398), ((21, 8, 1), 399), ((28, 8, 7), 405), ((40, 8, 2), 400), ((44, 8, 3), 401), ((53, 8, 4), 402), ((60, 8, 5), 403), ((67, 8, 6), 404), ((71, 8, 8), 406), ((75, 6, 1), 36), ((103, 1, 0), 157), ((107, 0, 0), 384), ((114, 5, 0), 60), ((118, 5, 1), 65), ((121, 5, 2), 69), ((131, 5, 3), 72), ((134, 3, 5), 235), ((137, 3, 4), 232), ((140, 3, 7), 239), ((149, 3, 6), 237), ((152, 3, 0), 220), ((169, 3, 1), 223), ((193, 5, 11), 98), ((200, 3, 2), 227), ((213, 2, 0), 346), ((216, 2, 3), 352), ((222, 2, 1), 348), ((225, 2, 2), 350), ((241, 5, 8), 87), ((250, 5, 9), 92), ((256, 3, 3), 230), ((298, 4, 0), 325), ((301, 4, 1), 327)] (by decide +kernel)
def xi_X8 : List (Nat × Int32) := []
theorem xi_X8_ok : xm_ILs RX8 xi_X8 := fun _ h => absurd h List.not_mem_nil
def xj_X8 : List (Nat × Int32) := []
theorem xj_X8_ok : xm_LLs RX8 xj_X8 := fun _ h => absurd h List.not_mem_nil
def xf_X9 : List (Nat × Nat × Nat) := [(13, 9, 1), (17, 9, 3), (20, 9, 5), (24, 9, 6), (27, 9, 7), (30, 9, 8), (34, 9, 9), (37, 9, 17), (40, 9, 21), (43, 9, 22), (46, 9, 23), (49, 9, 24), (52, 9, 25), (55, 9, 26), (58, 9, 27), (61, 9, 28), (64, 9, 29), (67, 9, 30), (70, 9, 31), (73, 9, 32), (76, 9, 33), (79, 9, 34), (82, 9, 36), (86, 9, 37), (89, 9, 38), (92, 9, 39), (95, 9, 40), (98, 9, 42), (101, 9, 43), (104, 9, 44), (107, 9, 46), (110, 9, 47), (113, 9, 49), (116, 9, 50), (119, 9, 53), (122, 9, 55), (125, 9, 56), (128, 9, 57), (131, 9, 58), (134, 9, 60), (137, 9, 61), (140, 9, 62), (143, 9, 63), (146, 9, 64), (163, 9, 2), (169, 9, 4), (178, 9, 10), (200, 9, 13), (203, 9, 11), (206, 9, 14), (209, 9, 15), (212, 9, 16), (227, 9, 12), (230, 9, 18), (233, 9, 19), (236, 9, 20), (239, 9, 35), (242, 9, 41), (248, 9, 54), (251, 9, 59), (290, 9, 45), (303, 9, 48), (311, 9, 51), (314, 9, 52)]
set_option maxRecDepth 100000 in
theorem xf_X9_ok : xm_FLs RX9 xf_X9 := xm_FLs_of [((13, 9, 1), 1206), ((17, 9, 3), 1208), ((20, 9, 5), 1210), ((24, 9, 6), 1211), ((27, 9, 7), 1212), ((30, 9, 8), 1213), ((34, 9, 9), 1214), ((37, 9, 17), 1222), ((40, 9, 21), 1226), ((43, 9, 22), 1227), ((46, 9, 23), 1228), ((49, 9, 24), 1229), ((52, 9, 25), 1230), ((55, 9, 26), 1231), ((58, 9, 27), 1232), ((61, 9, 28), 1233), ((64, 9, 29), 1234), ((67, 9, 30), 1235), ((70, 9, 31), 1236), ((73, 9, 32), 1237), ((76, 9, 33), 1238), ((79, 9, 34), 1239), ((82, 9, 36), 1241), ((86, 9, 37), 1242), ((89, 9, 38), 1243), ((92, 9, 39), 1244), ((95, 9, 40), 1245), ((98, 9, 42), 1247), ((101, 9, 43), 1248), ((104, 9, 44), 1249), ((107, 9, 46), 1251), ((110, 9, 47), 1252), ((113, 9, 49), 1254), ((116, 9, 50), 1255), ((119, 9, 53), 1258), ((122, 9, 55), 1260), ((125, 9, 56), 1261), ((128, 9, 57), 1262), ((131, 9, 58), 1263), ((134, 9, 60), 1265), ((137, 9, 61), 1266), ((140, 9, 62), 1267), ((143, 9, 63), 1268), ((146, 9, 64), 1269), ((163, 9, 2), 1207), ((169, 9, 4), 1209), ((178, 9, 10), 1215), ((200, 9, 13), 1218), ((203, 9, 11), 1216), ((206, 9, 14), 1219), ((209, 9, 15), 1220), ((212, 9, 16), 1221), ((227, 9, 12), 1217), ((230, 9, 18), 1223), ((233, 9, 19), 1224), ((236, 9, 20), 1225), ((239, 9, 35), 1240), ((242, 9, 41), 1246), ((248, 9, 54), 1259), ((251, 9, 59), 1264), ((290, 9, 45), 1250), ((303, 9, 48), 1253), ((311, 9, 51), 1256), ((314, 9, 52), 1257)] (by decide +kernel)
def xi_X9 : List (Nat × Int32) := [(323, 1103515245)]
theorem xi_X9_ok : xm_ILs RX9 xi_X9 := List.forall_mem_cons.mpr ⟨xm_in 1624 (by decide +kernel) rfl, fun _ h => absurd h List.not_mem_nil⟩
def xj_X9 : List (Nat × Int32) := [(172, 27)]
theorem xj_X9_ok : xm_LLs RX9 xj_X9 := List.forall_mem_cons.mpr ⟨xm_in 1127 (by decide +kernel) rfl, fun _ h => absurd h List.not_mem_nil⟩
