-- THE LAW: its cases
set_option maxRecDepth 100000 in
theorem zd_0 : zl_cx 216 [(1, false), (2, false), (3, false), (4, false), (5, false)] 13 = true ∧ zl_cm 245 [(1, false), (2, false), (3, false), (4, false), (5, false)] 17 = true := by decide +kernel
set_option maxRecDepth 100000 in
theorem zc_0 {p : Program} {l : Launch} {e : Env} {s : State} {m : MethodId} {below : List Frame} {meth : Method} {c : Code} {D : va_G} {cA : Nat → ClassId} {sa : Nat → Nat} {b L i q8 q9 : Nat} {xs : Nat → Int32} (F : zF p s m meth c b L xs D cA sa) (hi : i + 6 ≤ L) : zC p l e s m below meth c b D cA sa q8 q9 i 216 := by
  intro σ H locs ls hb hw hl kk
  refine zl_x F (ks := [(1, false), (2, false), (3, false), (4, false), (5, false)]) (a := aFeed σ) (Px' := xTop (sFeed σ (xs (i + 1)) (xs (i + 2)) (xs (i + 3)) (xs (i + 4)) (xs (i + 5)))) xp_X8_feed zk_13 (by decide) (fun g h => ⟨(σ, xs (i + 1), xs (i + 2), xs (i + 3), xs (i + 4), xs (i + 5)), ⟨rfl, h⟩, fun o g' q => q⟩) zd_0.1 (pc' := 245) (by decide) hi (by decide) hw hl (fun H locs hw => ?_)
  exact zl_m F (ks := [(1, false), (2, false), (3, false), (4, false), (5, false)]) (Pm' := mTop (sFeed σ (xs (i + 1)) (xs (i + 2)) (xs (i + 3)) (xs (i + 4)) (xs (i + 5)))) xp_X9_feed zk_17 (by decide) (fun g h => ⟨(σ, xs (i + 1), xs (i + 2), xs (i + 3), xs (i + 4), xs (i + 5)), ⟨rfl, h⟩, fun o g' q => q⟩) zd_0.2 hi (by decide) hw hl (fun H locs hw => kk (sFeed σ (xs (i + 1)) (xs (i + 2)) (xs (i + 3)) (xs (i + 4)) (xs (i + 5))) H locs (zB_feed hb _ _ _ _ _) hw)
set_option maxRecDepth 100000 in
theorem zd_1 : zl_cx 279 [(1, false)] 18 = true ∧ zl_cm 288 [(1, false)] 22 = true := by decide +kernel
set_option maxRecDepth 100000 in
theorem zc_1 {p : Program} {l : Launch} {e : Env} {s : State} {m : MethodId} {below : List Frame} {meth : Method} {c : Code} {D : va_G} {cA : Nat → ClassId} {sa : Nat → Nat} {b L i q8 q9 : Nat} {xs : Nat → Int32} (F : zF p s m meth c b L xs D cA sa) (hi : i + 6 ≤ L) : zC p l e s m below meth c b D cA sa q8 q9 i 279 := by
  intro σ H locs ls hb hw hl kk
  refine zl_x F (ks := [(1, false)]) (a := aBack σ (xs (i + 1))) (Px' := xTop (sBack σ (xs (i + 1)))) xp_X8_back zk_18 (by decide) (fun g h => ⟨(σ, xs (i + 1)), ⟨rfl, h⟩, fun o g' q => q⟩) zd_1.1 (pc' := 288) (by decide) hi (by decide) hw hl (fun H locs hw => ?_)
  exact zl_m F (ks := [(1, false)]) (Pm' := mTop (sBack σ (xs (i + 1)))) xp_X9_back zk_22 (by decide) (fun g h => ⟨(σ, xs (i + 1)), ⟨rfl, h⟩, fun o g' q => q⟩) zd_1.2 hi (by decide) hw hl (fun H locs hw => kk (sBack σ (xs (i + 1))) H locs (zB_back hb _) hw)
set_option maxRecDepth 100000 in
theorem zd_2 : zl_cx 302 [] 23 = true ∧ zl_cm 306 [] 27 = true := by decide +kernel
set_option maxRecDepth 100000 in
theorem zc_2 {p : Program} {l : Launch} {e : Env} {s : State} {m : MethodId} {below : List Frame} {meth : Method} {c : Code} {D : va_G} {cA : Nat → ClassId} {sa : Nat → Nat} {b L i q8 q9 : Nat} {xs : Nat → Int32} (F : zF p s m meth c b L xs D cA sa) (hi : i + 6 ≤ L) : zC p l e s m below meth c b D cA sa q8 q9 i 302 := by
  intro σ H locs ls hb hw hl kk
  refine zl_xr F zk_23 zd_2.1 hb hw hl (fun H locs hw => ?_)
  exact zl_m F (ks := []) (Pm' := mTop (sRead σ)) xp_X9_read zk_27 (by decide) (fun g h => ⟨σ, ⟨rfl, h, hb⟩, fun o g' q => q⟩) zd_2.2 hi (by decide) hw hl (fun H locs hw => kk (sRead σ) H locs (zB_read σ) hw)
set_option maxRecDepth 100000 in
theorem zd_3 : zl_cx 315 [] 28 = true ∧ zl_cm 319 [] 31 = true := by decide +kernel
set_option maxRecDepth 100000 in
theorem zc_3 {p : Program} {l : Launch} {e : Env} {s : State} {m : MethodId} {below : List Frame} {meth : Method} {c : Code} {D : va_G} {cA : Nat → ClassId} {sa : Nat → Nat} {b L i q8 q9 : Nat} {xs : Nat → Int32} (F : zF p s m meth c b L xs D cA sa) (hi : i + 6 ≤ L) : zC p l e s m below meth c b D cA sa q8 q9 i 315 := by
  intro σ H locs ls hb hw hl kk
  refine zl_x F (ks := []) (a := sP σ) (Px' := xTop (σ)) xp_X8_place zk_28 (by decide) (fun g h => ⟨σ, ⟨rfl, h⟩, fun o g' q => q⟩) zd_3.1 (pc' := 319) (by decide) hi (by decide) hw hl (fun H locs hw => ?_)
  exact zl_m F (ks := []) (Pm' := mTop (σ)) xp_X9_place zk_31 (by decide) (fun g h => ⟨σ, ⟨rfl, h⟩, fun o g' q => q⟩) zd_3.2 hi (by decide) hw hl (fun H locs hw => kk (σ) H locs (hb) hw)
set_option maxRecDepth 100000 in
theorem zd_4 : zl_cx 328 [(1, false), (2, false)] 32 = true ∧ zl_cm 342 [(1, false), (2, false)] 36 = true := by decide +kernel
set_option maxRecDepth 100000 in
theorem zc_4 {p : Program} {l : Launch} {e : Env} {s : State} {m : MethodId} {below : List Frame} {meth : Method} {c : Code} {D : va_G} {cA : Nat → ClassId} {sa : Nat → Nat} {b L i q8 q9 : Nat} {xs : Nat → Int32} (F : zF p s m meth c b L xs D cA sa) (hi : i + 6 ≤ L) : zC p l e s m below meth c b D cA sa q8 q9 i 328 := by
  intro σ H locs ls hb hw hl kk
  refine zl_x F (ks := [(1, false), (2, false)]) (a := aSlide σ (xs (i + 1)) (xs (i + 2))) (Px' := xTop (σ)) xp_X8_slide zk_32 (by decide) (fun g h => ⟨(σ, xs (i + 1), xs (i + 2)), ⟨rfl, h⟩, fun o g' q => q⟩) zd_4.1 (pc' := 342) (by decide) hi (by decide) hw hl (fun H locs hw => ?_)
  exact zl_m F (ks := [(1, false), (2, false)]) (Pm' := mTop (σ)) xp_X9_slide zk_36 (by decide) (fun g h => ⟨(σ, xs (i + 1), xs (i + 2)), ⟨rfl, h⟩, fun o g' q => q⟩) zd_4.2 hi (by decide) hw hl (fun H locs hw => kk (σ) H locs (hb) hw)
set_option maxRecDepth 100000 in
theorem zd_5 : zl_cx 361 [(1, false), (2, false)] 37 = true ∧ zl_cm 375 [(1, false), (2, false)] 40 = true := by decide +kernel
set_option maxRecDepth 100000 in
theorem zc_5 {p : Program} {l : Launch} {e : Env} {s : State} {m : MethodId} {below : List Frame} {meth : Method} {c : Code} {D : va_G} {cA : Nat → ClassId} {sa : Nat → Nat} {b L i q8 q9 : Nat} {xs : Nat → Int32} (F : zF p s m meth c b L xs D cA sa) (hi : i + 6 ≤ L) : zC p l e s m below meth c b D cA sa q8 q9 i 361 := by
  intro σ H locs ls hb hw hl kk
  refine zl_x F (ks := [(1, false), (2, false)]) (a := aPerson σ (xs (i + 1)) (xs (i + 2))) (Px' := xTop (σ)) xp_X8_person zk_37 (by decide) (fun g h => ⟨(σ, xs (i + 1), xs (i + 2)), ⟨rfl, h⟩, fun o g' q => q⟩) zd_5.1 (pc' := 375) (by decide) hi (by decide) hw hl (fun H locs hw => ?_)
  exact zl_m F (ks := [(1, false), (2, false)]) (Pm' := mTop (σ)) xp_X9_person zk_40 (by decide) (fun g h => ⟨(σ, xs (i + 1), xs (i + 2)), ⟨rfl, h⟩, fun o g' q => q⟩) zd_5.2 hi (by decide) hw hl (fun H locs hw => kk (σ) H locs (hb) hw)
set_option maxRecDepth 100000 in
theorem zd_6 : zl_cx 394 [(1, false), (2, false)] 41 = true ∧ zl_cm 408 [(1, false), (2, false)] 44 = true := by decide +kernel
set_option maxRecDepth 100000 in
theorem zc_6 {p : Program} {l : Launch} {e : Env} {s : State} {m : MethodId} {below : List Frame} {meth : Method} {c : Code} {D : va_G} {cA : Nat → ClassId} {sa : Nat → Nat} {b L i q8 q9 : Nat} {xs : Nat → Int32} (F : zF p s m meth c b L xs D cA sa) (hi : i + 6 ≤ L) : zC p l e s m below meth c b D cA sa q8 q9 i 394 := by
  intro σ H locs ls hb hw hl kk
  refine zl_x F (ks := [(1, false), (2, false)]) (a := aGlow σ (xs (i + 1)) (xs (i + 2))) (Px' := xTop (σ)) xp_X8_glow zk_41 (by decide) (fun g h => ⟨(σ, xs (i + 1), xs (i + 2)), ⟨rfl, h⟩, fun o g' q => q⟩) zd_6.1 (pc' := 408) (by decide) hi (by decide) hw hl (fun H locs hw => ?_)
  exact zl_m F (ks := [(1, false), (2, false)]) (Pm' := mTop (σ)) xp_X9_glow zk_44 (by decide) (fun g h => ⟨(σ, xs (i + 1), xs (i + 2)), ⟨rfl, h⟩, fun o g' q => q⟩) zd_6.2 hi (by decide) hw hl (fun H locs hw => kk (σ) H locs (hb) hw)
set_option maxRecDepth 100000 in
theorem zd_7 : zl_cx 427 [(1, false), (2, false), (3, false)] 45 = true ∧ zl_cm 446 [(1, false), (2, false), (3, false)] 49 = true := by decide +kernel
set_option maxRecDepth 100000 in
theorem zc_7 {p : Program} {l : Launch} {e : Env} {s : State} {m : MethodId} {below : List Frame} {meth : Method} {c : Code} {D : va_G} {cA : Nat → ClassId} {sa : Nat → Nat} {b L i q8 q9 : Nat} {xs : Nat → Int32} (F : zF p s m meth c b L xs D cA sa) (hi : i + 6 ≤ L) : zC p l e s m below meth c b D cA sa q8 q9 i 427 := by
  intro σ H locs ls hb hw hl kk
  refine zl_x F (ks := [(1, false), (2, false), (3, false)]) (a := aTells σ (xs (i + 1)) (xs (i + 2)) (xs (i + 3))) (Px' := xTop (σ)) xp_X8_tells zk_45 (by decide) (fun g h => ⟨(σ, xs (i + 1), xs (i + 2), xs (i + 3)), ⟨rfl, h⟩, fun o g' q => q⟩) zd_7.1 (pc' := 446) (by decide) hi (by decide) hw hl (fun H locs hw => ?_)
  exact zl_m F (ks := [(1, false), (2, false), (3, false)]) (Pm' := mTop (σ)) xp_X9_tells zk_49 (by decide) (fun g h => ⟨(σ, xs (i + 1), xs (i + 2), xs (i + 3)), ⟨rfl, h⟩, fun o g' q => q⟩) zd_7.2 hi (by decide) hw hl (fun H locs hw => kk (σ) H locs (hb) hw)
set_option maxRecDepth 100000 in
theorem zd_8 : zl_cx 470 [(1, false), (2, false)] 50 = true ∧ zl_cm 484 [(1, false), (2, false)] 53 = true := by decide +kernel
set_option maxRecDepth 100000 in
theorem zc_8 {p : Program} {l : Launch} {e : Env} {s : State} {m : MethodId} {below : List Frame} {meth : Method} {c : Code} {D : va_G} {cA : Nat → ClassId} {sa : Nat → Nat} {b L i q8 q9 : Nat} {xs : Nat → Int32} (F : zF p s m meth c b L xs D cA sa) (hi : i + 6 ≤ L) : zC p l e s m below meth c b D cA sa q8 q9 i 470 := by
  intro σ H locs ls hb hw hl kk
  refine zl_x F (ks := [(1, false), (2, false)]) (a := aJoin σ (xs (i + 1)) (xs (i + 2))) (Px' := xTop (σ)) xp_X8_join zk_50 (by decide) (fun g h => ⟨(σ, xs (i + 1), xs (i + 2)), ⟨rfl, h⟩, fun o g' q => q⟩) zd_8.1 (pc' := 484) (by decide) hi (by decide) hw hl (fun H locs hw => ?_)
  exact zl_m F (ks := [(1, false), (2, false)]) (Pm' := mTop (σ)) xp_X9_join zk_53 (by decide) (fun g h => ⟨(σ, xs (i + 1), xs (i + 2)), ⟨rfl, h⟩, fun o g' q => q⟩) zd_8.2 hi (by decide) hw hl (fun H locs hw => kk (σ) H locs (hb) hw)
set_option maxRecDepth 100000 in
theorem zd_9 : zl_cx 503 [(1, false)] 54 = true ∧ zl_cm 512 [(1, false)] 57 = true := by decide +kernel
set_option maxRecDepth 100000 in
theorem zc_9 {p : Program} {l : Launch} {e : Env} {s : State} {m : MethodId} {below : List Frame} {meth : Method} {c : Code} {D : va_G} {cA : Nat → ClassId} {sa : Nat → Nat} {b L i q8 q9 : Nat} {xs : Nat → Int32} (F : zF p s m meth c b L xs D cA sa) (hi : i + 6 ≤ L) : zC p l e s m below meth c b D cA sa q8 q9 i 503 := by
  intro σ H locs ls hb hw hl kk
  refine zl_x F (ks := [(1, false)]) (a := aSeat σ (xs (i + 1))) (Px' := xTop (σ)) xp_X8_seat zk_54 (by decide) (fun g h => ⟨(σ, xs (i + 1)), ⟨rfl, h⟩, fun o g' q => q⟩) zd_9.1 (pc' := 512) (by decide) hi (by decide) hw hl (fun H locs hw => ?_)
  exact zl_m F (ks := [(1, false)]) (Pm' := mTop (σ)) xp_X9_seat zk_57 (by decide) (fun g h => ⟨(σ, xs (i + 1)), ⟨rfl, h⟩, fun o g' q => q⟩) zd_9.2 hi (by decide) hw hl (fun H locs hw => kk (σ) H locs (hb) hw)
set_option maxRecDepth 100000 in
theorem zd_10 : zl_cx 526 [(1, false), (2, false)] 58 = true ∧ zl_cm 540 [(1, false), (2, false)] 61 = true := by decide +kernel
set_option maxRecDepth 100000 in
theorem zc_10 {p : Program} {l : Launch} {e : Env} {s : State} {m : MethodId} {below : List Frame} {meth : Method} {c : Code} {D : va_G} {cA : Nat → ClassId} {sa : Nat → Nat} {b L i q8 q9 : Nat} {xs : Nat → Int32} (F : zF p s m meth c b L xs D cA sa) (hi : i + 6 ≤ L) : zC p l e s m below meth c b D cA sa q8 q9 i 526 := by
  intro σ H locs ls hb hw hl kk
  refine zl_x F (ks := [(1, false), (2, false)]) (a := aShow σ (xs (i + 1)) (xs (i + 2))) (Px' := xTop (sShow σ (xs (i + 1)) (xs (i + 2)))) xp_X8_show zk_58 (by decide) (fun g h => ⟨(σ, xs (i + 1), xs (i + 2)), ⟨rfl, h⟩, fun o g' q => q⟩) zd_10.1 (pc' := 540) (by decide) hi (by decide) hw hl (fun H locs hw => ?_)
  exact zl_m F (ks := [(1, false), (2, false)]) (Pm' := mTop (sShow σ (xs (i + 1)) (xs (i + 2)))) xp_X9_show zk_61 (by decide) (fun g h => ⟨(σ, xs (i + 1), xs (i + 2)), ⟨rfl, h⟩, fun o g' q => q⟩) zd_10.2 hi (by decide) hw hl (fun H locs hw => kk (sShow σ (xs (i + 1)) (xs (i + 2))) H locs (zB_show hb _ _) hw)
set_option maxRecDepth 100000 in
theorem zd_11 : zl_cx 559 [(1, false)] 62 = true ∧ zl_cm 568 [(1, false)] 65 = true := by decide +kernel
set_option maxRecDepth 100000 in
theorem zc_11 {p : Program} {l : Launch} {e : Env} {s : State} {m : MethodId} {below : List Frame} {meth : Method} {c : Code} {D : va_G} {cA : Nat → ClassId} {sa : Nat → Nat} {b L i q8 q9 : Nat} {xs : Nat → Int32} (F : zF p s m meth c b L xs D cA sa) (hi : i + 6 ≤ L) : zC p l e s m below meth c b D cA sa q8 q9 i 559 := by
  intro σ H locs ls hb hw hl kk
  refine zl_x F (ks := [(1, false)]) (a := aWash σ (xs (i + 1))) (Px' := xTop (sWash σ (xs (i + 1)))) xp_X8_wash zk_62 (by decide) (fun g h => ⟨(σ, xs (i + 1)), ⟨rfl, h⟩, fun o g' q => q⟩) zd_11.1 (pc' := 568) (by decide) hi (by decide) hw hl (fun H locs hw => ?_)
  exact zl_m F (ks := [(1, false)]) (Pm' := mTop (sWash σ (xs (i + 1)))) xp_X9_wash zk_65 (by decide) (fun g h => ⟨(σ, xs (i + 1)), ⟨rfl, h⟩, fun o g' q => q⟩) zd_11.2 hi (by decide) hw hl (fun H locs hw => kk (sWash σ (xs (i + 1))) H locs (zB_wash hb _) hw)
set_option maxRecDepth 100000 in
theorem zd_12 : zl_cx 582 [(1, false), (2, false)] 66 = true ∧ zl_cm 596 [(1, false), (2, false)] 70 = true := by decide +kernel
set_option maxRecDepth 100000 in
theorem zc_12 {p : Program} {l : Launch} {e : Env} {s : State} {m : MethodId} {below : List Frame} {meth : Method} {c : Code} {D : va_G} {cA : Nat → ClassId} {sa : Nat → Nat} {b L i q8 q9 : Nat} {xs : Nat → Int32} (F : zF p s m meth c b L xs D cA sa) (hi : i + 6 ≤ L) : zC p l e s m below meth c b D cA sa q8 q9 i 582 := by
  intro σ H locs ls hb hw hl kk
  refine zl_x F (ks := [(1, false), (2, false)]) (a := aGo σ (xs (i + 1)) (xs (i + 2))) (Px' := xTop (sGo σ (xs (i + 1)) (xs (i + 2)))) xp_X8_go zk_66 (by decide) (fun g h => ⟨(σ, xs (i + 1), xs (i + 2)), ⟨rfl, h⟩, fun o g' q => q⟩) zd_12.1 (pc' := 596) (by decide) hi (by decide) hw hl (fun H locs hw => ?_)
  exact zl_m F (ks := [(1, false), (2, false)]) (Pm' := mTop (sGo σ (xs (i + 1)) (xs (i + 2)))) xp_X9_go zk_70 (by decide) (fun g h => ⟨(σ, xs (i + 1), xs (i + 2)), ⟨rfl, h⟩, fun o g' q => q⟩) zd_12.2 hi (by decide) hw hl (fun H locs hw => kk (sGo σ (xs (i + 1)) (xs (i + 2))) H locs (zB_go hb _ _) hw)
set_option maxRecDepth 100000 in
theorem zd_13 : zl_cx 615 [(1, false)] 71 = true ∧ zl_cm 624 [(1, false)] 74 = true := by decide +kernel
set_option maxRecDepth 100000 in
theorem zc_13 {p : Program} {l : Launch} {e : Env} {s : State} {m : MethodId} {below : List Frame} {meth : Method} {c : Code} {D : va_G} {cA : Nat → ClassId} {sa : Nat → Nat} {b L i q8 q9 : Nat} {xs : Nat → Int32} (F : zF p s m meth c b L xs D cA sa) (hi : i + 6 ≤ L) : zC p l e s m below meth c b D cA sa q8 q9 i 615 := by
  intro σ H locs ls hb hw hl kk
  refine zl_x F (ks := [(1, false)]) (a := aWeeks σ (xs (i + 1))) (Px' := xTop (sWeeks σ (xs (i + 1)))) xp_X8_weeks zk_71 (by decide) (fun g h => ⟨(σ, xs (i + 1)), ⟨rfl, h⟩, fun o g' q => q⟩) zd_13.1 (pc' := 624) (by decide) hi (by decide) hw hl (fun H locs hw => ?_)
  exact zl_m F (ks := [(1, false)]) (Pm' := mTop (sWeeks σ (xs (i + 1)))) xp_X9_weeks zk_74 (by decide) (fun g h => ⟨(σ, xs (i + 1)), ⟨rfl, h⟩, fun o g' q => q⟩) zd_13.2 hi (by decide) hw hl (fun H locs hw => kk (sWeeks σ (xs (i + 1))) H locs (zB_weeks hb _) hw)
set_option maxRecDepth 100000 in
theorem zd_14 : zl_cx 638 [] 75 = true ∧ zl_cm 642 [] 79 = true := by decide +kernel
set_option maxRecDepth 100000 in
theorem zc_14 {p : Program} {l : Launch} {e : Env} {s : State} {m : MethodId} {below : List Frame} {meth : Method} {c : Code} {D : va_G} {cA : Nat → ClassId} {sa : Nat → Nat} {b L i q8 q9 : Nat} {xs : Nat → Int32} (F : zF p s m meth c b L xs D cA sa) (hi : i + 6 ≤ L) : zC p l e s m below meth c b D cA sa q8 q9 i 638 := by
  intro σ H locs ls hb hw hl kk
  refine zl_x F (ks := []) (a := aUndo σ) (Px' := xTop (sUndo σ)) xp_X8_undo zk_75 (by decide) (fun g h => ⟨σ, ⟨rfl, h⟩, fun o g' q => q⟩) zd_14.1 (pc' := 642) (by decide) hi (by decide) hw hl (fun H locs hw => ?_)
  exact zl_m F (ks := []) (Pm' := mTop (sUndo σ)) xp_X9_undo zk_79 (by decide) (fun g h => ⟨σ, ⟨rfl, h⟩, fun o g' q => q⟩) zd_14.2 hi (by decide) hw hl (fun H locs hw => kk (sUndo σ) H locs (zB_undo hb) hw)
set_option maxRecDepth 100000 in
theorem zd_15 : zl_cx 651 [(1, false)] 80 = true ∧ zl_cm 660 [(1, false)] 83 = true := by decide +kernel
set_option maxRecDepth 100000 in
theorem zc_15 {p : Program} {l : Launch} {e : Env} {s : State} {m : MethodId} {below : List Frame} {meth : Method} {c : Code} {D : va_G} {cA : Nat → ClassId} {sa : Nat → Nat} {b L i q8 q9 : Nat} {xs : Nat → Int32} (F : zF p s m meth c b L xs D cA sa) (hi : i + 6 ≤ L) : zC p l e s m below meth c b D cA sa q8 q9 i 651 := by
  intro σ H locs ls hb hw hl kk
  refine zl_x F (ks := [(1, false)]) (a := aBestRow σ (xs (i + 1))) (Px' := xTop (σ)) xp_X8_bestRow zk_80 (by decide) (fun g h => ⟨(σ, xs (i + 1)), ⟨rfl, h⟩, fun o g' q => q⟩) zd_15.1 (pc' := 660) (by decide) hi (by decide) hw hl (fun H locs hw => ?_)
  exact zl_m F (ks := [(1, false)]) (Pm' := mTop (σ)) xp_X9_bestRow zk_83 (by decide) (fun g h => ⟨(σ, xs (i + 1)), ⟨rfl, h⟩, fun o g' q => q⟩) zd_15.2 hi (by decide) hw hl (fun H locs hw => kk (σ) H locs (hb) hw)
set_option maxRecDepth 100000 in
theorem zd_16 : zl_cx 674 [] 84 = true ∧ zl_cm 678 [] 87 = true := by decide +kernel
set_option maxRecDepth 100000 in
theorem zc_16 {p : Program} {l : Launch} {e : Env} {s : State} {m : MethodId} {below : List Frame} {meth : Method} {c : Code} {D : va_G} {cA : Nat → ClassId} {sa : Nat → Nat} {b L i q8 q9 : Nat} {xs : Nat → Int32} (F : zF p s m meth c b L xs D cA sa) (hi : i + 6 ≤ L) : zC p l e s m below meth c b D cA sa q8 q9 i 674 := by
  intro σ H locs ls hb hw hl kk
  refine zl_x F (ks := []) (a := aFullRows σ) (Px' := xTop (σ)) xp_X8_fullRows zk_84 (by decide) (fun g h => ⟨σ, ⟨rfl, h⟩, fun o g' q => q⟩) zd_16.1 (pc' := 678) (by decide) hi (by decide) hw hl (fun H locs hw => ?_)
  exact zl_m F (ks := []) (Pm' := mTop (σ)) xp_X9_fullRows zk_87 (by decide) (fun g h => ⟨σ, ⟨rfl, h⟩, fun o g' q => q⟩) zd_16.2 hi (by decide) hw hl (fun H locs hw => kk (σ) H locs (hb) hw)
set_option maxRecDepth 100000 in
theorem zd_17 : zl_cx 687 [] 88 = true ∧ zl_cm 691 [] 91 = true := by decide +kernel
set_option maxRecDepth 100000 in
theorem zc_17 {p : Program} {l : Launch} {e : Env} {s : State} {m : MethodId} {below : List Frame} {meth : Method} {c : Code} {D : va_G} {cA : Nat → ClassId} {sa : Nat → Nat} {b L i q8 q9 : Nat} {xs : Nat → Int32} (F : zF p s m meth c b L xs D cA sa) (hi : i + 6 ≤ L) : zC p l e s m below meth c b D cA sa q8 q9 i 687 := by
  intro σ H locs ls hb hw hl kk
  refine zl_x F (ks := []) (a := aRings σ) (Px' := xTop (σ)) xp_X8_rings zk_88 (by decide) (fun g h => ⟨σ, ⟨rfl, h⟩, fun o g' q => q⟩) zd_17.1 (pc' := 691) (by decide) hi (by decide) hw hl (fun H locs hw => ?_)
  exact zl_m F (ks := []) (Pm' := mTop (σ)) xp_X9_rings zk_91 (by decide) (fun g h => ⟨σ, ⟨rfl, h⟩, fun o g' q => q⟩) zd_17.2 hi (by decide) hw hl (fun H locs hw => kk (σ) H locs (hb) hw)
set_option maxRecDepth 100000 in
theorem zd_18 : zl_cx 700 [(1, false)] 92 = true ∧ zl_cm 709 [(1, false)] 95 = true := by decide +kernel
set_option maxRecDepth 100000 in
theorem zc_18 {p : Program} {l : Launch} {e : Env} {s : State} {m : MethodId} {below : List Frame} {meth : Method} {c : Code} {D : va_G} {cA : Nat → ClassId} {sa : Nat → Nat} {b L i q8 q9 : Nat} {xs : Nat → Int32} (F : zF p s m meth c b L xs D cA sa) (hi : i + 6 ≤ L) : zC p l e s m below meth c b D cA sa q8 q9 i 700 := by
  intro σ H locs ls hb hw hl kk
  refine zl_x F (ks := [(1, false)]) (a := aLongest σ (xs (i + 1))) (Px' := xTop (σ)) xp_X8_longest zk_92 (by decide) (fun g h => ⟨(σ, xs (i + 1)), ⟨rfl, h⟩, fun o g' q => q⟩) zd_18.1 (pc' := 709) (by decide) hi (by decide) hw hl (fun H locs hw => ?_)
  exact zl_m F (ks := [(1, false)]) (Pm' := mTop (σ)) xp_X9_longest zk_95 (by decide) (fun g h => ⟨(σ, xs (i + 1)), ⟨rfl, h⟩, fun o g' q => q⟩) zd_18.2 hi (by decide) hw hl (fun H locs hw => kk (σ) H locs (hb) hw)
set_option maxRecDepth 100000 in
theorem zd_19 : zl_cx 723 [(1, false), (2, false)] 96 = true ∧ zl_cm 737 [(1, false), (2, false)] 99 = true := by decide +kernel
set_option maxRecDepth 100000 in
theorem zc_19 {p : Program} {l : Launch} {e : Env} {s : State} {m : MethodId} {below : List Frame} {meth : Method} {c : Code} {D : va_G} {cA : Nat → ClassId} {sa : Nat → Nat} {b L i q8 q9 : Nat} {xs : Nat → Int32} (F : zF p s m meth c b L xs D cA sa) (hi : i + 6 ≤ L) : zC p l e s m below meth c b D cA sa q8 q9 i 723 := by
  intro σ H locs ls hb hw hl kk
  refine zl_x F (ks := [(1, false), (2, false)]) (a := aWay σ (xs (i + 1)) (xs (i + 2))) (Px' := xTop (σ)) xp_X8_way zk_96 (by decide) (fun g h => ⟨(σ, xs (i + 1), xs (i + 2)), ⟨rfl, h⟩, fun o g' q => q⟩) zd_19.1 (pc' := 737) (by decide) hi (by decide) hw hl (fun H locs hw => ?_)
  exact zl_m F (ks := [(1, false), (2, false)]) (Pm' := mTop (σ)) xp_X9_way zk_99 (by decide) (fun g h => ⟨(σ, xs (i + 1), xs (i + 2)), ⟨rfl, h⟩, fun o g' q => q⟩) zd_19.2 hi (by decide) hw hl (fun H locs hw => kk (σ) H locs (hb) hw)
set_option maxRecDepth 100000 in
theorem zd_20 : zl_cx 756 [(1, false)] 100 = true ∧ zl_cm 765 [(1, false)] 103 = true := by decide +kernel
set_option maxRecDepth 100000 in
theorem zc_20 {p : Program} {l : Launch} {e : Env} {s : State} {m : MethodId} {below : List Frame} {meth : Method} {c : Code} {D : va_G} {cA : Nat → ClassId} {sa : Nat → Nat} {b L i q8 q9 : Nat} {xs : Nat → Int32} (F : zF p s m meth c b L xs D cA sa) (hi : i + 6 ≤ L) : zC p l e s m below meth c b D cA sa q8 q9 i 756 := by
  intro σ H locs ls hb hw hl kk
  refine zl_x F (ks := [(1, false)]) (a := aMend σ (xs (i + 1))) (Px' := xTop (σ)) xp_X8_mend zk_100 (by decide) (fun g h => ⟨(σ, xs (i + 1)), ⟨rfl, h⟩, fun o g' q => q⟩) zd_20.1 (pc' := 765) (by decide) hi (by decide) hw hl (fun H locs hw => ?_)
  exact zl_m F (ks := [(1, false)]) (Pm' := mTop (σ)) xp_X9_mend zk_103 (by decide) (fun g h => ⟨(σ, xs (i + 1)), ⟨rfl, h⟩, fun o g' q => q⟩) zd_20.2 hi (by decide) hw hl (fun H locs hw => kk (σ) H locs (hb) hw)
set_option maxRecDepth 100000 in
theorem zd_21 : zl_cx 779 [(1, false)] 104 = true ∧ zl_cm 788 [(1, false)] 107 = true := by decide +kernel
set_option maxRecDepth 100000 in
theorem zc_21 {p : Program} {l : Launch} {e : Env} {s : State} {m : MethodId} {below : List Frame} {meth : Method} {c : Code} {D : va_G} {cA : Nat → ClassId} {sa : Nat → Nat} {b L i q8 q9 : Nat} {xs : Nat → Int32} (F : zF p s m meth c b L xs D cA sa) (hi : i + 6 ≤ L) : zC p l e s m below meth c b D cA sa q8 q9 i 779 := by
  intro σ H locs ls hb hw hl kk
  refine zl_x F (ks := [(1, false)]) (a := aGame σ (xs (i + 1))) (Px' := xTop (σ)) xp_X8_game zk_104 (by decide) (fun g h => ⟨(σ, xs (i + 1)), ⟨rfl, h⟩, fun o g' q => q⟩) zd_21.1 (pc' := 788) (by decide) hi (by decide) hw hl (fun H locs hw => ?_)
  exact zl_m F (ks := [(1, false)]) (Pm' := mTop (σ)) xp_X9_game zk_107 (by decide) (fun g h => ⟨(σ, xs (i + 1)), ⟨rfl, h⟩, fun o g' q => q⟩) zd_21.2 hi (by decide) hw hl (fun H locs hw => kk (σ) H locs (hb) hw)
set_option maxRecDepth 100000 in
theorem zd_22 : zl_cx 802 [(1, false), (2, false)] 108 = true ∧ zl_cm 816 [(1, false), (2, false)] 111 = true := by decide +kernel
set_option maxRecDepth 100000 in
theorem zc_22 {p : Program} {l : Launch} {e : Env} {s : State} {m : MethodId} {below : List Frame} {meth : Method} {c : Code} {D : va_G} {cA : Nat → ClassId} {sa : Nat → Nat} {b L i q8 q9 : Nat} {xs : Nat → Int32} (F : zF p s m meth c b L xs D cA sa) (hi : i + 6 ≤ L) : zC p l e s m below meth c b D cA sa q8 q9 i 802 := by
  intro σ H locs ls hb hw hl kk
  refine zl_x F (ks := [(1, false), (2, false)]) (a := aBest σ (xs (i + 1)) (xs (i + 2))) (Px' := xTop (σ)) xp_X8_best zk_108 (by decide) (fun g h => ⟨(σ, xs (i + 1), xs (i + 2)), ⟨rfl, h⟩, fun o g' q => q⟩) zd_22.1 (pc' := 816) (by decide) hi (by decide) hw hl (fun H locs hw => ?_)
  exact zl_m F (ks := [(1, false), (2, false)]) (Pm' := mTop (σ)) xp_X9_best zk_111 (by decide) (fun g h => ⟨(σ, xs (i + 1), xs (i + 2)), ⟨rfl, h⟩, fun o g' q => q⟩) zd_22.2 hi (by decide) hw hl (fun H locs hw => kk (σ) H locs (hb) hw)
set_option maxRecDepth 100000 in
theorem zd_23 : zl_cx 835 [(1, false), (2, false)] 112 = true ∧ zl_cm 849 [(1, false), (2, false)] 115 = true := by decide +kernel
set_option maxRecDepth 100000 in
theorem zc_23 {p : Program} {l : Launch} {e : Env} {s : State} {m : MethodId} {below : List Frame} {meth : Method} {c : Code} {D : va_G} {cA : Nat → ClassId} {sa : Nat → Nat} {b L i q8 q9 : Nat} {xs : Nat → Int32} (F : zF p s m meth c b L xs D cA sa) (hi : i + 6 ≤ L) : zC p l e s m below meth c b D cA sa q8 q9 i 835 := by
  intro σ H locs ls hb hw hl kk
  refine zl_x F (ks := [(1, false), (2, false)]) (a := aWhere σ (xs (i + 1)) (xs (i + 2))) (Px' := xTop (σ)) xp_X8_where zk_112 (by decide) (fun g h => ⟨(σ, xs (i + 1), xs (i + 2)), ⟨rfl, h⟩, fun o g' q => q⟩) zd_23.1 (pc' := 849) (by decide) hi (by decide) hw hl (fun H locs hw => ?_)
  exact zl_m F (ks := [(1, false), (2, false)]) (Pm' := mTop (σ)) xp_X9_where zk_115 (by decide) (fun g h => ⟨(σ, xs (i + 1), xs (i + 2)), ⟨rfl, h⟩, fun o g' q => q⟩) zd_23.2 hi (by decide) hw hl (fun H locs hw => kk (σ) H locs (hb) hw)
set_option maxRecDepth 100000 in
theorem zd_24 : zl_cx 868 [(1, false)] 116 = true ∧ zl_cm 877 [(1, false)] 119 = true := by decide +kernel
set_option maxRecDepth 100000 in
theorem zc_24 {p : Program} {l : Launch} {e : Env} {s : State} {m : MethodId} {below : List Frame} {meth : Method} {c : Code} {D : va_G} {cA : Nat → ClassId} {sa : Nat → Nat} {b L i q8 q9 : Nat} {xs : Nat → Int32} (F : zF p s m meth c b L xs D cA sa) (hi : i + 6 ≤ L) : zC p l e s m below meth c b D cA sa q8 q9 i 868 := by
  intro σ H locs ls hb hw hl kk
  refine zl_x F (ks := [(1, false)]) (a := aWorth σ (xs (i + 1))) (Px' := xTop (σ)) xp_X8_worth zk_116 (by decide) (fun g h => ⟨(σ, xs (i + 1)), ⟨rfl, h⟩, fun o g' q => q⟩) zd_24.1 (pc' := 877) (by decide) hi (by decide) hw hl (fun H locs hw => ?_)
  exact zl_m F (ks := [(1, false)]) (Pm' := mTop (σ)) xp_X9_worth zk_119 (by decide) (fun g h => ⟨(σ, xs (i + 1)), ⟨rfl, h⟩, fun o g' q => q⟩) zd_24.2 hi (by decide) hw hl (fun H locs hw => kk (σ) H locs (hb) hw)
set_option maxRecDepth 100000 in
theorem zd_25 : zl_cx 891 [(1, false)] 120 = true ∧ zl_cm 900 [(1, false)] 123 = true := by decide +kernel
set_option maxRecDepth 100000 in
theorem zc_25 {p : Program} {l : Launch} {e : Env} {s : State} {m : MethodId} {below : List Frame} {meth : Method} {c : Code} {D : va_G} {cA : Nat → ClassId} {sa : Nat → Nat} {b L i q8 q9 : Nat} {xs : Nat → Int32} (F : zF p s m meth c b L xs D cA sa) (hi : i + 6 ≤ L) : zC p l e s m below meth c b D cA sa q8 q9 i 891 := by
  intro σ H locs ls hb hw hl kk
  refine zl_x F (ks := [(1, false)]) (a := aPlainIn σ (xs (i + 1))) (Px' := xTop (σ)) xp_X8_plainIn zk_120 (by decide) (fun g h => ⟨(σ, xs (i + 1)), ⟨rfl, h⟩, fun o g' q => q⟩) zd_25.1 (pc' := 900) (by decide) hi (by decide) hw hl (fun H locs hw => ?_)
  exact zl_m F (ks := [(1, false)]) (Pm' := mTop (σ)) xp_X9_plainIn zk_123 (by decide) (fun g h => ⟨(σ, xs (i + 1)), ⟨rfl, h⟩, fun o g' q => q⟩) zd_25.2 hi (by decide) hw hl (fun H locs hw => kk (σ) H locs (hb) hw)
set_option maxRecDepth 100000 in
theorem zd_26 : zl_cx 914 [(1, false)] 124 = true ∧ zl_cm 923 [(1, false)] 127 = true := by decide +kernel
set_option maxRecDepth 100000 in
theorem zc_26 {p : Program} {l : Launch} {e : Env} {s : State} {m : MethodId} {below : List Frame} {meth : Method} {c : Code} {D : va_G} {cA : Nat → ClassId} {sa : Nat → Nat} {b L i q8 q9 : Nat} {xs : Nat → Int32} (F : zF p s m meth c b L xs D cA sa) (hi : i + 6 ≤ L) : zC p l e s m below meth c b D cA sa q8 q9 i 914 := by
  intro σ H locs ls hb hw hl kk
  refine zl_x F (ks := [(1, false)]) (a := aTurns σ (xs (i + 1))) (Px' := xTop (σ)) xp_X8_turns zk_124 (by decide) (fun g h => ⟨(σ, xs (i + 1)), ⟨rfl, h⟩, fun o g' q => q⟩) zd_26.1 (pc' := 923) (by decide) hi (by decide) hw hl (fun H locs hw => ?_)
  exact zl_m F (ks := [(1, false)]) (Pm' := mTop (σ)) xp_X9_turns zk_127 (by decide) (fun g h => ⟨(σ, xs (i + 1)), ⟨rfl, h⟩, fun o g' q => q⟩) zd_26.2 hi (by decide) hw hl (fun H locs hw => kk (σ) H locs (hb) hw)
set_option maxRecDepth 100000 in
theorem zd_27 : zl_cx 937 [(1, false)] 128 = true ∧ zl_cm 946 [(1, false)] 131 = true := by decide +kernel
set_option maxRecDepth 100000 in
theorem zc_27 {p : Program} {l : Launch} {e : Env} {s : State} {m : MethodId} {below : List Frame} {meth : Method} {c : Code} {D : va_G} {cA : Nat → ClassId} {sa : Nat → Nat} {b L i q8 q9 : Nat} {xs : Nat → Int32} (F : zF p s m meth c b L xs D cA sa) (hi : i + 6 ≤ L) : zC p l e s m below meth c b D cA sa q8 q9 i 937 := by
  intro σ H locs ls hb hw hl kk
  refine zl_x F (ks := [(1, false)]) (a := aLike σ (xs (i + 1))) (Px' := xTop (σ)) xp_X8_like zk_128 (by decide) (fun g h => ⟨(σ, xs (i + 1)), ⟨rfl, h⟩, fun o g' q => q⟩) zd_27.1 (pc' := 946) (by decide) hi (by decide) hw hl (fun H locs hw => ?_)
  exact zl_m F (ks := [(1, false)]) (Pm' := mTop (σ)) xp_X9_like zk_131 (by decide) (fun g h => ⟨(σ, xs (i + 1)), ⟨rfl, h⟩, fun o g' q => q⟩) zd_27.2 hi (by decide) hw hl (fun H locs hw => kk (σ) H locs (hb) hw)
set_option maxRecDepth 100000 in
theorem zd_28 : zl_cx 960 [] 132 = true ∧ zl_cm 964 [] 135 = true := by decide +kernel
set_option maxRecDepth 100000 in
theorem zc_28 {p : Program} {l : Launch} {e : Env} {s : State} {m : MethodId} {below : List Frame} {meth : Method} {c : Code} {D : va_G} {cA : Nat → ClassId} {sa : Nat → Nat} {b L i q8 q9 : Nat} {xs : Nat → Int32} (F : zF p s m meth c b L xs D cA sa) (hi : i + 6 ≤ L) : zC p l e s m below meth c b D cA sa q8 q9 i 960 := by
  intro σ H locs ls hb hw hl kk
  refine zl_x F (ks := []) (a := aLonely σ) (Px' := xTop (σ)) xp_X8_lonely zk_132 (by decide) (fun g h => ⟨σ, ⟨rfl, h⟩, fun o g' q => q⟩) zd_28.1 (pc' := 964) (by decide) hi (by decide) hw hl (fun H locs hw => ?_)
  exact zl_m F (ks := []) (Pm' := mTop (σ)) xp_X9_lonely zk_135 (by decide) (fun g h => ⟨σ, ⟨rfl, h⟩, fun o g' q => q⟩) zd_28.2 hi (by decide) hw hl (fun H locs hw => kk (σ) H locs (hb) hw)
set_option maxRecDepth 100000 in
theorem zd_29 : zl_cx 973 [(1, false)] 136 = true ∧ zl_cm 982 [(1, false)] 139 = true := by decide +kernel
set_option maxRecDepth 100000 in
theorem zc_29 {p : Program} {l : Launch} {e : Env} {s : State} {m : MethodId} {below : List Frame} {meth : Method} {c : Code} {D : va_G} {cA : Nat → ClassId} {sa : Nat → Nat} {b L i q8 q9 : Nat} {xs : Nat → Int32} (F : zF p s m meth c b L xs D cA sa) (hi : i + 6 ≤ L) : zC p l e s m below meth c b D cA sa q8 q9 i 973 := by
  intro σ H locs ls hb hw hl kk
  refine zl_x F (ks := [(1, false)]) (a := aBrightest σ (xs (i + 1))) (Px' := xTop (σ)) xp_X8_brightest zk_136 (by decide) (fun g h => ⟨(σ, xs (i + 1)), ⟨rfl, h⟩, fun o g' q => q⟩) zd_29.1 (pc' := 982) (by decide) hi (by decide) hw hl (fun H locs hw => ?_)
  exact zl_m F (ks := [(1, false)]) (Pm' := mTop (σ)) xp_X9_brightest zk_139 (by decide) (fun g h => ⟨(σ, xs (i + 1)), ⟨rfl, h⟩, fun o g' q => q⟩) zd_29.2 hi (by decide) hw hl (fun H locs hw => kk (σ) H locs (hb) hw)
set_option maxRecDepth 100000 in
theorem zd_30 : zl_cx 996 [] 140 = true ∧ zl_cm 1000 [] 143 = true := by decide +kernel
set_option maxRecDepth 100000 in
theorem zc_30 {p : Program} {l : Launch} {e : Env} {s : State} {m : MethodId} {below : List Frame} {meth : Method} {c : Code} {D : va_G} {cA : Nat → ClassId} {sa : Nat → Nat} {b L i q8 q9 : Nat} {xs : Nat → Int32} (F : zF p s m meth c b L xs D cA sa) (hi : i + 6 ≤ L) : zC p l e s m below meth c b D cA sa q8 q9 i 996 := by
  intro σ H locs ls hb hw hl kk
  refine zl_x F (ks := []) (a := aOpen σ) (Px' := xTop (σ)) xp_X8_open zk_140 (by decide) (fun g h => ⟨σ, ⟨rfl, h⟩, fun o g' q => q⟩) zd_30.1 (pc' := 1000) (by decide) hi (by decide) hw hl (fun H locs hw => ?_)
  exact zl_m F (ks := []) (Pm' := mTop (σ)) xp_X9_open zk_143 (by decide) (fun g h => ⟨σ, ⟨rfl, h⟩, fun o g' q => q⟩) zd_30.2 hi (by decide) hw hl (fun H locs hw => kk (σ) H locs (hb) hw)
set_option maxRecDepth 100000 in
theorem zd_31 : zl_cx 1009 [(1, false)] 144 = true ∧ zl_cm 1018 [(1, false)] 147 = true := by decide +kernel
set_option maxRecDepth 100000 in
theorem zc_31 {p : Program} {l : Launch} {e : Env} {s : State} {m : MethodId} {below : List Frame} {meth : Method} {c : Code} {D : va_G} {cA : Nat → ClassId} {sa : Nat → Nat} {b L i q8 q9 : Nat} {xs : Nat → Int32} (F : zF p s m meth c b L xs D cA sa) (hi : i + 6 ≤ L) : zC p l e s m below meth c b D cA sa q8 q9 i 1009 := by
  intro σ H locs ls hb hw hl kk
  refine zl_x F (ks := [(1, false)]) (a := aShare σ (xs (i + 1))) (Px' := xTop (σ)) xp_X8_share zk_144 (by decide) (fun g h => ⟨(σ, xs (i + 1)), ⟨rfl, h⟩, fun o g' q => q⟩) zd_31.1 (pc' := 1018) (by decide) hi (by decide) hw hl (fun H locs hw => ?_)
  exact zl_m F (ks := [(1, false)]) (Pm' := mTop (σ)) xp_X9_share zk_147 (by decide) (fun g h => ⟨(σ, xs (i + 1)), ⟨rfl, h⟩, fun o g' q => q⟩) zd_31.2 hi (by decide) hw hl (fun H locs hw => kk (σ) H locs (hb) hw)
set_option maxRecDepth 100000 in
theorem zd_32 : zl_cx 1032 [(1, false), (2, false)] 148 = true ∧ zl_cm 1046 [(1, false), (2, false)] 151 = true := by decide +kernel
set_option maxRecDepth 100000 in
theorem zc_32 {p : Program} {l : Launch} {e : Env} {s : State} {m : MethodId} {below : List Frame} {meth : Method} {c : Code} {D : va_G} {cA : Nat → ClassId} {sa : Nat → Nat} {b L i q8 q9 : Nat} {xs : Nat → Int32} (F : zF p s m meth c b L xs D cA sa) (hi : i + 6 ≤ L) : zC p l e s m below meth c b D cA sa q8 q9 i 1032 := by
  intro σ H locs ls hb hw hl kk
  refine zl_x F (ks := [(1, false), (2, false)]) (a := aThen σ (xs (i + 1)) (xs (i + 2))) (Px' := xTop (σ)) xp_X8_then zk_148 (by decide) (fun g h => ⟨(σ, xs (i + 1), xs (i + 2)), ⟨rfl, h⟩, fun o g' q => q⟩) zd_32.1 (pc' := 1046) (by decide) hi (by decide) hw hl (fun H locs hw => ?_)
  exact zl_m F (ks := [(1, false), (2, false)]) (Pm' := mTop (σ)) xp_X9_then zk_151 (by decide) (fun g h => ⟨(σ, xs (i + 1), xs (i + 2)), ⟨rfl, h⟩, fun o g' q => q⟩) zd_32.2 hi (by decide) hw hl (fun H locs hw => kk (σ) H locs (hb) hw)
set_option maxRecDepth 100000 in
theorem zd_33 : zl_cx 1065 [(1, false)] 152 = true ∧ zl_cm 1074 [(1, false)] 155 = true := by decide +kernel
set_option maxRecDepth 100000 in
theorem zc_33 {p : Program} {l : Launch} {e : Env} {s : State} {m : MethodId} {below : List Frame} {meth : Method} {c : Code} {D : va_G} {cA : Nat → ClassId} {sa : Nat → Nat} {b L i q8 q9 : Nat} {xs : Nat → Int32} (F : zF p s m meth c b L xs D cA sa) (hi : i + 6 ≤ L) : zC p l e s m below meth c b D cA sa q8 q9 i 1065 := by
  intro σ H locs ls hb hw hl kk
  refine zl_x F (ks := [(1, false)]) (a := aPaidIn σ (xs (i + 1))) (Px' := xTop (σ)) xp_X8_paidIn zk_152 (by decide) (fun g h => ⟨(σ, xs (i + 1)), ⟨rfl, h⟩, fun o g' q => q⟩) zd_33.1 (pc' := 1074) (by decide) hi (by decide) hw hl (fun H locs hw => ?_)
  exact zl_m F (ks := [(1, false)]) (Pm' := mTop (σ)) xp_X9_paidIn zk_155 (by decide) (fun g h => ⟨(σ, xs (i + 1)), ⟨rfl, h⟩, fun o g' q => q⟩) zd_33.2 hi (by decide) hw hl (fun H locs hw => kk (σ) H locs (hb) hw)
set_option maxRecDepth 100000 in
theorem zd_34 : zl_cx 1088 [(1, false), (2, false), (3, false)] 156 = true ∧ zl_cm 1107 [(1, false), (2, false), (3, false)] 159 = true := by decide +kernel
set_option maxRecDepth 100000 in
theorem zc_34 {p : Program} {l : Launch} {e : Env} {s : State} {m : MethodId} {below : List Frame} {meth : Method} {c : Code} {D : va_G} {cA : Nat → ClassId} {sa : Nat → Nat} {b L i q8 q9 : Nat} {xs : Nat → Int32} (F : zF p s m meth c b L xs D cA sa) (hi : i + 6 ≤ L) : zC p l e s m below meth c b D cA sa q8 q9 i 1088 := by
  intro σ H locs ls hb hw hl kk
  refine zl_x F (ks := [(1, false), (2, false), (3, false)]) (a := aYear σ (xs (i + 1)) (xs (i + 2)) (xs (i + 3))) (Px' := xTop (σ)) xp_X8_year zk_156 (by decide) (fun g h => ⟨(σ, xs (i + 1), xs (i + 2), xs (i + 3)), ⟨rfl, h⟩, fun o g' q => q⟩) zd_34.1 (pc' := 1107) (by decide) hi (by decide) hw hl (fun H locs hw => ?_)
  exact zl_m F (ks := [(1, false), (2, false), (3, false)]) (Pm' := mTop (σ)) xp_X9_year zk_159 (by decide) (fun g h => ⟨(σ, xs (i + 1), xs (i + 2), xs (i + 3)), ⟨rfl, h⟩, fun o g' q => q⟩) zd_34.2 hi (by decide) hw hl (fun H locs hw => kk (σ) H locs (hb) hw)
set_option maxRecDepth 100000 in
theorem zd_35 : zl_cx 1131 [(1, false), (2, false), (3, true)] 160 = true ∧ zl_cm 1158 [(1, false), (2, false), (3, true)] 164 = true := by decide +kernel
set_option maxRecDepth 100000 in
theorem zc_35 {p : Program} {l : Launch} {e : Env} {s : State} {m : MethodId} {below : List Frame} {meth : Method} {c : Code} {D : va_G} {cA : Nat → ClassId} {sa : Nat → Nat} {b L i q8 q9 : Nat} {xs : Nat → Int32} (F : zF p s m meth c b L xs D cA sa) (hi : i + 6 ≤ L) : zC p l e s m below meth c b D cA sa q8 q9 i 1131 := by
  intro σ H locs ls hb hw hl kk
  refine zl_x F (ks := [(1, false), (2, false), (3, true)]) (a := aTell σ (xs (i + 1)) (xs (i + 2))) (Px' := xTop (sTell σ (xs (i + 1)) (xs (i + 2)) (!decide (xs (i + 3) = 0)))) xp_X8_tell zk_160 (by decide) (fun g h => ⟨(σ, xs (i + 1), xs (i + 2), !decide (xs (i + 3) = 0)), ⟨congrArg (fun z => Value.ref 0 :: z) (zt_tell xs i), h⟩, fun o g' q => q⟩) zd_35.1 (pc' := 1158) (by decide) hi (by decide) hw hl (fun H locs hw => ?_)
  exact zl_m F (ks := [(1, false), (2, false), (3, true)]) (Pm' := mTop (sTell σ (xs (i + 1)) (xs (i + 2)) (!decide (xs (i + 3) = 0)))) xp_X9_tell zk_164 (by decide) (fun g h => ⟨(σ, xs (i + 1), xs (i + 2), !decide (xs (i + 3) = 0)), ⟨congrArg (fun z => Value.ref 0 :: z) (zt_tell xs i), h⟩, fun o g' q => q⟩) zd_35.2 hi (by decide) hw hl (fun H locs hw => kk (sTell σ (xs (i + 1)) (xs (i + 2)) (!decide (xs (i + 3) = 0))) H locs (zB_tell hb _ _ _) hw)
set_option maxRecDepth 100000 in
theorem zd_36 : zl_cx 1190 [] 165 = true ∧ zl_cm 1194 [] 168 = true := by decide +kernel
set_option maxRecDepth 100000 in
theorem zc_36 {p : Program} {l : Launch} {e : Env} {s : State} {m : MethodId} {below : List Frame} {meth : Method} {c : Code} {D : va_G} {cA : Nat → ClassId} {sa : Nat → Nat} {b L i q8 q9 : Nat} {xs : Nat → Int32} (F : zF p s m meth c b L xs D cA sa) (hi : i + 6 ≤ L) : zC p l e s m below meth c b D cA sa q8 q9 i 1190 := by
  intro σ H locs ls hb hw hl kk
  refine zl_x F (ks := []) (a := aForget σ) (Px' := xTop (sForget σ)) xp_X8_forget zk_165 (by decide) (fun g h => ⟨σ, ⟨rfl, h⟩, fun o g' q => q⟩) zd_36.1 (pc' := 1194) (by decide) hi (by decide) hw hl (fun H locs hw => ?_)
  exact zl_m F (ks := []) (Pm' := mTop (sForget σ)) xp_X9_forget zk_168 (by decide) (fun g h => ⟨σ, ⟨rfl, h⟩, fun o g' q => q⟩) zd_36.2 hi (by decide) hw hl (fun H locs hw => kk (sForget σ) H locs (zB_forget hb) hw)
set_option maxRecDepth 100000 in
theorem zd_37 : zl_cx 1203 [(1, false), (2, false)] 169 = true ∧ zl_cm 1217 [(1, false), (2, false)] 172 = true := by decide +kernel
set_option maxRecDepth 100000 in
theorem zc_37 {p : Program} {l : Launch} {e : Env} {s : State} {m : MethodId} {below : List Frame} {meth : Method} {c : Code} {D : va_G} {cA : Nat → ClassId} {sa : Nat → Nat} {b L i q8 q9 : Nat} {xs : Nat → Int32} (F : zF p s m meth c b L xs D cA sa) (hi : i + 6 ≤ L) : zC p l e s m below meth c b D cA sa q8 q9 i 1203 := by
  intro σ H locs ls hb hw hl kk
  refine zl_x F (ks := [(1, false), (2, false)]) (a := aWhich σ (xs (i + 1)) (xs (i + 2))) (Px' := xTop (σ)) xp_X8_which zk_169 (by decide) (fun g h => ⟨(σ, xs (i + 1), xs (i + 2)), ⟨rfl, h⟩, fun o g' q => q⟩) zd_37.1 (pc' := 1217) (by decide) hi (by decide) hw hl (fun H locs hw => ?_)
  exact zl_m F (ks := [(1, false), (2, false)]) (Pm' := mTop (σ)) xp_X9_which zk_172 (by decide) (fun g h => ⟨(σ, xs (i + 1), xs (i + 2)), ⟨rfl, h⟩, fun o g' q => q⟩) zd_37.2 hi (by decide) hw hl (fun H locs hw => kk (σ) H locs (hb) hw)
set_option maxRecDepth 100000 in
theorem zd_38 : zl_cx 1236 [(1, false), (2, false)] 173 = true ∧ zl_cm 1250 [(1, false), (2, false)] 176 = true := by decide +kernel
set_option maxRecDepth 100000 in
theorem zc_38 {p : Program} {l : Launch} {e : Env} {s : State} {m : MethodId} {below : List Frame} {meth : Method} {c : Code} {D : va_G} {cA : Nat → ClassId} {sa : Nat → Nat} {b L i q8 q9 : Nat} {xs : Nat → Int32} (F : zF p s m meth c b L xs D cA sa) (hi : i + 6 ≤ L) : zC p l e s m below meth c b D cA sa q8 q9 i 1236 := by
  intro σ H locs ls hb hw hl kk
  refine zl_x F (ks := [(1, false), (2, false)]) (a := aLook σ (xs (i + 1)) (xs (i + 2))) (Px' := xTop (σ)) xp_X8_look zk_173 (by decide) (fun g h => ⟨(σ, xs (i + 1), xs (i + 2)), ⟨rfl, h⟩, fun o g' q => q⟩) zd_38.1 (pc' := 1250) (by decide) hi (by decide) hw hl (fun H locs hw => ?_)
  exact zl_m F (ks := [(1, false), (2, false)]) (Pm' := mTop (σ)) xp_X9_look zk_176 (by decide) (fun g h => ⟨(σ, xs (i + 1), xs (i + 2)), ⟨rfl, h⟩, fun o g' q => q⟩) zd_38.2 hi (by decide) hw hl (fun H locs hw => kk (σ) H locs (hb) hw)
set_option maxRecDepth 100000 in
theorem zd_39 : zl_cx 1269 [(1, false)] 177 = true ∧ zl_cm 1278 [(1, false)] 181 = true := by decide +kernel
set_option maxRecDepth 100000 in
theorem zc_39 {p : Program} {l : Launch} {e : Env} {s : State} {m : MethodId} {below : List Frame} {meth : Method} {c : Code} {D : va_G} {cA : Nat → ClassId} {sa : Nat → Nat} {b L i q8 q9 : Nat} {xs : Nat → Int32} (F : zF p s m meth c b L xs D cA sa) (hi : i + 6 ≤ L) : zC p l e s m below meth c b D cA sa q8 q9 i 1269 := by
  intro σ H locs ls hb hw hl kk
  refine zl_x F (ks := [(1, false)]) (a := aHold (xs (i + 1))) (Px' := xTop (sHold σ (xs (i + 1)))) xp_X8_hold zk_177 (by decide) (fun g h => ⟨(σ, xs (i + 1)), ⟨rfl, h⟩, fun o g' q => q⟩) zd_39.1 (pc' := 1278) (by decide) hi (by decide) hw hl (fun H locs hw => ?_)
  exact zl_m F (ks := [(1, false)]) (Pm' := mTop (sHold σ (xs (i + 1)))) xp_X9_hold zk_181 (by decide) (fun g h => ⟨(σ, xs (i + 1)), ⟨rfl, h⟩, fun o g' q => q⟩) zd_39.2 hi (by decide) hw hl (fun H locs hw => kk (sHold σ (xs (i + 1))) H locs (zB_hold hb _) hw)
set_option maxRecDepth 100000 in
theorem zd_40 : zl_cx 1292 [(1, false)] 182 = true ∧ zl_cm 1301 [(1, false)] 185 = true := by decide +kernel
set_option maxRecDepth 100000 in
theorem zc_40 {p : Program} {l : Launch} {e : Env} {s : State} {m : MethodId} {below : List Frame} {meth : Method} {c : Code} {D : va_G} {cA : Nat → ClassId} {sa : Nat → Nat} {b L i q8 q9 : Nat} {xs : Nat → Int32} (F : zF p s m meth c b L xs D cA sa) (hi : i + 6 ≤ L) : zC p l e s m below meth c b D cA sa q8 q9 i 1292 := by
  intro σ H locs ls hb hw hl kk
  refine zl_x F (ks := [(1, false)]) (a := aRestore σ (xs (i + 1))) (Px' := xTop (sRestore σ (xs (i + 1)))) xp_X8_restore zk_182 (by decide) (fun g h => ⟨(σ, xs (i + 1)), ⟨rfl, h⟩, fun o g' q => q⟩) zd_40.1 (pc' := 1301) (by decide) hi (by decide) hw hl (fun H locs hw => ?_)
  exact zl_m F (ks := [(1, false)]) (Pm' := mTop (sRestore σ (xs (i + 1)))) xp_X9_restore zk_185 (by decide) (fun g h => ⟨(σ, xs (i + 1)), ⟨rfl, h⟩, fun o g' q => q⟩) zd_40.2 hi (by decide) hw hl (fun H locs hw => kk (sRestore σ (xs (i + 1))) H locs (zB_restore hb _) hw)
set_option maxRecDepth 100000 in
theorem zd_41 : zl_cx 1315 [(1, false)] 186 = true ∧ zl_cm 1324 [(1, false)] 189 = true := by decide +kernel
set_option maxRecDepth 100000 in
theorem zc_41 {p : Program} {l : Launch} {e : Env} {s : State} {m : MethodId} {below : List Frame} {meth : Method} {c : Code} {D : va_G} {cA : Nat → ClassId} {sa : Nat → Nat} {b L i q8 q9 : Nat} {xs : Nat → Int32} (F : zF p s m meth c b L xs D cA sa) (hi : i + 6 ≤ L) : zC p l e s m below meth c b D cA sa q8 q9 i 1315 := by
  intro σ H locs ls hb hw hl kk
  refine zl_x F (ks := [(1, false)]) (a := aCount σ (xs (i + 1))) (Px' := xTop (σ)) xp_X8_count zk_186 (by decide) (fun g h => ⟨(σ, xs (i + 1)), ⟨rfl, h⟩, fun o g' q => q⟩) zd_41.1 (pc' := 1324) (by decide) hi (by decide) hw hl (fun H locs hw => ?_)
  exact zl_m F (ks := [(1, false)]) (Pm' := mTop (σ)) xp_X9_count zk_189 (by decide) (fun g h => ⟨(σ, xs (i + 1)), ⟨rfl, h⟩, fun o g' q => q⟩) zd_41.2 hi (by decide) hw hl (fun H locs hw => kk (σ) H locs (hb) hw)
def zl_ps : List Nat := [216, 279, 302, 315, 328, 361, 394, 427, 470, 503, 526, 559, 582, 615, 638, 651, 674, 687, 700, 723, 756, 779, 802, 835, 868, 891, 914, 937, 960, 973, 996, 1009, 1032, 1065, 1088, 1131, 1190, 1203, 1236, 1269, 1292, 1315]
theorem zl_all {p : Program} {l : Launch} {e : Env} {s : State} {m : MethodId} {below : List Frame} {meth : Method} {c : Code} {D : va_G} {cA : Nat → ClassId} {sa : Nat → Nat} {b L i q8 q9 : Nat} {xs : Nat → Int32} (F : zF p s m meth c b L xs D cA sa) (hi : i + 6 ≤ L) : ∀ j, j < 42 → zC p l e s m below meth c b D cA sa q8 q9 i (zl_ps.getD j 0)
  | 0, _ => zc_0 F hi
  | 1, _ => zc_1 F hi
  | 2, _ => zc_2 F hi
  | 3, _ => zc_3 F hi
  | 4, _ => zc_4 F hi
  | 5, _ => zc_5 F hi
  | 6, _ => zc_6 F hi
  | 7, _ => zc_7 F hi
  | 8, _ => zc_8 F hi
  | 9, _ => zc_9 F hi
  | 10, _ => zc_10 F hi
  | 11, _ => zc_11 F hi
  | 12, _ => zc_12 F hi
  | 13, _ => zc_13 F hi
  | 14, _ => zc_14 F hi
  | 15, _ => zc_15 F hi
  | 16, _ => zc_16 F hi
  | 17, _ => zc_17 F hi
  | 18, _ => zc_18 F hi
  | 19, _ => zc_19 F hi
  | 20, _ => zc_20 F hi
  | 21, _ => zc_21 F hi
  | 22, _ => zc_22 F hi
  | 23, _ => zc_23 F hi
  | 24, _ => zc_24 F hi
  | 25, _ => zc_25 F hi
  | 26, _ => zc_26 F hi
  | 27, _ => zc_27 F hi
  | 28, _ => zc_28 F hi
  | 29, _ => zc_29 F hi
  | 30, _ => zc_30 F hi
  | 31, _ => zc_31 F hi
  | 32, _ => zc_32 F hi
  | 33, _ => zc_33 F hi
  | 34, _ => zc_34 F hi
  | 35, _ => zc_35 F hi
  | 36, _ => zc_36 F hi
  | 37, _ => zc_37 F hi
  | 38, _ => zc_38 F hi
  | 39, _ => zc_39 F hi
  | 40, _ => zc_40 F hi
  | 41, _ => zc_41 F hi
  | n + 42, h => absurd h (by omega)
