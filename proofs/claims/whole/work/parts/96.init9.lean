-- MAKING: the reference, behind its arrays
def xc_X9_init2 : List xE := [
  (false, 364, 1, .aload_n 0, 0, 0, 0, []),
  (false, 365, 1, .iconst 0, 0, 0, 0, []),
  (false, 366, 3, .invokevirtual 149, 0, 0, 0, []),
  (false, 369, 1, .aload_n 0, 0, 0, 0, []),
  (false, 370, 1, .iconst 1, 0, 0, 1, []),
  (false, 371, 3, .invokevirtual 149, 0, 0, 0, []),
  (false, 374, 1, .aload_n 0, 0, 0, 0, []),
  (false, 375, 3, .getfield 34, 9, 9, 0, []),
  (false, 378, 1, .iconst 0, 0, 0, 0, []),
  (false, 379, 2, .bipush 115, 0, 0, 115, []),
  (false, 381, 2, .bipush 108, 0, 0, 108, []),
  (false, 383, 2, .bipush 105, 0, 0, 105, []),
  (false, 385, 2, .bipush 100, 0, 0, 100, []),
  (false, 387, 2, .bipush 101, 0, 0, 101, []),
  (false, 389, 1, .iconst 0, 0, 0, 0, []),
  (false, 390, 1, .iconst 0, 0, 0, 0, []),
  (false, 391, 3, .invokestatic 153, 1, 0, 0, []),
  (false, 394, 1, .lastore, 0, 0, 0, []),
  (false, 395, 1, .aload_n 0, 0, 0, 0, []),
  (false, 396, 3, .getfield 34, 9, 9, 0, []),
  (false, 399, 1, .iconst 1, 0, 0, 1, []),
  (false, 400, 2, .bipush 112, 0, 0, 112, []),
  (false, 402, 2, .bipush 101, 0, 0, 101, []),
  (false, 404, 2, .bipush 114, 0, 0, 114, []),
  (false, 406, 2, .bipush 115, 0, 0, 115, []),
  (false, 408, 2, .bipush 111, 0, 0, 111, []),
  (false, 410, 2, .bipush 110, 0, 0, 110, []),
  (false, 412, 1, .iconst 0, 0, 0, 0, []),
  (false, 413, 3, .invokestatic 153, 1, 0, 0, []),
  (false, 416, 1, .lastore, 0, 0, 0, []),
  (false, 417, 1, .aload_n 0, 0, 0, 0, []),
  (false, 418, 3, .getfield 34, 9, 9, 0, []),
  (false, 421, 1, .iconst 2, 0, 0, 2, []),
  (false, 422, 2, .bipush 115, 0, 0, 115, []),
  (false, 424, 2, .bipush 104, 0, 0, 104, []),
  (false, 426, 2, .bipush 111, 0, 0, 111, []),
  (false, 428, 2, .bipush 119, 0, 0, 119, []),
  (false, 430, 2, .bipush 110, 0, 0, 110, []),
  (false, 432, 1, .iconst 0, 0, 0, 0, []),
  (false, 433, 1, .iconst 0, 0, 0, 0, []),
  (false, 434, 3, .invokestatic 153, 1, 0, 0, []),
  (false, 437, 1, .lastore, 0, 0, 0, []),
  (false, 438, 1, .aload_n 0, 0, 0, 0, []),
  (false, 439, 3, .getfield 34, 9, 9, 0, []),
  (false, 442, 1, .iconst 3, 0, 0, 3, []),
  (false, 443, 2, .bipush 116, 0, 0, 116, []),
  (false, 445, 2, .bipush 97, 0, 0, 97, []),
  (false, 447, 2, .bipush 107, 0, 0, 107, []),
  (false, 449, 2, .bipush 101, 0, 0, 101, []),
  (false, 451, 2, .bipush 115, 0, 0, 115, []),
  (false, 453, 1, .iconst 0, 0, 0, 0, []),
  (false, 454, 1, .iconst 0, 0, 0, 0, []),
  (false, 455, 3, .invokestatic 153, 1, 0, 0, []),
  (false, 458, 1, .lastore, 0, 0, 0, []),
  (false, 459, 1, .aload_n 0, 0, 0, 0, []),
  (false, 460, 3, .getfield 34, 9, 9, 0, []),
  (false, 463, 1, .iconst 4, 0, 0, 4, []),
  (false, 464, 2, .bipush 102, 0, 0, 102, []),
  (false, 466, 2, .bipush 97, 0, 0, 97, []),
  (false, 468, 2, .bipush 100, 0, 0, 100, []),
  (false, 470, 2, .bipush 101, 0, 0, 101, []),
  (false, 472, 2, .bipush 115, 0, 0, 115, []),
  (false, 474, 1, .iconst 0, 0, 0, 0, []),
  (false, 475, 1, .iconst 0, 0, 0, 0, []),
  (false, 476, 3, .invokestatic 153, 1, 0, 0, []),
  (false, 479, 1, .lastore, 0, 0, 0, []),
  (false, 480, 1, .aload_n 0, 0, 0, 0, []),
  (false, 481, 3, .getfield 34, 9, 9, 0, []),
  (false, 484, 1, .iconst 5, 0, 0, 5, []),
  (false, 485, 2, .bipush 112, 0, 0, 112, []),
  (false, 487, 2, .bipush 97, 0, 0, 97, []),
  (false, 489, 2, .bipush 121, 0, 0, 121, []),
  (false, 491, 2, .bipush 115, 0, 0, 115, []),
  (false, 493, 1, .iconst 0, 0, 0, 0, []),
  (false, 494, 1, .iconst 0, 0, 0, 0, []),
  (false, 495, 1, .iconst 0, 0, 0, 0, []),
  (false, 496, 3, .invokestatic 153, 1, 0, 0, []),
  (false, 499, 1, .lastore, 0, 0, 0, []),
  (false, 500, 1, .aload_n 0, 0, 0, 0, []),
  (false, 501, 3, .getfield 34, 9, 9, 0, []),
  (false, 504, 2, .bipush 6, 0, 0, 6, []),
  (false, 506, 2, .bipush 119, 0, 0, 119, []),
  (false, 508, 2, .bipush 97, 0, 0, 97, []),
  (false, 510, 2, .bipush 115, 0, 0, 115, []),
  (false, 512, 2, .bipush 104, 0, 0, 104, []),
  (false, 514, 2, .bipush 101, 0, 0, 101, []),
  (false, 516, 2, .bipush 115, 0, 0, 115, []),
  (false, 518, 1, .iconst 0, 0, 0, 0, []),
  (false, 519, 3, .invokestatic 153, 1, 0, 0, []),
  (false, 522, 1, .lastore, 0, 0, 0, []),
  (false, 523, 1, .aload_n 0, 0, 0, 0, []),
  (false, 524, 3, .getfield 34, 9, 9, 0, []),
  (false, 527, 2, .bipush 7, 0, 0, 7, []),
  (false, 529, 2, .bipush 115, 0, 0, 115, []),
  (false, 531, 2, .bipush 101, 0, 0, 101, []),
  (false, 533, 2, .bipush 101, 0, 0, 101, []),
  (false, 535, 2, .bipush 100, 0, 0, 100, []),
  (false, 537, 1, .iconst 0, 0, 0, 0, []),
  (false, 538, 1, .iconst 0, 0, 0, 0, []),
  (false, 539, 1, .iconst 0, 0, 0, 0, []),
  (false, 540, 3, .invokestatic 153, 1, 0, 0, []),
  (false, 543, 1, .lastore, 0, 0, 0, []),
  (false, 544, 1, .aload_n 0, 0, 0, 0, []),
  (false, 545, 3, .getfield 34, 9, 9, 0, []),
  (false, 548, 2, .bipush 8, 0, 0, 8, []),
  (false, 550, 2, .bipush 105, 0, 0, 105, []),
  (false, 552, 2, .bipush 102, 0, 0, 102, []),
  (false, 554, 1, .iconst 0, 0, 0, 0, []),
  (false, 555, 1, .iconst 0, 0, 0, 0, []),
  (false, 556, 1, .iconst 0, 0, 0, 0, []),
  (false, 557, 1, .iconst 0, 0, 0, 0, []),
  (false, 558, 1, .iconst 0, 0, 0, 0, []),
  (false, 559, 3, .invokestatic 153, 1, 0, 0, []),
  (false, 562, 1, .lastore, 0, 0, 0, []),
  (false, 563, 1, .aload_n 0, 0, 0, 0, []),
  (false, 564, 3, .getfield 34, 9, 9, 0, []),
  (false, 567, 2, .bipush 9, 0, 0, 9, []),
  (false, 569, 2, .bipush 116, 0, 0, 116, []),
  (false, 571, 2, .bipush 104, 0, 0, 104, []),
  (false, 573, 2, .bipush 101, 0, 0, 101, []),
  (false, 575, 2, .bipush 110, 0, 0, 110, []),
  (false, 577, 1, .iconst 0, 0, 0, 0, []),
  (false, 578, 1, .iconst 0, 0, 0, 0, []),
  (false, 579, 1, .iconst 0, 0, 0, 0, []),
  (false, 580, 3, .invokestatic 153, 1, 0, 0, []),
  (false, 583, 1, .lastore, 0, 0, 0, []),
  (false, 584, 1, .aload_n 0, 0, 0, 0, []),
  (false, 585, 3, .getfield 34, 9, 9, 0, []),
  (false, 588, 2, .bipush 10, 0, 0, 10, []),
  (false, 590, 2, .bipush 101, 0, 0, 101, []),
  (false, 592, 2, .bipush 108, 0, 0, 108, []),
  (false, 594, 2, .bipush 115, 0, 0, 115, []),
  (false, 596, 2, .bipush 101, 0, 0, 101, []),
  (false, 598, 1, .iconst 0, 0, 0, 0, []),
  (false, 599, 1, .iconst 0, 0, 0, 0, []),
  (false, 600, 1, .iconst 0, 0, 0, 0, []),
  (false, 601, 3, .invokestatic 153, 1, 0, 0, []),
  (false, 604, 1, .lastore, 0, 0, 0, []),
  (false, 605, 1, .aload_n 0, 0, 0, 0, []),
  (false, 606, 3, .getfield 34, 9, 9, 0, []),
  (false, 609, 2, .bipush 11, 0, 0, 11, []),
  (false, 611, 2, .bipush 103, 0, 0, 103, []),
  (false, 613, 2, .bipush 108, 0, 0, 108, []),
  (false, 615, 2, .bipush 111, 0, 0, 111, []),
  (false, 617, 2, .bipush 119, 0, 0, 119, []),
  (false, 619, 1, .iconst 0, 0, 0, 0, []),
  (false, 620, 1, .iconst 0, 0, 0, 0, []),
  (false, 621, 1, .iconst 0, 0, 0, 0, []),
  (false, 622, 3, .invokestatic 153, 1, 0, 0, []),
  (false, 625, 1, .lastore, 0, 0, 0, []),
  (false, 626, 1, .aload_n 0, 0, 0, 0, []),
  (false, 627, 3, .getfield 34, 9, 9, 0, []),
  (false, 630, 2, .bipush 12, 0, 0, 12, []),
  (false, 632, 2, .bipush 119, 0, 0, 119, []),
  (false, 634, 2, .bipush 97, 0, 0, 97, []),
  (false, 636, 2, .bipush 114, 0, 0, 114, []),
  (false, 638, 2, .bipush 109, 0, 0, 109, []),
  (false, 640, 1, .iconst 0, 0, 0, 0, []),
  (false, 641, 1, .iconst 0, 0, 0, 0, []),
  (false, 642, 1, .iconst 0, 0, 0, 0, []),
  (false, 643, 3, .invokestatic 153, 1, 0, 0, []),
  (false, 646, 1, .lastore, 0, 0, 0, []),
  (false, 647, 1, .aload_n 0, 0, 0, 0, []),
  (false, 648, 3, .getfield 34, 9, 9, 0, []),
  (false, 651, 2, .bipush 13, 0, 0, 13, []),
  (false, 653, 2, .bipush 98, 0, 0, 98, []),
  (false, 655, 2, .bipush 114, 0, 0, 114, []),
  (false, 657, 2, .bipush 105, 0, 0, 105, []),
  (false, 659, 2, .bipush 103, 0, 0, 103, []),
  (false, 661, 2, .bipush 104, 0, 0, 104, []),
  (false, 663, 2, .bipush 116, 0, 0, 116, []),
  (false, 665, 1, .iconst 0, 0, 0, 0, []),
  (false, 666, 3, .invokestatic 153, 1, 0, 0, []),
  (false, 669, 1, .lastore, 0, 0, 0, []),
  (false, 670, 1, .aload_n 0, 0, 0, 0, []),
  (false, 671, 3, .getfield 34, 9, 9, 0, []),
  (false, 674, 2, .bipush 14, 0, 0, 14, []),
  (false, 676, 2, .bipush 119, 0, 0, 119, []),
  (false, 678, 2, .bipush 101, 0, 0, 101, []),
  (false, 680, 2, .bipush 101, 0, 0, 101, []),
  (false, 682, 2, .bipush 107, 0, 0, 107, []),
  (false, 684, 1, .iconst 0, 0, 0, 0, []),
  (false, 685, 1, .iconst 0, 0, 0, 0, []),
  (false, 686, 1, .iconst 0, 0, 0, 0, []),
  (false, 687, 3, .invokestatic 153, 1, 0, 0, []),
  (false, 690, 1, .lastore, 0, 0, 0, []),
  (false, 691, 1, .aload_n 0, 0, 0, 0, []),
  (false, 692, 3, .getfield 34, 9, 9, 0, []),
  (false, 695, 2, .bipush 15, 0, 0, 15, []),
  (false, 697, 2, .bipush 115, 0, 0, 115, []),
  (false, 699, 2, .bipush 101, 0, 0, 101, []),
  (false, 701, 2, .bipush 97, 0, 0, 97, []),
  (false, 703, 2, .bipush 116, 0, 0, 116, []),
  (false, 705, 1, .iconst 0, 0, 0, 0, []),
  (false, 706, 1, .iconst 0, 0, 0, 0, []),
  (false, 707, 1, .iconst 0, 0, 0, 0, []),
  (false, 708, 3, .invokestatic 153, 1, 0, 0, []),
  (false, 711, 1, .lastore, 0, 0, 0, []),
  (false, 712, 1, .aload_n 0, 0, 0, 0, []),
  (false, 713, 3, .getfield 34, 9, 9, 0, []),
  (false, 716, 2, .bipush 16, 0, 0, 16, []),
  (false, 718, 2, .bipush 106, 0, 0, 106, []),
  (false, 720, 2, .bipush 111, 0, 0, 111, []),
  (false, 722, 2, .bipush 105, 0, 0, 105, []),
  (false, 724, 2, .bipush 110, 0, 0, 110, []),
  (false, 726, 2, .bipush 115, 0, 0, 115, []),
  (false, 728, 1, .iconst 0, 0, 0, 0, []),
  (false, 729, 1, .iconst 0, 0, 0, 0, []),
  (false, 730, 3, .invokestatic 153, 1, 0, 0, []),
  (false, 733, 1, .lastore, 0, 0, 0, []),
  (false, 734, 1, .aload_n 0, 0, 0, 0, []),
  (false, 735, 3, .getfield 34, 9, 9, 0, []),
  (false, 738, 2, .bipush 17, 0, 0, 17, []),
  (false, 740, 2, .bipush 119, 0, 0, 119, []),
  (false, 742, 2, .bipush 104, 0, 0, 104, []),
  (false, 744, 2, .bipush 105, 0, 0, 105, []),
  (false, 746, 2, .bipush 99, 0, 0, 99, []),
  (false, 748, 2, .bipush 104, 0, 0, 104, []),
  (false, 750, 1, .iconst 0, 0, 0, 0, []),
  (false, 751, 1, .iconst 0, 0, 0, 0, []),
  (false, 752, 3, .invokestatic 153, 1, 0, 0, []),
  (false, 755, 1, .lastore, 0, 0, 0, []),
  (false, 756, 1, .aload_n 0, 0, 0, 0, []),
  (false, 757, 3, .getfield 34, 9, 9, 0, []),
  (false, 760, 2, .bipush 18, 0, 0, 18, []),
  (false, 762, 2, .bipush 111, 0, 0, 111, []),
  (false, 764, 2, .bipush 116, 0, 0, 116, []),
  (false, 766, 2, .bipush 104, 0, 0, 104, []),
  (false, 768, 2, .bipush 101, 0, 0, 101, []),
  (false, 770, 2, .bipush 114, 0, 0, 114, []),
  (false, 772, 2, .bipush 115, 0, 0, 115, []),
  (false, 774, 1, .iconst 0, 0, 0, 0, []),
  (false, 775, 3, .invokestatic 153, 1, 0, 0, []),
  (false, 778, 1, .lastore, 0, 0, 0, []),
  (false, 779, 1, .aload_n 0, 0, 0, 0, []),
  (false, 780, 3, .getfield 34, 9, 9, 0, []),
  (false, 783, 2, .bipush 19, 0, 0, 19, []),
  (false, 785, 2, .bipush 115, 0, 0, 115, []),
  (false, 787, 2, .bipush 108, 0, 0, 108, []),
  (false, 789, 2, .bipush 105, 0, 0, 105, []),
  (false, 791, 2, .bipush 100, 0, 0, 100, []),
  (false, 793, 2, .bipush 101, 0, 0, 101, []),
  (false, 795, 2, .bipush 115, 0, 0, 115, []),
  (false, 797, 1, .iconst 0, 0, 0, 0, []),
  (false, 798, 3, .invokestatic 153, 1, 0, 0, []),
  (false, 801, 1, .lastore, 0, 0, 0, []),
  (false, 802, 1, .aload_n 0, 0, 0, 0, []),
  (false, 803, 3, .invokevirtual 157, 2, 0, 0, []),
  (false, 806, 1, .aload_n 0, 0, 0, 0, []),
  (false, 807, 3, .invokevirtual 160, 3, 0, 0, []),
  (false, 810, 1, .return_, 0, 0, 0, [])]
def xk_X9_init2 : List xK := [(149, 0, 2, 9), (153, 1, 7, 0), (157, 0, 1, 9), (160, 0, 1, 9)]
set_option maxRecDepth 100000 in
theorem xl_X9_153 : xm_ML RX9 (153, 1, 7, 0) yX9_letters cX9_letters 7 (some .long) := ⟨⟨xm_in 1121 (by decide +kernel) rfl, xm_in 12 (by decide +kernel) rfl, xm_in 1123 rfl rfl, by decide⟩, ⟨by decide +kernel, by decide +kernel⟩, Or.inr (Or.inl ⟨rfl, by decide +kernel, xm_in 1122 (by decide +kernel) rfl⟩)⟩
set_option maxRecDepth 100000 in
theorem xo_X9_init2 : xm_chk2 cX9_init none xf_X9 xi_X9 xj_X9 xk_X9_init2 xc_X9_init2 = true := by decide +kernel
def nKw : List Int64 := [nLt 115 108 105 100 101 0 0, nLt 112 101 114 115 111 110 0, nLt 115 104 111 119 110 0 0, nLt 116 97 107 101 115 0 0, nLt 102 97 100 101 115 0 0, nLt 112 97 121 115 0 0 0, nLt 119 97 115 104 101 115 0, nLt 115 101 101 100 0 0 0, nLt 105 102 0 0 0 0 0, nLt 116 104 101 110 0 0 0, nLt 101 108 115 101 0 0 0, nLt 103 108 111 119 0 0 0, nLt 119 97 114 109 0 0 0, nLt 98 114 105 103 104 116 0, nLt 119 101 101 107 0 0 0, nLt 115 101 97 116 0 0 0, nLt 106 111 105 110 115 0 0, nLt 119 104 105 99 104 0 0, nLt 111 116 104 101 114 115 0, nLt 115 108 105 100 101 115 0]
theorem nKw_k : ∀ i, i < 20 → (nKw[i]?).getD 0 = ((pWl[i]?).getD []).foldl (fun n x => n * 27 + lN x) 0 := by decide +kernel
def uKey (g2 : xG) : xG := (xm_sL (xm_sL (xm_sL (xm_sL (xm_sL (xm_sL (xm_sL (xm_sL (xm_sL (xm_sL (xm_sL (xm_sL (xm_sL (xm_sL (xm_sL (xm_sL (xm_sL (xm_sL (xm_sL (xm_sL g2 7 0 (nLt 115 108 105 100 101 0 0)) 7 1 (nLt 112 101 114 115 111 110 0)) 7 2 (nLt 115 104 111 119 110 0 0)) 7 3 (nLt 116 97 107 101 115 0 0)) 7 4 (nLt 102 97 100 101 115 0 0)) 7 5 (nLt 112 97 121 115 0 0 0)) 7 6 (nLt 119 97 115 104 101 115 0)) 7 7 (nLt 115 101 101 100 0 0 0)) 7 8 (nLt 105 102 0 0 0 0 0)) 7 9 (nLt 116 104 101 110 0 0 0)) 7 10 (nLt 101 108 115 101 0 0 0)) 7 11 (nLt 103 108 111 119 0 0 0)) 7 12 (nLt 119 97 114 109 0 0 0)) 7 13 (nLt 98 114 105 103 104 116 0)) 7 14 (nLt 119 101 101 107 0 0 0)) 7 15 (nLt 115 101 97 116 0 0 0)) 7 16 (nLt 106 111 105 110 115 0 0)) 7 17 (nLt 119 104 105 99 104 0 0)) 7 18 (nLt 111 116 104 101 114 115 0)) 7 19 (nLt 115 108 105 100 101 115 0))
set_option maxRecDepth 100000 in
theorem uKey_k (g2 : xG) : mKey (uKey g2)
  | 0, _ => nKw_k 0 (by decide)
  | 1, _ => nKw_k 1 (by decide)
  | 2, _ => nKw_k 2 (by decide)
  | 3, _ => nKw_k 3 (by decide)
  | 4, _ => nKw_k 4 (by decide)
  | 5, _ => nKw_k 5 (by decide)
  | 6, _ => nKw_k 6 (by decide)
  | 7, _ => nKw_k 7 (by decide)
  | 8, _ => nKw_k 8 (by decide)
  | 9, _ => nKw_k 9 (by decide)
  | 10, _ => nKw_k 10 (by decide)
  | 11, _ => nKw_k 11 (by decide)
  | 12, _ => nKw_k 12 (by decide)
  | 13, _ => nKw_k 13 (by decide)
  | 14, _ => nKw_k 14 (by decide)
  | 15, _ => nKw_k 15 (by decide)
  | 16, _ => nKw_k 16 (by decide)
  | 17, _ => nKw_k 17 (by decide)
  | 18, _ => nKw_k 18 (by decide)
  | 19, _ => nKw_k 19 (by decide)
  | j + 20, h => absurd h (by omega)
theorem y9_v : vTok (pTs pS0) := pTs_ok pInv0 (fun _ q hq => by cases hq) rfl
def s0 : vS := (0, fun _ => 0, -1, pTs pS0, v0, 0, fun _ => v0, fun _ => none, 0, fun _ => 0, fun _ => 0, fun _ => false)
theorem s0_ok : vOk s0 := ⟨y9_v, v0_ok _, Nat.zero_le _, Nat.zero_le _, fun i hi => absurd hi (Nat.not_lt_zero _), (fun i _ c hc => by cases hc), Nat.zero_le _⟩
theorem y9_m : xm_monos [xt_X9_plain, xt_X9_letters, xt_X9_begins, xt_X9_keepsRow] := ⟨xm_rl_mono _ _, xm_fn_mono _ _ _, xm_rl_mono _ _, xm_rl_mono _ _, trivial⟩
set_option maxRecDepth 100000 in
set_option maxHeartbeats 400000 in
theorem y9_walk (g : xG) (Q : Option Value → xG → Prop) (h0 : ∀ j, j = 2 ∨ j = 18 ∨ j = 54 ∨ j = 59 → g.1 0 j = 0) (h17 : g.1 0 17 = -1) (h42 : ∀ s, s < 3 → g.1 42 s = 0) (hQ : ∀ g', mTp 0 s0 g' → Q none g') : xm_go xs_M xk_X9_init2 [xt_X9_plain, xt_X9_letters, xt_X9_begins, xt_X9_keepsRow] xc_X9_init2 Q xc_X9_init2 [.ref 0] [] g := by
  have hm := y9_m
  refine xm_run_go hm 300 ⟨0, ⟨rfl, by decide⟩, ?_⟩
  rintro o g1 ⟨rfl, f1, k1, d1, c10, c14, c16, c19, c20⟩
  refine ⟨1, ⟨rfl, by decide⟩, ?_⟩
  rintro o g2 ⟨rfl, f2, k2, d2, -, -, -, -, -⟩
  have z : ∀ k j, 10 ≤ k → k ≤ 28 → j < mBz k * 1 → g2.1 k j = g1.1 k j := fun k j a b c => f2.2.2.2.1 k j a b (Or.inl c)
  have e0 : g2.1 0 = g.1 0 := (k2 0 (by decide)).trans (k1 0 (by decide))
  have e42 : g2.1 42 = g.1 42 := (k2 42 (by decide)).trans (k1 42 (by decide))
  have sto : mSto 0 (pTs pS0) (uKey g2) := ⟨by decide, (by show g2.1 0 18 = _; rw [e0]; exact h0 18 (by omega)), (by show g2.1 10 0 = _; rw [z 10 0 (by decide) (by decide) (by decide)]; exact c10), (by show g2.1 14 0 = _; rw [z 14 0 (by decide) (by decide) (by decide)]; exact c14), (fun i hi => absurd hi (Nat.not_lt_zero _)), (fun i hi => absurd hi (Nat.not_lt_zero _)), (by show g2.1 19 0 = _; rw [z 19 0 (by decide) (by decide) (by decide)]; exact c19), fun k hk => ⟨[], vDf k, fun _ => rfl, vDf_ok k, Or.inl ⟨(by
    show g2.1 20 (4 * 0 + k) = g2.1 21 (4 * 0 + k)
    rw [z 20 (4 * 0 + k) (by decide) (by decide) (by rw [show mBz 20 = 4 from rfl]; omega), z 21 (4 * 0 + k) (by decide) (by decide) (by rw [show mBz 21 = 4 from rfl]; omega)]
    exact c20 k hk), rfl, rfl⟩⟩⟩
  have sho : mShown 0 (pTs pS0) [] (uKey g2) := ⟨(by show g2.1 16 0 = _; rw [z 16 0 (by decide) (by decide) (by decide)]; exact c16), by decide, (fun i q hq => by cases hq)⟩
  have next : ∀ (o : Option Value) (g3 : xG), (o = none ∧ mIn 0 (pTs pS0) (vBegin (pTs pS0) [] v0) g3 ∧ mFq (uKey g2) g3) → o = none ∧ ∀ (o : Option Value) (g4 : xG), (o = none ∧ mF32 g3 g4 ∧ ∀ j, j < 38 → g4.1 32 j = g3.1 33 j) → o = none ∧ Q none g4 := by
    rintro o g3 ⟨rfl, hin, f3⟩
    refine ⟨rfl, ?_⟩
    rintro o g4 ⟨rfl, f4, e4⟩
    refine ⟨rfl, hQ g4 ?_⟩
    have j4 : ∀ j, j ≠ 48 → j ≠ 51 → j ≠ 52 → g4.1 0 j = g.1 0 j := fun j a b c => by
      rw [f4.1 0 (by decide), f3.2.1 j a b c]
      show g2.1 0 j = _
      rw [e0]
    refine ⟨s0_ok, hin.2.2.1.fr (by rw [f4.1 0 (by decide)]) (fun k _ hk => by rw [f4.1 k (by omega)]), (hin.2.2.2.row.cp (fun j hj => by rw [Nat.zero_add]; exact e4 j hj)).raw, ⟨(j4 2 (by decide) (by decide) (by decide)).trans (h0 2 (by omega)), fun i hi => absurd hi (Nat.not_lt_zero _)⟩, (j4 17 (by decide) (by decide) (by decide)).trans h17, ⟨(j4 54 (by decide) (by decide) (by decide)).trans (h0 54 (by omega)), fun i hi => absurd hi (Nat.not_lt_zero _)⟩, ⟨(j4 59 (by decide) (by decide) (by decide)).trans (h0 59 (by omega)), fun i hi => absurd hi (Nat.not_lt_zero _)⟩, fun s hs => ⟨?_, (fun c hc => by cases hc)⟩, fun i hi => ?_⟩
    · rw [f4.1 42 (by decide), f3.1 42 (by decide) (by decide) (by decide) (by decide) (by decide) (by decide) (by decide) (by decide)]
      show g2.1 42 s = _
      rw [e42]; exact h42 s hs
    · have e2 : g4.2 = (uKey g2).2 := f4.2.trans f3.2.2
      rw [e2]; exact uKey_k g2 i hi
  unfold uKey at sto sho next
  refine ⟨(115, 108, 105, 100, 101, 0, 0), ⟨rfl, Or.inr ⟨by decide, by decide⟩, Or.inr ⟨by decide, by decide⟩, Or.inr ⟨by decide, by decide⟩, Or.inr ⟨by decide, by decide⟩, Or.inr ⟨by decide, by decide⟩, Or.inl rfl, Or.inl rfl⟩, 0, ⟨by decide, rfl⟩, (112, 101, 114, 115, 111, 110, 0), ⟨rfl, Or.inr ⟨by decide, by decide⟩, Or.inr ⟨by decide, by decide⟩, Or.inr ⟨by decide, by decide⟩, Or.inr ⟨by decide, by decide⟩, Or.inr ⟨by decide, by decide⟩, Or.inr ⟨by decide, by decide⟩, Or.inl rfl⟩, 1, ⟨by decide, rfl⟩, (115, 104, 111, 119, 110, 0, 0), ⟨rfl, Or.inr ⟨by decide, by decide⟩, Or.inr ⟨by decide, by decide⟩, Or.inr ⟨by decide, by decide⟩, Or.inr ⟨by decide, by decide⟩, Or.inr ⟨by decide, by decide⟩, Or.inl rfl, Or.inl rfl⟩, 2, ⟨by decide, rfl⟩, (116, 97, 107, 101, 115, 0, 0), ⟨rfl, Or.inr ⟨by decide, by decide⟩, Or.inr ⟨by decide, by decide⟩, Or.inr ⟨by decide, by decide⟩, Or.inr ⟨by decide, by decide⟩, Or.inr ⟨by decide, by decide⟩, Or.inl rfl, Or.inl rfl⟩, 3, ⟨by decide, rfl⟩, (102, 97, 100, 101, 115, 0, 0), ⟨rfl, Or.inr ⟨by decide, by decide⟩, Or.inr ⟨by decide, by decide⟩, Or.inr ⟨by decide, by decide⟩, Or.inr ⟨by decide, by decide⟩, Or.inr ⟨by decide, by decide⟩, Or.inl rfl, Or.inl rfl⟩, 4, ⟨by decide, rfl⟩, (112, 97, 121, 115, 0, 0, 0), ⟨rfl, Or.inr ⟨by decide, by decide⟩, Or.inr ⟨by decide, by decide⟩, Or.inr ⟨by decide, by decide⟩, Or.inr ⟨by decide, by decide⟩, Or.inl rfl, Or.inl rfl, Or.inl rfl⟩, 5, ⟨by decide, rfl⟩, (119, 97, 115, 104, 101, 115, 0), ⟨rfl, Or.inr ⟨by decide, by decide⟩, Or.inr ⟨by decide, by decide⟩, Or.inr ⟨by decide, by decide⟩, Or.inr ⟨by decide, by decide⟩, Or.inr ⟨by decide, by decide⟩, Or.inr ⟨by decide, by decide⟩, Or.inl rfl⟩, 6, ⟨by decide, rfl⟩, (115, 101, 101, 100, 0, 0, 0), ⟨rfl, Or.inr ⟨by decide, by decide⟩, Or.inr ⟨by decide, by decide⟩, Or.inr ⟨by decide, by decide⟩, Or.inr ⟨by decide, by decide⟩, Or.inl rfl, Or.inl rfl, Or.inl rfl⟩, 7, ⟨by decide, rfl⟩, (105, 102, 0, 0, 0, 0, 0), ⟨rfl, Or.inr ⟨by decide, by decide⟩, Or.inr ⟨by decide, by decide⟩, Or.inl rfl, Or.inl rfl, Or.inl rfl, Or.inl rfl, Or.inl rfl⟩, 8, ⟨by decide, rfl⟩, (116, 104, 101, 110, 0, 0, 0), ⟨rfl, Or.inr ⟨by decide, by decide⟩, Or.inr ⟨by decide, by decide⟩, Or.inr ⟨by decide, by decide⟩, Or.inr ⟨by decide, by decide⟩, Or.inl rfl, Or.inl rfl, Or.inl rfl⟩, 9, ⟨by decide, rfl⟩, (101, 108, 115, 101, 0, 0, 0), ⟨rfl, Or.inr ⟨by decide, by decide⟩, Or.inr ⟨by decide, by decide⟩, Or.inr ⟨by decide, by decide⟩, Or.inr ⟨by decide, by decide⟩, Or.inl rfl, Or.inl rfl, Or.inl rfl⟩, 10, ⟨by decide, rfl⟩, (103, 108, 111, 119, 0, 0, 0), ⟨rfl, Or.inr ⟨by decide, by decide⟩, Or.inr ⟨by decide, by decide⟩, Or.inr ⟨by decide, by decide⟩, Or.inr ⟨by decide, by decide⟩, Or.inl rfl, Or.inl rfl, Or.inl rfl⟩, 11, ⟨by decide, rfl⟩, (119, 97, 114, 109, 0, 0, 0), ⟨rfl, Or.inr ⟨by decide, by decide⟩, Or.inr ⟨by decide, by decide⟩, Or.inr ⟨by decide, by decide⟩, Or.inr ⟨by decide, by decide⟩, Or.inl rfl, Or.inl rfl, Or.inl rfl⟩, 12, ⟨by decide, rfl⟩, (98, 114, 105, 103, 104, 116, 0), ⟨rfl, Or.inr ⟨by decide, by decide⟩, Or.inr ⟨by decide, by decide⟩, Or.inr ⟨by decide, by decide⟩, Or.inr ⟨by decide, by decide⟩, Or.inr ⟨by decide, by decide⟩, Or.inr ⟨by decide, by decide⟩, Or.inl rfl⟩, 13, ⟨by decide, rfl⟩, (119, 101, 101, 107, 0, 0, 0), ⟨rfl, Or.inr ⟨by decide, by decide⟩, Or.inr ⟨by decide, by decide⟩, Or.inr ⟨by decide, by decide⟩, Or.inr ⟨by decide, by decide⟩, Or.inl rfl, Or.inl rfl, Or.inl rfl⟩, 14, ⟨by decide, rfl⟩, (115, 101, 97, 116, 0, 0, 0), ⟨rfl, Or.inr ⟨by decide, by decide⟩, Or.inr ⟨by decide, by decide⟩, Or.inr ⟨by decide, by decide⟩, Or.inr ⟨by decide, by decide⟩, Or.inl rfl, Or.inl rfl, Or.inl rfl⟩, 15, ⟨by decide, rfl⟩, (106, 111, 105, 110, 115, 0, 0), ⟨rfl, Or.inr ⟨by decide, by decide⟩, Or.inr ⟨by decide, by decide⟩, Or.inr ⟨by decide, by decide⟩, Or.inr ⟨by decide, by decide⟩, Or.inr ⟨by decide, by decide⟩, Or.inl rfl, Or.inl rfl⟩, 16, ⟨by decide, rfl⟩, (119, 104, 105, 99, 104, 0, 0), ⟨rfl, Or.inr ⟨by decide, by decide⟩, Or.inr ⟨by decide, by decide⟩, Or.inr ⟨by decide, by decide⟩, Or.inr ⟨by decide, by decide⟩, Or.inr ⟨by decide, by decide⟩, Or.inl rfl, Or.inl rfl⟩, 17, ⟨by decide, rfl⟩, (111, 116, 104, 101, 114, 115, 0), ⟨rfl, Or.inr ⟨by decide, by decide⟩, Or.inr ⟨by decide, by decide⟩, Or.inr ⟨by decide, by decide⟩, Or.inr ⟨by decide, by decide⟩, Or.inr ⟨by decide, by decide⟩, Or.inr ⟨by decide, by decide⟩, Or.inl rfl⟩, 18, ⟨by decide, rfl⟩, (115, 108, 105, 100, 101, 115, 0), ⟨rfl, Or.inr ⟨by decide, by decide⟩, Or.inr ⟨by decide, by decide⟩, Or.inr ⟨by decide, by decide⟩, Or.inr ⟨by decide, by decide⟩, Or.inr ⟨by decide, by decide⟩, Or.inr ⟨by decide, by decide⟩, Or.inl rfl⟩, 19, ⟨by decide, rfl⟩, ?_⟩
  refine ⟨(0, pTs pS0, []), ⟨rfl, y9_v, sto, sho⟩, ?_⟩
  intro o g3 h3
  obtain ⟨rfl, k3⟩ := next o g3 h3
  refine ⟨(), ⟨rfl, trivial⟩, ?_⟩
  intro o g4 h4
  obtain ⟨rfl, fin⟩ := k3 o g4 h4
  exact fin
