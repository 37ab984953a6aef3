set_option maxRecDepth 100000 in
theorem xl_X0_37 : xm_ML RX0 (37, 1, 3, 0) yX0_reaching cX0_reaching 5 (some .int) := ⟨⟨xm_in 1030 (by decide +kernel) rfl, xm_in 11 (by decide +kernel) rfl, xm_in 1032 rfl rfl, by decide⟩, ⟨by decide +kernel, by decide +kernel⟩, Or.inr (Or.inl ⟨rfl, by decide +kernel, xm_in 1031 (by decide +kernel) rfl⟩)⟩
set_option maxRecDepth 100000 in
theorem xl_X0_41 : xm_ML RX0 (41, 0, 3, 0) yX0_fitting cX0_fitting 6 (some .int) := ⟨⟨xm_in 1052 (by decide +kernel) rfl, xm_in 11 (by decide +kernel) rfl, xm_in 1029 rfl rfl, by decide⟩, ⟨by decide +kernel, by decide +kernel⟩, Or.inl ⟨rfl, by decide +kernel, xm_in 1027 (by decide +kernel) rfl, xm_in 1028 (by decide +kernel) rfl, _, rfl, rfl⟩⟩
set_option maxRecDepth 100000 in
theorem xl_X0_45 : xm_ML RX0 (45, 1, 1, 0) yJ6_bitCount_0f7a4 cJ6_bitCount_0f7a4 1 (some .int) := ⟨⟨xm_in 1037 (by decide +kernel) rfl, xm_in 19 (by decide +kernel) rfl, xm_in 1039 rfl rfl, by decide⟩, ⟨by decide +kernel, by decide +kernel⟩, Or.inr (Or.inl ⟨rfl, by decide +kernel, xm_in 1038 (by decide +kernel) rfl⟩)⟩
set_option maxRecDepth 100000 in
theorem xl_X0_51 : xm_ML RX0 (51, 1, 2, 0) yJ9_max_7cf53 cJ9_max_7cf53 2 (some .int) := ⟨⟨xm_in 1053 (by decide +kernel) rfl, xm_in 8 (by decide +kernel) rfl, xm_in 308 rfl rfl, by decide⟩, ⟨by decide +kernel, by decide +kernel⟩, Or.inr (Or.inl ⟨rfl, by decide +kernel, xm_in 307 (by decide +kernel) rfl⟩)⟩
set_option maxRecDepth 100000 in
theorem xl_X0_57 : xm_ML RX0 (57, 1, 3, 0) yX0_markOf cX0_markOf 3 (some .int) := ⟨⟨xm_in 1033 (by decide +kernel) rfl, xm_in 11 (by decide +kernel) rfl, xm_in 1035 rfl rfl, by decide⟩, ⟨by decide +kernel, by decide +kernel⟩, Or.inr (Or.inl ⟨rfl, by decide +kernel, xm_in 1034 (by decide +kernel) rfl⟩)⟩
set_option maxRecDepth 100000 in
theorem xl_X0_69 : xm_ML RX0 (69, 0, 2, 3) yX3_showing cX3_showing 4 (some .int) := ⟨⟨xm_in 1036 (by decide +kernel) rfl, xm_in 6 (by decide +kernel) rfl, xm_in 722 rfl rfl, by decide⟩, ⟨by decide +kernel, by decide +kernel⟩, Or.inl ⟨rfl, by decide +kernel, xm_in 720 (by decide +kernel) rfl, xm_in 721 (by decide +kernel) rfl, _, rfl, rfl⟩⟩
set_option maxRecDepth 100000 in
theorem xl_X1_38 : xm_ML RX1 (38, 0, 1, 5) yX5_clear cX5_clear 1 none := ⟨⟨xm_in 446 (by decide +kernel) rfl, xm_in 4 (by decide +kernel) rfl, xm_in 199 rfl rfl, by decide⟩, ⟨by decide +kernel, by decide +kernel⟩, Or.inl ⟨rfl, by decide +kernel, xm_in 197 (by decide +kernel) rfl, xm_in 198 (by decide +kernel) rfl, _, rfl, rfl⟩⟩
set_option maxRecDepth 100000 in
theorem xl_X1_41 : xm_ML RX1 (41, 0, 1, 7) yX7_scan cX7_scan 5 none := ⟨⟨xm_in 447 (by decide +kernel) rfl, xm_in 5 (by decide +kernel) rfl, xm_in 450 rfl rfl, by decide⟩, ⟨by decide +kernel, by decide +kernel⟩, Or.inl ⟨rfl, by decide +kernel, xm_in 448 (by decide +kernel) rfl, xm_in 449 (by decide +kernel) rfl, _, rfl, rfl⟩⟩
set_option maxRecDepth 100000 in
theorem xl_X1_60 : xm_ML RX1 (60, 0, 1, 1) yX1_kind cX1_kind 1 (some .int) := ⟨⟨xm_in 596 (by decide +kernel) rfl, xm_in 3 (by decide +kernel) rfl, xm_in 599 rfl rfl, by decide⟩, ⟨by decide +kernel, by decide +kernel⟩, Or.inl ⟨rfl, by decide +kernel, xm_in 598 (by decide +kernel) rfl, xm_ins 10 (by decide +kernel) rfl, _, rfl, rfl⟩⟩
set_option maxRecDepth 100000 in
theorem xl_X1_64 : xm_ML RX1 (64, 0, 1, 1) yX1_readSlide cX1_readSlide 5 none := ⟨⟨xm_in 604 (by decide +kernel) rfl, xm_in 3 (by decide +kernel) rfl, xm_in 607 rfl rfl, by decide⟩, ⟨by decide +kernel, by decide +kernel⟩, Or.inl ⟨rfl, by decide +kernel, xm_in 606 (by decide +kernel) rfl, xm_ins 11 (by decide +kernel) rfl, _, rfl, rfl⟩⟩
set_option maxRecDepth 100000 in
theorem xl_X1_67 : xm_ML RX1 (67, 0, 1, 1) yX1_readPerson cX1_readPerson 2 none := ⟨⟨xm_in 635 (by decide +kernel) rfl, xm_in 3 (by decide +kernel) rfl, xm_in 638 rfl rfl, by decide⟩, ⟨by decide +kernel, by decide +kernel⟩, Or.inl ⟨rfl, by decide +kernel, xm_in 637 (by decide +kernel) rfl, xm_ins 17 (by decide +kernel) rfl, _, rfl, rfl⟩⟩
set_option maxRecDepth 100000 in
theorem xl_X1_70 : xm_ML RX1 (70, 0, 1, 1) yX1_readShown cX1_readShown 3 none := ⟨⟨xm_in 643 (by decide +kernel) rfl, xm_in 3 (by decide +kernel) rfl, xm_in 646 rfl rfl, by decide⟩, ⟨by decide +kernel, by decide +kernel⟩, Or.inl ⟨rfl, by decide +kernel, xm_in 645 (by decide +kernel) rfl, xm_ins 18 (by decide +kernel) rfl, _, rfl, rfl⟩⟩
set_option maxRecDepth 100000 in
theorem xl_X1_73 : xm_ML RX1 (73, 0, 2, 1) yX1_readLaw cX1_readLaw 4 none := ⟨⟨xm_in 655 (by decide +kernel) rfl, xm_in 3 (by decide +kernel) rfl, xm_in 658 rfl rfl, by decide⟩, ⟨by decide +kernel, by decide +kernel⟩, Or.inl ⟨rfl, by decide +kernel, xm_in 657 (by decide +kernel) rfl, xm_ins 20 (by decide +kernel) rfl, _, rfl, rfl⟩⟩
set_option maxRecDepth 100000 in
theorem xl_X1_77 : xm_ML RX1 (77, 0, 2, 1) yX1_take cX1_take 2 (some .boolean) := ⟨⟨xm_in 612 (by decide +kernel) rfl, xm_in 3 (by decide +kernel) rfl, xm_in 615 rfl rfl, by decide⟩, ⟨by decide +kernel, by decide +kernel⟩, Or.inl ⟨rfl, by decide +kernel, xm_in 614 (by decide +kernel) rfl, xm_ins 13 (by decide +kernel) rfl, _, rfl, rfl⟩⟩
set_option maxRecDepth 100000 in
theorem xl_X1_81 : xm_ML RX1 (81, 0, 3, 1) yX1_number cX1_number 4 (some .int) := ⟨⟨xm_in 627 (by decide +kernel) rfl, xm_in 3 (by decide +kernel) rfl, xm_in 630 rfl rfl, by decide⟩, ⟨by decide +kernel, by decide +kernel⟩, Or.inl ⟨rfl, by decide +kernel, xm_in 629 (by decide +kernel) rfl, xm_ins 16 (by decide +kernel) rfl, _, rfl, rfl⟩⟩
set_option maxRecDepth 100000 in
theorem xl_X1_88 : xm_ML RX1 (88, 0, 2, 1) yX1_fail cX1_fail 2 none := ⟨⟨xm_in 608 (by decide +kernel) rfl, xm_in 3 (by decide +kernel) rfl, xm_in 611 rfl rfl, by decide⟩, ⟨by decide +kernel, by decide +kernel⟩, Or.inl ⟨rfl, by decide +kernel, xm_in 610 (by decide +kernel) rfl, xm_ins 12 (by decide +kernel) rfl, _, rfl, rfl⟩⟩
set_option maxRecDepth 100000 in
theorem xl_X1_94 : xm_ML RX1 (94, 0, 1, 1) yX1_newName cX1_newName 3 (some .long) := ⟨⟨xm_in 616 (by decide +kernel) rfl, xm_in 3 (by decide +kernel) rfl, xm_in 619 rfl rfl, by decide⟩, ⟨by decide +kernel, by decide +kernel⟩, Or.inl ⟨rfl, by decide +kernel, xm_in 618 (by decide +kernel) rfl, xm_ins 14 (by decide +kernel) rfl, _, rfl, rfl⟩⟩
set_option maxRecDepth 100000 in
theorem xl_X1_98 : xm_ML RX1 (98, 0, 4, 5) yX5_addSlide cX5_addSlide 4 none := ⟨⟨xm_in 631 (by decide +kernel) rfl, xm_in 4 (by decide +kernel) rfl, xm_in 634 rfl rfl, by decide⟩, ⟨by decide +kernel, by decide +kernel⟩, Or.inl ⟨rfl, by decide +kernel, xm_in 632 (by decide +kernel) rfl, xm_in 633 (by decide +kernel) rfl, _, rfl, rfl⟩⟩
set_option maxRecDepth 100000 in
theorem xl_X1_105 : xm_ML RX1 (105, 0, 2, 5) yX5_addPerson cX5_addPerson 2 none := ⟨⟨xm_in 639 (by decide +kernel) rfl, xm_in 4 (by decide +kernel) rfl, xm_in 642 rfl rfl, by decide⟩, ⟨by decide +kernel, by decide +kernel⟩, Or.inl ⟨rfl, by decide +kernel, xm_in 640 (by decide +kernel) rfl, xm_in 641 (by decide +kernel) rfl, _, rfl, rfl⟩⟩
set_option maxRecDepth 100000 in
theorem xl_X1_111 : xm_ML RX1 (111, 0, 3, 1) yX1_knownName cX1_knownName 4 (some .int) := ⟨⟨xm_in 647 (by decide +kernel) rfl, xm_in 3 (by decide +kernel) rfl, xm_in 650 rfl rfl, by decide⟩, ⟨by decide +kernel, by decide +kernel⟩, Or.inl ⟨rfl, by decide +kernel, xm_in 649 (by decide +kernel) rfl, xm_ins 19 (by decide +kernel) rfl, _, rfl, rfl⟩⟩
set_option maxRecDepth 100000 in
theorem xl_X1_115 : xm_ML RX1 (115, 0, 3, 5) yX5_addShown cX5_addShown 3 none := ⟨⟨xm_in 651 (by decide +kernel) rfl, xm_in 4 (by decide +kernel) rfl, xm_in 654 rfl rfl, by decide⟩, ⟨by decide +kernel, by decide +kernel⟩, Or.inl ⟨rfl, by decide +kernel, xm_in 652 (by decide +kernel) rfl, xm_in 653 (by decide +kernel) rfl, _, rfl, rfl⟩⟩
set_option maxRecDepth 100000 in
theorem xl_X1_122 : xm_ML RX1 (122, 1, 3, 0) yX1_find cX1_find 5 (some .int) := ⟨⟨xm_in 620 (by decide +kernel) rfl, xm_in 3 (by decide +kernel) rfl, xm_in 622 rfl rfl, by decide⟩, ⟨by decide +kernel, by decide +kernel⟩, Or.inr (Or.inl ⟨rfl, by decide +kernel, xm_in 621 (by decide +kernel) rfl⟩)⟩
set_option maxRecDepth 100000 in
theorem xl_X1_126 : xm_ML RX1 (126, 0, 2, 1) yX1_failLate cX1_failLate 2 none := ⟨⟨xm_in 623 (by decide +kernel) rfl, xm_in 3 (by decide +kernel) rfl, xm_in 626 rfl rfl, by decide⟩, ⟨by decide +kernel, by decide +kernel⟩, Or.inl ⟨rfl, by decide +kernel, xm_in 625 (by decide +kernel) rfl, xm_ins 15 (by decide +kernel) rfl, _, rfl, rfl⟩⟩
set_option maxRecDepth 100000 in
theorem xl_X1_129 : xm_ML RX1 (129, 0, 2, 5) yX5_beginLaw cX5_beginLaw 2 none := ⟨⟨xm_in 659 (by decide +kernel) rfl, xm_in 4 (by decide +kernel) rfl, xm_in 207 rfl rfl, by decide⟩, ⟨by decide +kernel, by decide +kernel⟩, Or.inl ⟨rfl, by decide +kernel, xm_in 205 (by decide +kernel) rfl, xm_in 206 (by decide +kernel) rfl, _, rfl, rfl⟩⟩
set_option maxRecDepth 100000 in
theorem xl_X1_132 : xm_ML RX1 (132, 0, 1, 1) yX1_readSum cX1_readSum 4 none := ⟨⟨xm_in 660 (by decide +kernel) rfl, xm_in 3 (by decide +kernel) rfl, xm_in 663 rfl rfl, by decide⟩, ⟨by decide +kernel, by decide +kernel⟩, Or.inl ⟨rfl, by decide +kernel, xm_in 662 (by decide +kernel) rfl, xm_ins 21 (by decide +kernel) rfl, _, rfl, rfl⟩⟩
set_option maxRecDepth 100000 in
theorem xl_X1_135 : xm_ML RX1 (135, 0, 2, 5) yX5_emit cX5_emit 2 none := ⟨⟨xm_in 672 (by decide +kernel) rfl, xm_in 4 (by decide +kernel) rfl, xm_in 211 rfl rfl, by decide⟩, ⟨by decide +kernel, by decide +kernel⟩, Or.inl ⟨rfl, by decide +kernel, xm_in 209 (by decide +kernel) rfl, xm_in 210 (by decide +kernel) rfl, _, rfl, rfl⟩⟩
set_option maxRecDepth 100000 in
theorem xl_X1_141 : xm_ML RX1 (141, 0, 2, 5) yX5_goOnHere cX5_goOnHere 2 none := ⟨⟨xm_in 687 (by decide +kernel) rfl, xm_in 4 (by decide +kernel) rfl, xm_in 690 rfl rfl, by decide⟩, ⟨by decide +kernel, by decide +kernel⟩, Or.inl ⟨rfl, by decide +kernel, xm_in 688 (by decide +kernel) rfl, xm_in 689 (by decide +kernel) rfl, _, rfl, rfl⟩⟩
set_option maxRecDepth 100000 in
theorem xl_X1_150 : xm_ML RX1 (150, 0, 1, 1) yX1_readUnitOrOpen cX1_readUnitOrOpen 3 (some .boolean) := ⟨⟨xm_in 664 (by decide +kernel) rfl, xm_in 3 (by decide +kernel) rfl, xm_in 667 rfl rfl, by decide⟩, ⟨by decide +kernel, by decide +kernel⟩, Or.inl ⟨rfl, by decide +kernel, xm_in 666 (by decide +kernel) rfl, xm_ins 22 (by decide +kernel) rfl, _, rfl, rfl⟩⟩
set_option maxRecDepth 100000 in
theorem xl_X1_154 : xm_ML RX1 (154, 0, 1, 1) yX1_closeBracket cX1_closeBracket 1 none := ⟨⟨xm_in 673 (by decide +kernel) rfl, xm_in 3 (by decide +kernel) rfl, xm_in 676 rfl rfl, by decide⟩, ⟨by decide +kernel, by decide +kernel⟩, Or.inl ⟨rfl, by decide +kernel, xm_in 675 (by decide +kernel) rfl, xm_ins 24 (by decide +kernel) rfl, _, rfl, rfl⟩⟩
set_option maxRecDepth 100000 in
theorem xl_X1_157 : xm_ML RX1 (157, 1, 1, 0) yX1_strength cX1_strength 1 (some .int) := ⟨⟨xm_in 681 (by decide +kernel) rfl, xm_in 3 (by decide +kernel) rfl, xm_in 683 rfl rfl, by decide⟩, ⟨by decide +kernel, by decide +kernel⟩, Or.inr (Or.inl ⟨rfl, by decide +kernel, xm_in 682 (by decide +kernel) rfl⟩)⟩
set_option maxRecDepth 100000 in
theorem xl_X1_161 : xm_ML RX1 (161, 0, 2, 1) yX1_release cX1_release 2 none := ⟨⟨xm_in 677 (by decide +kernel) rfl, xm_in 3 (by decide +kernel) rfl, xm_in 680 rfl rfl, by decide⟩, ⟨by decide +kernel, by decide +kernel⟩, Or.inl ⟨rfl, by decide +kernel, xm_in 679 (by decide +kernel) rfl, xm_ins 25 (by decide +kernel) rfl, _, rfl, rfl⟩⟩
set_option maxRecDepth 100000 in
theorem xl_X1_164 : xm_ML RX1 (164, 0, 2, 1) yX1_await cX1_await 2 none := ⟨⟨xm_in 668 (by decide +kernel) rfl, xm_in 3 (by decide +kernel) rfl, xm_in 671 rfl rfl, by decide⟩, ⟨by decide +kernel, by decide +kernel⟩, Or.inl ⟨rfl, by decide +kernel, xm_in 670 (by decide +kernel) rfl, xm_ins 23 (by decide +kernel) rfl, _, rfl, rfl⟩⟩
set_option maxRecDepth 100000 in
theorem xl_X1_167 : xm_ML RX1 (167, 1, 1, 0) yX1_codeOf cX1_codeOf 1 (some .int) := ⟨⟨xm_in 684 (by decide +kernel) rfl, xm_in 3 (by decide +kernel) rfl, xm_in 686 rfl rfl, by decide⟩, ⟨by decide +kernel, by decide +kernel⟩, Or.inr (Or.inl ⟨rfl, by decide +kernel, xm_in 685 (by decide +kernel) rfl⟩)⟩
set_option maxRecDepth 100000 in
theorem xl_X2_43 : xm_ML RX2 (43, 0, 3, 3) yX3_meet cX3_meet 5 (some .boolean) := ⟨⟨xm_in 846 (by decide +kernel) rfl, xm_in 6 (by decide +kernel) rfl, xm_in 289 rfl rfl, by decide⟩, ⟨by decide +kernel, by decide +kernel⟩, Or.inl ⟨rfl, by decide +kernel, xm_in 287 (by decide +kernel) rfl, xm_in 288 (by decide +kernel) rfl, _, rfl, rfl⟩⟩
set_option maxRecDepth 100000 in
theorem xl_X2_47 : xm_ML RX2 (47, 1, 1, 0) yJ6_bitCount_0f7a4 cJ6_bitCount_0f7a4 1 (some .int) := ⟨⟨xm_in 1101 (by decide +kernel) rfl, xm_in 19 (by decide +kernel) rfl, xm_in 1039 rfl rfl, by decide⟩, ⟨by decide +kernel, by decide +kernel⟩, Or.inr (Or.inl ⟨rfl, by decide +kernel, xm_in 1038 (by decide +kernel) rfl⟩)⟩
set_option maxRecDepth 100000 in
theorem xl_X2_56 : xm_ML RX2 (56, 0, 4, 2) yX2_tryBest cX2_tryBest 6 none := ⟨⟨xm_in 851 (by decide +kernel) rfl, xm_in 10 (by decide +kernel) rfl, xm_in 854 rfl rfl, by decide⟩, ⟨by decide +kernel, by decide +kernel⟩, Or.inl ⟨rfl, by decide +kernel, xm_in 853 (by decide +kernel) rfl, xm_ins 31 (by decide +kernel) rfl, _, rfl, rfl⟩⟩
set_option maxRecDepth 100000 in
theorem xl_X2_60 : xm_ML RX2 (60, 0, 3, 2) yX2_keep cX2_keep 3 none := ⟨⟨xm_in 855 (by decide +kernel) rfl, xm_in 10 (by decide +kernel) rfl, xm_in 858 rfl rfl, by decide⟩, ⟨by decide +kernel, by decide +kernel⟩, Or.inl ⟨rfl, by decide +kernel, xm_in 857 (by decide +kernel) rfl, xm_ins 32 (by decide +kernel) rfl, _, rfl, rfl⟩⟩
set_option maxRecDepth 100000 in
theorem xl_X2_64 : xm_ML RX2 (64, 1, 2, 0) yJ9_max_7cf53 cJ9_max_7cf53 2 (some .int) := ⟨⟨xm_in 860 (by decide +kernel) rfl, xm_in 8 (by decide +kernel) rfl, xm_in 308 rfl rfl, by decide⟩, ⟨by decide +kernel, by decide +kernel⟩, Or.inr (Or.inl ⟨rfl, by decide +kernel, xm_in 307 (by decide +kernel) rfl⟩)⟩
set_option maxRecDepth 100000 in
theorem xl_X2_70 : xm_ML RX2 (70, 1, 2, 0) yX2_has cX2_has 2 (some .boolean) := ⟨⟨xm_in 861 (by decide +kernel) rfl, xm_in 10 (by decide +kernel) rfl, xm_in 863 rfl rfl, by decide⟩, ⟨by decide +kernel, by decide +kernel⟩, Or.inr (Or.inl ⟨rfl, by decide +kernel, xm_in 862 (by decide +kernel) rfl⟩)⟩
theorem xl_X2_73 : xm_CP RX2 (73, 2, 5, 0) := ⟨rfl, xm_in 859 (by decide +kernel) rfl, xm_in 776 (by decide +kernel) rfl, xm_in 775 (by decide +kernel) rfl, xm_in 18 (by decide +kernel) rfl⟩
set_option maxRecDepth 100000 in
theorem xl_X2_85 : xm_ML RX2 (85, 0, 3, 2) yX2_tryFull cX2_tryFull 4 none := ⟨⟨xm_in 872 (by decide +kernel) rfl, xm_in 10 (by decide +kernel) rfl, xm_in 875 rfl rfl, by decide⟩, ⟨by decide +kernel, by decide +kernel⟩, Or.inl ⟨rfl, by decide +kernel, xm_in 874 (by decide +kernel) rfl, xm_ins 33 (by decide +kernel) rfl, _, rfl, rfl⟩⟩
set_option maxRecDepth 100000 in
theorem xl_X2_88 : xm_ML RX2 (88, 0, 4, 2) yX2_canFollow cX2_canFollow 4 (some .boolean) := ⟨⟨xm_in 876 (by decide +kernel) rfl, xm_in 10 (by decide +kernel) rfl, xm_in 879 rfl rfl, by decide⟩, ⟨by decide +kernel, by decide +kernel⟩, Or.inl ⟨rfl, by decide +kernel, xm_in 878 (by decide +kernel) rfl, xm_ins 34 (by decide +kernel) rfl, _, rfl, rfl⟩⟩
set_option maxRecDepth 100000 in
theorem xl_X2_92 : xm_ML RX2 (92, 0, 3, 2) yX2_tryLongest cX2_tryLongest 4 none := ⟨⟨xm_in 892 (by decide +kernel) rfl, xm_in 10 (by decide +kernel) rfl, xm_in 895 rfl rfl, by decide⟩, ⟨by decide +kernel, by decide +kernel⟩, Or.inl ⟨rfl, by decide +kernel, xm_in 894 (by decide +kernel) rfl, xm_ins 35 (by decide +kernel) rfl, _, rfl, rfl⟩⟩
set_option maxRecDepth 100000 in
theorem xl_X2_95 : xm_ML RX2 (95, 0, 2, 2) yX2_allNext cX2_allNext 4 (some .int) := ⟨⟨xm_in 904 (by decide +kernel) rfl, xm_in 10 (by decide +kernel) rfl, xm_in 907 rfl rfl, by decide⟩, ⟨by decide +kernel, by decide +kernel⟩, Or.inl ⟨rfl, by decide +kernel, xm_in 906 (by decide +kernel) rfl, xm_ins 36 (by decide +kernel) rfl, _, rfl, rfl⟩⟩
set_option maxRecDepth 100000 in
theorem xl_X2_98 : xm_ML RX2 (98, 0, 4, 2) yX2_canWin cX2_canWin 5 (some .boolean) := ⟨⟨xm_in 933 (by decide +kernel) rfl, xm_in 10 (by decide +kernel) rfl, xm_in 936 rfl rfl, by decide⟩, ⟨by decide +kernel, by decide +kernel⟩, Or.inl ⟨rfl, by decide +kernel, xm_in 935 (by decide +kernel) rfl, xm_ins 39 (by decide +kernel) rfl, _, rfl, rfl⟩⟩
set_option maxRecDepth 100000 in
theorem xl_X2_101 : xm_ML RX2 (101, 0, 2, 2) yX2_weigh cX2_weigh 7 none := ⟨⟨xm_in 916 (by decide +kernel) rfl, xm_in 10 (by decide +kernel) rfl, xm_in 919 rfl rfl, by decide⟩, ⟨by decide +kernel, by decide +kernel⟩, Or.inl ⟨rfl, by decide +kernel, xm_in 918 (by decide +kernel) rfl, xm_ins 37 (by decide +kernel) rfl, _, rfl, rfl⟩⟩
set_option maxRecDepth 100000 in
theorem xl_X2_105 : xm_ML RX2 (105, 0, 4, 2) yX2_cheapest cX2_cheapest 8 (some .int) := ⟨⟨xm_in 920 (by decide +kernel) rfl, xm_in 10 (by decide +kernel) rfl, xm_in 923 rfl rfl, by decide⟩, ⟨by decide +kernel, by decide +kernel⟩, Or.inl ⟨rfl, by decide +kernel, xm_in 922 (by decide +kernel) rfl, xm_ins 38 (by decide +kernel) rfl, _, rfl, rfl⟩⟩
set_option maxRecDepth 100000 in
theorem xl_X2_109 : xm_ML RX2 (109, 1, 2, 0) yX3_cell cX3_cell 2 (some .int) := ⟨⟨xm_in 924 (by decide +kernel) rfl, xm_in 6 (by decide +kernel) rfl, xm_in 285 rfl rfl, by decide⟩, ⟨by decide +kernel, by decide +kernel⟩, Or.inr (Or.inl ⟨rfl, by decide +kernel, xm_in 284 (by decide +kernel) rfl⟩)⟩
set_option maxRecDepth 100000 in
theorem xl_X3_47 : xm_ML RX3 (47, 1, 2, 0) yJ7_fill_53178 cJ7_fill_53178 4 none := ⟨⟨xm_in 272 (by decide +kernel) rfl, xm_in 7 (by decide +kernel) rfl, xm_in 274 rfl rfl, by decide⟩, ⟨by decide +kernel, by decide +kernel⟩, Or.inr (Or.inl ⟨rfl, by decide +kernel, xm_in 273 (by decide +kernel) rfl⟩)⟩
set_option maxRecDepth 100000 in
theorem xl_X3_53 : xm_ML RX3 (53, 0, 1, 3) yX3_settle cX3_settle 4 none := ⟨⟨xm_in 275 (by decide +kernel) rfl, xm_in 6 (by decide +kernel) rfl, xm_in 278 rfl rfl, by decide⟩, ⟨by decide +kernel, by decide +kernel⟩, Or.inl ⟨rfl, by decide +kernel, xm_in 276 (by decide +kernel) rfl, xm_in 277 (by decide +kernel) rfl, _, rfl, rfl⟩⟩
set_option maxRecDepth 100000 in
theorem xl_X3_67 : xm_ML RX3 (67, 0, 3, 3) yX3_throwUpon cX3_throwUpon 4 none := ⟨⟨xm_in 290 (by decide +kernel) rfl, xm_in 6 (by decide +kernel) rfl, xm_in 293 rfl rfl, by decide⟩, ⟨by decide +kernel, by decide +kernel⟩, Or.inl ⟨rfl, by decide +kernel, xm_in 291 (by decide +kernel) rfl, xm_in 292 (by decide +kernel) rfl, _, rfl, rfl⟩⟩
theorem xl_X3_71 : xm_CP RX3 (71, 2, 5, 0) := ⟨rfl, xm_in 945 (by decide +kernel) rfl, xm_in 776 (by decide +kernel) rfl, xm_in 775 (by decide +kernel) rfl, xm_in 18 (by decide +kernel) rfl⟩
set_option maxRecDepth 100000 in
theorem xl_X3_80 : xm_ML RX3 (80, 0, 2, 3) yX3_settlePicture cX3_settlePicture 7 none := ⟨⟨xm_in 279 (by decide +kernel) rfl, xm_in 6 (by decide +kernel) rfl, xm_in 282 rfl rfl, by decide⟩, ⟨by decide +kernel, by decide +kernel⟩, Or.inl ⟨rfl, by decide +kernel, xm_in 281 (by decide +kernel) rfl, xm_ins 1 (by decide +kernel) rfl, _, rfl, rfl⟩⟩
set_option maxRecDepth 100000 in
theorem xl_X3_84 : xm_ML RX3 (84, 0, 3, 3) yX3_meet cX3_meet 5 (some .boolean) := ⟨⟨xm_in 286 (by decide +kernel) rfl, xm_in 6 (by decide +kernel) rfl, xm_in 289 rfl rfl, by decide⟩, ⟨by decide +kernel, by decide +kernel⟩, Or.inl ⟨rfl, by decide +kernel, xm_in 287 (by decide +kernel) rfl, xm_in 288 (by decide +kernel) rfl, _, rfl, rfl⟩⟩
set_option maxRecDepth 100000 in
theorem xl_X3_91 : xm_ML RX3 (91, 1, 2, 0) yX3_cell cX3_cell 2 (some .int) := ⟨⟨xm_in 283 (by decide +kernel) rfl, xm_in 6 (by decide +kernel) rfl, xm_in 285 rfl rfl, by decide⟩, ⟨by decide +kernel, by decide +kernel⟩, Or.inr (Or.inl ⟨rfl, by decide +kernel, xm_in 284 (by decide +kernel) rfl⟩)⟩
set_option maxRecDepth 100000 in
theorem xl_X3_101 : xm_ML RX3 (101, 0, 4, 3) yX3_lawOf cX3_lawOf 12 (some .int) := ⟨⟨xm_in 298 (by decide +kernel) rfl, xm_in 6 (by decide +kernel) rfl, xm_in 301 rfl rfl, by decide⟩, ⟨by decide +kernel, by decide +kernel⟩, Or.inl ⟨rfl, by decide +kernel, xm_in 300 (by decide +kernel) rfl, xm_ins 2 (by decide +kernel) rfl, _, rfl, rfl⟩⟩
set_option maxRecDepth 100000 in
theorem xl_X3_105 : xm_ML RX3 (105, 1, 2, 0) yX3_held cX3_held 2 (some .int) := ⟨⟨xm_in 312 (by decide +kernel) rfl, xm_in 6 (by decide +kernel) rfl, xm_in 314 rfl rfl, by decide⟩, ⟨by decide +kernel, by decide +kernel⟩, Or.inr (Or.inl ⟨rfl, by decide +kernel, xm_in 313 (by decide +kernel) rfl⟩)⟩
set_option maxRecDepth 100000 in
theorem xl_X3_108 : xm_ML RX3 (108, 1, 2, 0) yJ9_min_7cf53 cJ9_min_7cf53 2 (some .int) := ⟨⟨xm_in 315 (by decide +kernel) rfl, xm_in 8 (by decide +kernel) rfl, xm_in 317 rfl rfl, by decide⟩, ⟨by decide +kernel, by decide +kernel⟩, Or.inr (Or.inl ⟨rfl, by decide +kernel, xm_in 316 (by decide +kernel) rfl⟩)⟩
set_option maxRecDepth 100000 in
theorem xl_X3_113 : xm_ML RX3 (113, 1, 2, 0) yJ9_max_7cf53 cJ9_max_7cf53 2 (some .int) := ⟨⟨xm_in 306 (by decide +kernel) rfl, xm_in 8 (by decide +kernel) rfl, xm_in 308 rfl rfl, by decide⟩, ⟨by decide +kernel, by decide +kernel⟩, Or.inr (Or.inl ⟨rfl, by decide +kernel, xm_in 307 (by decide +kernel) rfl⟩)⟩
set_option maxRecDepth 100000 in
theorem xl_X3_125 : xm_ML RX3 (125, 0, 5, 3) yX3_varOf cX3_varOf 5 (some .int) := ⟨⟨xm_in 302 (by decide +kernel) rfl, xm_in 6 (by decide +kernel) rfl, xm_in 305 rfl rfl, by decide⟩, ⟨by decide +kernel, by decide +kernel⟩, Or.inl ⟨rfl, by decide +kernel, xm_in 304 (by decide +kernel) rfl, xm_ins 3 (by decide +kernel) rfl, _, rfl, rfl⟩⟩
set_option maxRecDepth 100000 in
theorem xl_X3_129 : xm_ML RX3 (129, 1, 3, 0) yX3_reckon cX3_reckon 3 (some .int) := ⟨⟨xm_in 309 (by decide +kernel) rfl, xm_in 6 (by decide +kernel) rfl, xm_in 311 rfl rfl, by decide⟩, ⟨by decide +kernel, by decide +kernel⟩, Or.inr (Or.inl ⟨rfl, by decide +kernel, xm_in 310 (by decide +kernel) rfl⟩)⟩
set_option maxRecDepth 100000 in
theorem xl_X3_138 : xm_ML RX3 (138, 0, 3, 3) yX3_takes cX3_takes 3 (some .int) := ⟨⟨xm_in 294 (by decide +kernel) rfl, xm_in 6 (by decide +kernel) rfl, xm_in 297 rfl rfl, by decide⟩, ⟨by decide +kernel, by decide +kernel⟩, Or.inl ⟨rfl, by decide +kernel, xm_in 295 (by decide +kernel) rfl, xm_in 296 (by decide +kernel) rfl, _, rfl, rfl⟩⟩
set_option maxRecDepth 100000 in
theorem xl_X3_141 : xm_ML RX3 (141, 0, 1, 3) yX3_allPays cX3_allPays 3 (some .int) := ⟨⟨xm_in 806 (by decide +kernel) rfl, xm_in 6 (by decide +kernel) rfl, xm_in 809 rfl rfl, by decide⟩, ⟨by decide +kernel, by decide +kernel⟩, Or.inl ⟨rfl, by decide +kernel, xm_in 807 (by decide +kernel) rfl, xm_in 808 (by decide +kernel) rfl, _, rfl, rfl⟩⟩
set_option maxRecDepth 100000 in
theorem xl_X3_145 : xm_ML RX3 (145, 0, 2, 3) yX3_washers cX3_washers 4 (some .int) := ⟨⟨xm_in 811 (by decide +kernel) rfl, xm_in 6 (by decide +kernel) rfl, xm_in 814 rfl rfl, by decide⟩, ⟨by decide +kernel, by decide +kernel⟩, Or.inl ⟨rfl, by decide +kernel, xm_in 812 (by decide +kernel) rfl, xm_in 813 (by decide +kernel) rfl, _, rfl, rfl⟩⟩
set_option maxRecDepth 100000 in
theorem xl_X3_149 : xm_ML RX3 (149, 0, 3, 3) yX3_fades cX3_fades 3 (some .int) := ⟨⟨xm_in 823 (by decide +kernel) rfl, xm_in 6 (by decide +kernel) rfl, xm_in 752 rfl rfl, by decide⟩, ⟨by decide +kernel, by decide +kernel⟩, Or.inl ⟨rfl, by decide +kernel, xm_in 750 (by decide +kernel) rfl, xm_in 751 (by decide +kernel) rfl, _, rfl, rfl⟩⟩
set_option maxRecDepth 100000 in
theorem xl_X3_152 : xm_ML RX3 (152, 0, 2, 3) yX3_rinse cX3_rinse 3 none := ⟨⟨xm_in 824 (by decide +kernel) rfl, xm_in 6 (by decide +kernel) rfl, xm_in 785 rfl rfl, by decide⟩, ⟨by decide +kernel, by decide +kernel⟩, Or.inl ⟨rfl, by decide +kernel, xm_in 783 (by decide +kernel) rfl, xm_in 784 (by decide +kernel) rfl, _, rfl, rfl⟩⟩
set_option maxRecDepth 100000 in
theorem xl_X3_155 : xm_ML RX3 (155, 1, 2, 0) yX3_lotOfHundred cX3_lotOfHundred 2 (some .int) := ⟨⟨xm_in 815 (by decide +kernel) rfl, xm_in 6 (by decide +kernel) rfl, xm_in 817 rfl rfl, by decide⟩, ⟨by decide +kernel, by decide +kernel⟩, Or.inr (Or.inl ⟨rfl, by decide +kernel, xm_in 816 (by decide +kernel) rfl⟩)⟩
set_option maxRecDepth 100000 in
theorem xl_X3_158 : xm_ML RX3 (158, 0, 2, 3) yX3_washes cX3_washes 2 (some .int) := ⟨⟨xm_in 822 (by decide +kernel) rfl, xm_in 6 (by decide +kernel) rfl, xm_in 738 rfl rfl, by decide⟩, ⟨by decide +kernel, by decide +kernel⟩, Or.inl ⟨rfl, by decide +kernel, xm_in 736 (by decide +kernel) rfl, xm_in 737 (by decide +kernel) rfl, _, rfl, rfl⟩⟩
set_option maxRecDepth 100000 in
theorem xl_X3_161 : xm_ML RX3 (161, 1, 2, 0) yX3_mix cX3_mix 3 (some .int) := ⟨⟨xm_in 818 (by decide +kernel) rfl, xm_in 6 (by decide +kernel) rfl, xm_in 820 rfl rfl, by decide⟩, ⟨by decide +kernel, by decide +kernel⟩, Or.inr (Or.inl ⟨rfl, by decide +kernel, xm_in 819 (by decide +kernel) rfl⟩)⟩
set_option maxRecDepth 100000 in
theorem xl_X3_165 : xm_ML RX3 (165, 0, 2, 3) yX3_pays cX3_pays 3 (some .int) := ⟨⟨xm_in 810 (by decide +kernel) rfl, xm_in 6 (by decide +kernel) rfl, xm_in 734 rfl rfl, by decide⟩, ⟨by decide +kernel, by decide +kernel⟩, Or.inl ⟨rfl, by decide +kernel, xm_in 732 (by decide +kernel) rfl, xm_in 733 (by decide +kernel) rfl, _, rfl, rfl⟩⟩
set_option maxRecDepth 100000 in
theorem xl_X3_168 : xm_ML RX3 (168, 0, 2, 3) yX3_showing cX3_showing 4 (some .int) := ⟨⟨xm_in 1078 (by decide +kernel) rfl, xm_in 6 (by decide +kernel) rfl, xm_in 722 rfl rfl, by decide⟩, ⟨by decide +kernel, by decide +kernel⟩, Or.inl ⟨rfl, by decide +kernel, xm_in 720 (by decide +kernel) rfl, xm_in 721 (by decide +kernel) rfl, _, rfl, rfl⟩⟩
set_option maxRecDepth 100000 in
theorem xl_X4_27 : xm_ML RX4 (27, 0, 3, 4) yX4_put cX4_put 4 none := ⟨⟨xm_in 770 (by decide +kernel) rfl, xm_in 9 (by decide +kernel) rfl, xm_in 773 rfl rfl, by decide⟩, ⟨by decide +kernel, by decide +kernel⟩, Or.inl ⟨rfl, by decide +kernel, xm_in 772 (by decide +kernel) rfl, xm_ins 29 (by decide +kernel) rfl, _, rfl, rfl⟩⟩
set_option maxRecDepth 100000 in
theorem xl_X4_31 : xm_ML RX4 (31, 0, 3, 4) yX4_get cX4_get 4 none := ⟨⟨xm_in 833 (by decide +kernel) rfl, xm_in 9 (by decide +kernel) rfl, xm_in 836 rfl rfl, by decide⟩, ⟨by decide +kernel, by decide +kernel⟩, Or.inl ⟨rfl, by decide +kernel, xm_in 835 (by decide +kernel) rfl, xm_ins 30 (by decide +kernel) rfl, _, rfl, rfl⟩⟩
theorem xl_X4_43 : xm_CP RX4 (43, 2, 5, 0) := ⟨rfl, xm_in 774 (by decide +kernel) rfl, xm_in 776 (by decide +kernel) rfl, xm_in 775 (by decide +kernel) rfl, xm_in 18 (by decide +kernel) rfl⟩
set_option maxRecDepth 100000 in
theorem xl_X4_52 : xm_ML RX4 (52, 0, 1, 3) yX3_settle cX3_settle 4 none := ⟨⟨xm_in 837 (by decide +kernel) rfl, xm_in 6 (by decide +kernel) rfl, xm_in 278 rfl rfl, by decide⟩, ⟨by decide +kernel, by decide +kernel⟩, Or.inl ⟨rfl, by decide +kernel, xm_in 276 (by decide +kernel) rfl, xm_in 277 (by decide +kernel) rfl, _, rfl, rfl⟩⟩
set_option maxRecDepth 100000 in
theorem xl_X5_54 : xm_ML RX5 (54, 0, 3, 5) yX5_addPlainLaw cX5_addPlainLaw 3 none := ⟨⟨xm_in 200 (by decide +kernel) rfl, xm_in 4 (by decide +kernel) rfl, xm_in 203 rfl rfl, by decide⟩, ⟨by decide +kernel, by decide +kernel⟩, Or.inl ⟨rfl, by decide +kernel, xm_in 202 (by decide +kernel) rfl, xm_ins 0 (by decide +kernel) rfl, _, rfl, rfl⟩⟩
set_option maxRecDepth 100000 in
theorem xl_X5_58 : xm_ML RX5 (58, 0, 2, 5) yX5_beginLaw cX5_beginLaw 2 none := ⟨⟨xm_in 204 (by decide +kernel) rfl, xm_in 4 (by decide +kernel) rfl, xm_in 207 rfl rfl, by decide⟩, ⟨by decide +kernel, by decide +kernel⟩, Or.inl ⟨rfl, by decide +kernel, xm_in 205 (by decide +kernel) rfl, xm_in 206 (by decide +kernel) rfl, _, rfl, rfl⟩⟩
set_option maxRecDepth 100000 in
theorem xl_X5_62 : xm_ML RX5 (62, 0, 2, 5) yX5_emit cX5_emit 2 none := ⟨⟨xm_in 208 (by decide +kernel) rfl, xm_in 4 (by decide +kernel) rfl, xm_in 211 rfl rfl, by decide⟩, ⟨by decide +kernel, by decide +kernel⟩, Or.inl ⟨rfl, by decide +kernel, xm_in 209 (by decide +kernel) rfl, xm_in 210 (by decide +kernel) rfl, _, rfl, rfl⟩⟩
set_option maxRecDepth 100000 in
theorem xl_X7_33 : xm_ML RX7 (33, 0, 2, 7) yX7_byteAt cX7_byteAt 2 (some .int) := ⟨⟨xm_in 451 (by decide +kernel) rfl, xm_in 5 (by decide +kernel) rfl, xm_in 454 rfl rfl, by decide⟩, ⟨by decide +kernel, by decide +kernel⟩, Or.inl ⟨rfl, by decide +kernel, xm_in 453 (by decide +kernel) rfl, xm_ins 4 (by decide +kernel) rfl, _, rfl, rfl⟩⟩
set_option maxRecDepth 100000 in
theorem xl_X7_37 : xm_ML RX7 (37, 1, 1, 0) yX7_isBlank cX7_isBlank 1 (some .boolean) := ⟨⟨xm_in 455 (by decide +kernel) rfl, xm_in 5 (by decide +kernel) rfl, xm_in 457 rfl rfl, by decide⟩, ⟨by decide +kernel, by decide +kernel⟩, Or.inr (Or.inl ⟨rfl, by decide +kernel, xm_in 456 (by decide +kernel) rfl⟩)⟩
set_option maxRecDepth 100000 in
theorem xl_X7_41 : xm_ML RX7 (41, 0, 3, 7) yX7_scanOne cX7_scanOne 3 (some .int) := ⟨⟨xm_in 458 (by decide +kernel) rfl, xm_in 5 (by decide +kernel) rfl, xm_in 461 rfl rfl, by decide⟩, ⟨by decide +kernel, by decide +kernel⟩, Or.inl ⟨rfl, by decide +kernel, xm_in 460 (by decide +kernel) rfl, xm_ins 5 (by decide +kernel) rfl, _, rfl, rfl⟩⟩
set_option maxRecDepth 100000 in
theorem xl_X7_45 : xm_ML RX7 (45, 1, 1, 0) yX7_isLetter cX7_isLetter 1 (some .boolean) := ⟨⟨xm_in 462 (by decide +kernel) rfl, xm_in 5 (by decide +kernel) rfl, xm_in 464 rfl rfl, by decide⟩, ⟨by decide +kernel, by decide +kernel⟩, Or.inr (Or.inl ⟨rfl, by decide +kernel, xm_in 463 (by decide +kernel) rfl⟩)⟩
set_option maxRecDepth 100000 in
theorem xl_X7_48 : xm_ML RX7 (48, 0, 2, 7) yX7_scanLetters cX7_scanLetters 5 (some .int) := ⟨⟨xm_in 465 (by decide +kernel) rfl, xm_in 5 (by decide +kernel) rfl, xm_in 468 rfl rfl, by decide⟩, ⟨by decide +kernel, by decide +kernel⟩, Or.inl ⟨rfl, by decide +kernel, xm_in 467 (by decide +kernel) rfl, xm_ins 6 (by decide +kernel) rfl, _, rfl, rfl⟩⟩
set_option maxRecDepth 100000 in
theorem xl_X7_51 : xm_ML RX7 (51, 1, 1, 0) yX7_isDigit cX7_isDigit 1 (some .boolean) := ⟨⟨xm_in 520 (by decide +kernel) rfl, xm_in 5 (by decide +kernel) rfl, xm_in 522 rfl rfl, by decide⟩, ⟨by decide +kernel, by decide +kernel⟩, Or.inr (Or.inl ⟨rfl, by decide +kernel, xm_in 521 (by decide +kernel) rfl⟩)⟩
set_option maxRecDepth 100000 in
theorem xl_X7_54 : xm_ML RX7 (54, 0, 2, 7) yX7_scanDigits cX7_scanDigits 5 (some .int) := ⟨⟨xm_in 523 (by decide +kernel) rfl, xm_in 5 (by decide +kernel) rfl, xm_in 526 rfl rfl, by decide⟩, ⟨by decide +kernel, by decide +kernel⟩, Or.inl ⟨rfl, by decide +kernel, xm_in 525 (by decide +kernel) rfl, xm_ins 9 (by decide +kernel) rfl, _, rfl, rfl⟩⟩
set_option maxRecDepth 100000 in
theorem xl_X7_59 : xm_ML RX7 (59, 3, 2, 0) yJ0_indexOf_0f7a4 cJ0_indexOf_0f7a4 2 (some .int) := ⟨⟨xm_in 530 (by decide +kernel) rfl, xm_in 13 (by decide +kernel) rfl, xm_in 533 rfl rfl, by decide⟩, ⟨by decide +kernel, by decide +kernel⟩, Or.inr (Or.inr ⟨rfl, by decide +kernel, xm_in 531 (by decide +kernel) rfl, xm_in 532 (by decide +kernel) rfl, rfl⟩)⟩
set_option maxRecDepth 100000 in
theorem xl_X7_68 : xm_ML RX7 (68, 0, 3, 7) yX7_kindOfLetters cX7_kindOfLetters 4 (some .int) := ⟨⟨xm_in 471 (by decide +kernel) rfl, xm_in 5 (by decide +kernel) rfl, xm_in 474 rfl rfl, by decide⟩, ⟨by decide +kernel, by decide +kernel⟩, Or.inl ⟨rfl, by decide +kernel, xm_in 473 (by decide +kernel) rfl, xm_ins 7 (by decide +kernel) rfl, _, rfl, rfl⟩⟩
set_option maxRecDepth 100000 in
theorem xl_X7_71 : xm_ML RX7 (71, 0, 4, 7) yX7_isWord cX7_isWord 6 (some .boolean) := ⟨⟨xm_in 475 (by decide +kernel) rfl, xm_in 5 (by decide +kernel) rfl, xm_in 478 rfl rfl, by decide⟩, ⟨by decide +kernel, by decide +kernel⟩, Or.inl ⟨rfl, by decide +kernel, xm_in 477 (by decide +kernel) rfl, xm_ins 8 (by decide +kernel) rfl, _, rfl, rfl⟩⟩
set_option maxRecDepth 100000 in
theorem xl_X7_81 : xm_ML RX7 (81, 3, 2, 0) yJ0_charAt_5068e cJ0_charAt_5068e 2 (some .char) := ⟨⟨xm_in 480 (by decide +kernel) rfl, xm_in 13 (by decide +kernel) rfl, xm_in 483 rfl rfl, by decide⟩, ⟨by decide +kernel, by decide +kernel⟩, Or.inr (Or.inr ⟨rfl, by decide +kernel, xm_in 481 (by decide +kernel) rfl, xm_in 482 (by decide +kernel) rfl, rfl⟩)⟩
set_option maxRecDepth 100000 in
theorem xl_X8_78 : xm_ML RX8 (78, 0, 2, 6) yX6_append cX6_append 3 none := ⟨⟨xm_in 430 (by decide +kernel) rfl, xm_in 2 (by decide +kernel) rfl, xm_in 433 rfl rfl, by decide⟩, ⟨by decide +kernel, by decide +kernel⟩, Or.inl ⟨rfl, by decide +kernel, xm_in 431 (by decide +kernel) rfl, xm_in 432 (by decide +kernel) rfl, _, rfl, rfl⟩⟩
set_option maxRecDepth 100000 in
theorem xl_X8_82 : xm_ML RX8 (82, 0, 1, 1) yX1_start cX1_start 1 none := ⟨⟨xm_in 442 (by decide +kernel) rfl, xm_in 3 (by decide +kernel) rfl, xm_in 445 rfl rfl, by decide⟩, ⟨by decide +kernel, by decide +kernel⟩, Or.inl ⟨rfl, by decide +kernel, xm_in 443 (by decide +kernel) rfl, xm_in 444 (by decide +kernel) rfl, _, rfl, rfl⟩⟩
set_option maxRecDepth 100000 in
theorem xl_X8_87 : xm_ML RX8 (87, 0, 1, 1) yX1_goesOn cX1_goesOn 1 (some .boolean) := ⟨⟨xm_in 592 (by decide +kernel) rfl, xm_in 3 (by decide +kernel) rfl, xm_in 595 rfl rfl, by decide⟩, ⟨by decide +kernel, by decide +kernel⟩, Or.inl ⟨rfl, by decide +kernel, xm_in 593 (by decide +kernel) rfl, xm_in 594 (by decide +kernel) rfl, _, rfl, rfl⟩⟩
set_option maxRecDepth 100000 in
theorem xl_X8_91 : xm_ML RX8 (91, 0, 1, 1) yX1_readTell cX1_readTell 2 none := ⟨⟨xm_in 600 (by decide +kernel) rfl, xm_in 3 (by decide +kernel) rfl, xm_in 603 rfl rfl, by decide⟩, ⟨by decide +kernel, by decide +kernel⟩, Or.inl ⟨rfl, by decide +kernel, xm_in 601 (by decide +kernel) rfl, xm_in 602 (by decide +kernel) rfl, _, rfl, rfl⟩⟩
set_option maxRecDepth 100000 in
theorem xl_X8_94 : xm_ML RX8 (94, 0, 1, 1) yX1_faultPlace cX1_faultPlace 1 (some .int) := ⟨⟨xm_in 691 (by decide +kernel) rfl, xm_in 3 (by decide +kernel) rfl, xm_in 694 rfl rfl, by decide⟩, ⟨by decide +kernel, by decide +kernel⟩, Or.inl ⟨rfl, by decide +kernel, xm_in 692 (by decide +kernel) rfl, xm_in 693 (by decide +kernel) rfl, _, rfl, rfl⟩⟩
set_option maxRecDepth 100000 in
theorem xl_X8_97 : xm_ML RX8 (97, 0, 1, 1) yX1_faultNumber cX1_faultNumber 1 (some .int) := ⟨⟨xm_in 695 (by decide +kernel) rfl, xm_in 3 (by decide +kernel) rfl, xm_in 698 rfl rfl, by decide⟩, ⟨by decide +kernel, by decide +kernel⟩, Or.inl ⟨rfl, by decide +kernel, xm_in 696 (by decide +kernel) rfl, xm_in 697 (by decide +kernel) rfl, _, rfl, rfl⟩⟩
set_option maxRecDepth 100000 in
theorem xl_X8_100 : xm_ML RX8 (100, 0, 1, 8) yX8_adopt cX8_adopt 2 none := ⟨⟨xm_in 699 (by decide +kernel) rfl, xm_in 1 (by decide +kernel) rfl, xm_in 702 rfl rfl, by decide⟩, ⟨by decide +kernel, by decide +kernel⟩, Or.inl ⟨rfl, by decide +kernel, xm_in 701 (by decide +kernel) rfl, xm_ins 26 (by decide +kernel) rfl, _, rfl, rfl⟩⟩
set_option maxRecDepth 100000 in
theorem xl_X8_47 : xm_ML RX8 (47, 0, 2, 3) yX3_begin cX3_begin 3 none := ⟨⟨xm_in 268 (by decide +kernel) rfl, xm_in 6 (by decide +kernel) rfl, xm_in 271 rfl rfl, by decide⟩, ⟨by decide +kernel, by decide +kernel⟩, Or.inl ⟨rfl, by decide +kernel, xm_in 269 (by decide +kernel) rfl, xm_in 270 (by decide +kernel) rfl, _, rfl, rfl⟩⟩
set_option maxRecDepth 100000 in
theorem xl_X8_106 : xm_ML RX8 (106, 0, 1, 4) yX4_clear cX4_clear 1 none := ⟨⟨xm_in 703 (by decide +kernel) rfl, xm_in 9 (by decide +kernel) rfl, xm_in 706 rfl rfl, by decide⟩, ⟨by decide +kernel, by decide +kernel⟩, Or.inl ⟨rfl, by decide +kernel, xm_in 704 (by decide +kernel) rfl, xm_in 705 (by decide +kernel) rfl, _, rfl, rfl⟩⟩
set_option maxRecDepth 100000 in
theorem xl_X8_110 : xm_ML RX8 (110, 0, 2, 8) yX8_isSlide cX8_isSlide 2 (some .boolean) := ⟨⟨xm_in 715 (by decide +kernel) rfl, xm_in 1 (by decide +kernel) rfl, xm_in 718 rfl rfl, by decide⟩, ⟨by decide +kernel, by decide +kernel⟩, Or.inl ⟨rfl, by decide +kernel, xm_in 717 (by decide +kernel) rfl, xm_ins 27 (by decide +kernel) rfl, _, rfl, rfl⟩⟩
set_option maxRecDepth 100000 in
theorem xl_X8_124 : xm_ML RX8 (124, 0, 2, 3) yX3_showing cX3_showing 4 (some .int) := ⟨⟨xm_in 719 (by decide +kernel) rfl, xm_in 6 (by decide +kernel) rfl, xm_in 722 rfl rfl, by decide⟩, ⟨by decide +kernel, by decide +kernel⟩, Or.inl ⟨rfl, by decide +kernel, xm_in 720 (by decide +kernel) rfl, xm_in 721 (by decide +kernel) rfl, _, rfl, rfl⟩⟩
set_option maxRecDepth 100000 in
theorem xl_X8_128 : xm_ML RX8 (128, 0, 2, 8) yX8_isPerson cX8_isPerson 2 (some .boolean) := ⟨⟨xm_in 727 (by decide +kernel) rfl, xm_in 1 (by decide +kernel) rfl, xm_in 730 rfl rfl, by decide⟩, ⟨by decide +kernel, by decide +kernel⟩, Or.inl ⟨rfl, by decide +kernel, xm_in 729 (by decide +kernel) rfl, xm_ins 28 (by decide +kernel) rfl, _, rfl, rfl⟩⟩
set_option maxRecDepth 100000 in
theorem xl_X8_143 : xm_ML RX8 (143, 0, 2, 3) yX3_pays cX3_pays 3 (some .int) := ⟨⟨xm_in 731 (by decide +kernel) rfl, xm_in 6 (by decide +kernel) rfl, xm_in 734 rfl rfl, by decide⟩, ⟨by decide +kernel, by decide +kernel⟩, Or.inl ⟨rfl, by decide +kernel, xm_in 732 (by decide +kernel) rfl, xm_in 733 (by decide +kernel) rfl, _, rfl, rfl⟩⟩
set_option maxRecDepth 100000 in
theorem xl_X8_146 : xm_ML RX8 (146, 0, 2, 3) yX3_washes cX3_washes 2 (some .int) := ⟨⟨xm_in 735 (by decide +kernel) rfl, xm_in 6 (by decide +kernel) rfl, xm_in 738 rfl rfl, by decide⟩, ⟨by decide +kernel, by decide +kernel⟩, Or.inl ⟨rfl, by decide +kernel, xm_in 736 (by decide +kernel) rfl, xm_in 737 (by decide +kernel) rfl, _, rfl, rfl⟩⟩
set_option maxRecDepth 100000 in
theorem xl_X8_155 : xm_ML RX8 (155, 1, 2, 0) yX3_cell cX3_cell 2 (some .int) := ⟨⟨xm_in 743 (by decide +kernel) rfl, xm_in 6 (by decide +kernel) rfl, xm_in 285 rfl rfl, by decide⟩, ⟨by decide +kernel, by decide +kernel⟩, Or.inr (Or.inl ⟨rfl, by decide +kernel, xm_in 284 (by decide +kernel) rfl⟩)⟩
set_option maxRecDepth 100000 in
theorem xl_X8_159 : xm_ML RX8 (159, 0, 3, 3) yX3_takes cX3_takes 3 (some .int) := ⟨⟨xm_in 748 (by decide +kernel) rfl, xm_in 6 (by decide +kernel) rfl, xm_in 297 rfl rfl, by decide⟩, ⟨by decide +kernel, by decide +kernel⟩, Or.inl ⟨rfl, by decide +kernel, xm_in 295 (by decide +kernel) rfl, xm_in 296 (by decide +kernel) rfl, _, rfl, rfl⟩⟩
set_option maxRecDepth 100000 in
theorem xl_X8_162 : xm_ML RX8 (162, 0, 3, 3) yX3_fades cX3_fades 3 (some .int) := ⟨⟨xm_in 749 (by decide +kernel) rfl, xm_in 6 (by decide +kernel) rfl, xm_in 752 rfl rfl, by decide⟩, ⟨by decide +kernel, by decide +kernel⟩, Or.inl ⟨rfl, by decide +kernel, xm_in 750 (by decide +kernel) rfl, xm_in 751 (by decide +kernel) rfl, _, rfl, rfl⟩⟩
set_option maxRecDepth 100000 in
theorem xl_X8_165 : xm_ML RX8 (165, 0, 3, 3) yX3_meet cX3_meet 5 (some .boolean) := ⟨⟨xm_in 757 (by decide +kernel) rfl, xm_in 6 (by decide +kernel) rfl, xm_in 289 rfl rfl, by decide⟩, ⟨by decide +kernel, by decide +kernel⟩, Or.inl ⟨rfl, by decide +kernel, xm_in 287 (by decide +kernel) rfl, xm_in 288 (by decide +kernel) rfl, _, rfl, rfl⟩⟩
set_option maxRecDepth 100000 in
theorem xl_X8_172 : xm_ML RX8 (172, 0, 2, 4) yX4_push cX4_push 2 none := ⟨⟨xm_in 766 (by decide +kernel) rfl, xm_in 9 (by decide +kernel) rfl, xm_in 769 rfl rfl, by decide⟩, ⟨by decide +kernel, by decide +kernel⟩, Or.inl ⟨rfl, by decide +kernel, xm_in 767 (by decide +kernel) rfl, xm_in 768 (by decide +kernel) rfl, _, rfl, rfl⟩⟩
set_option maxRecDepth 100000 in
theorem xl_X8_176 : xm_ML RX8 (176, 0, 3, 3) yX3_throwUpon cX3_throwUpon 4 none := ⟨⟨xm_in 777 (by decide +kernel) rfl, xm_in 6 (by decide +kernel) rfl, xm_in 293 rfl rfl, by decide⟩, ⟨by decide +kernel, by decide +kernel⟩, Or.inl ⟨rfl, by decide +kernel, xm_in 291 (by decide +kernel) rfl, xm_in 292 (by decide +kernel) rfl, _, rfl, rfl⟩⟩
set_option maxRecDepth 100000 in
theorem xl_X8_180 : xm_ML RX8 (180, 0, 2, 3) yX3_rinse cX3_rinse 3 none := ⟨⟨xm_in 782 (by decide +kernel) rfl, xm_in 6 (by decide +kernel) rfl, xm_in 785 rfl rfl, by decide⟩, ⟨by decide +kernel, by decide +kernel⟩, Or.inl ⟨rfl, by decide +kernel, xm_in 783 (by decide +kernel) rfl, xm_in 784 (by decide +kernel) rfl, _, rfl, rfl⟩⟩
set_option maxRecDepth 100000 in
theorem xl_X8_183 : xm_ML RX8 (183, 0, 1, 3) yX3_settle cX3_settle 4 none := ⟨⟨xm_in 786 (by decide +kernel) rfl, xm_in 6 (by decide +kernel) rfl, xm_in 278 rfl rfl, by decide⟩, ⟨by decide +kernel, by decide +kernel⟩, Or.inl ⟨rfl, by decide +kernel, xm_in 276 (by decide +kernel) rfl, xm_in 277 (by decide +kernel) rfl, _, rfl, rfl⟩⟩
set_option maxRecDepth 100000 in
theorem xl_X8_186 : xm_ML RX8 (186, 0, 3, 3) yX3_move cX3_move 5 none := ⟨⟨xm_in 791 (by decide +kernel) rfl, xm_in 6 (by decide +kernel) rfl, xm_in 794 rfl rfl, by decide⟩, ⟨by decide +kernel, by decide +kernel⟩, Or.inl ⟨rfl, by decide +kernel, xm_in 792 (by decide +kernel) rfl, xm_in 793 (by decide +kernel) rfl, _, rfl, rfl⟩⟩
set_option maxRecDepth 100000 in
theorem xl_X8_189 : xm_ML RX8 (189, 1, 3, 0) yX8_isIn cX8_isIn 3 (some .boolean) := ⟨⟨xm_in 799 (by decide +kernel) rfl, xm_in 1 (by decide +kernel) rfl, xm_in 801 rfl rfl, by decide⟩, ⟨by decide +kernel, by decide +kernel⟩, Or.inr (Or.inl ⟨rfl, by decide +kernel, xm_in 800 (by decide +kernel) rfl⟩)⟩
set_option maxRecDepth 100000 in
theorem xl_X8_196 : xm_ML RX8 (196, 0, 3, 3) yX3_passWeek cX3_passWeek 6 none := ⟨⟨xm_in 802 (by decide +kernel) rfl, xm_in 6 (by decide +kernel) rfl, xm_in 805 rfl rfl, by decide⟩, ⟨by decide +kernel, by decide +kernel⟩, Or.inl ⟨rfl, by decide +kernel, xm_in 803 (by decide +kernel) rfl, xm_in 804 (by decide +kernel) rfl, _, rfl, rfl⟩⟩
set_option maxRecDepth 100000 in
theorem xl_X8_203 : xm_ML RX8 (203, 0, 2, 4) yX4_pop cX4_pop 2 (some .boolean) := ⟨⟨xm_in 829 (by decide +kernel) rfl, xm_in 9 (by decide +kernel) rfl, xm_in 832 rfl rfl, by decide⟩, ⟨by decide +kernel, by decide +kernel⟩, Or.inl ⟨rfl, by decide +kernel, xm_in 830 (by decide +kernel) rfl, xm_in 831 (by decide +kernel) rfl, _, rfl, rfl⟩⟩
set_option maxRecDepth 100000 in
theorem xl_X8_207 : xm_ML RX8 (207, 0, 2, 2) yX2_study cX2_study 4 none := ⟨⟨xm_in 842 (by decide +kernel) rfl, xm_in 10 (by decide +kernel) rfl, xm_in 845 rfl rfl, by decide⟩, ⟨by decide +kernel, by decide +kernel⟩, Or.inl ⟨rfl, by decide +kernel, xm_in 843 (by decide +kernel) rfl, xm_in 844 (by decide +kernel) rfl, _, rfl, rfl⟩⟩
set_option maxRecDepth 100000 in
theorem xl_X8_210 : xm_ML RX8 (210, 0, 1, 2) yX2_findBest cX2_findBest 1 none := ⟨⟨xm_in 847 (by decide +kernel) rfl, xm_in 10 (by decide +kernel) rfl, xm_in 850 rfl rfl, by decide⟩, ⟨by decide +kernel, by decide +kernel⟩, Or.inl ⟨rfl, by decide +kernel, xm_in 848 (by decide +kernel) rfl, xm_in 849 (by decide +kernel) rfl, _, rfl, rfl⟩⟩
set_option maxRecDepth 100000 in
theorem xl_X8_219 : xm_ML RX8 (219, 0, 1, 2) yX2_countFull cX2_countFull 1 none := ⟨⟨xm_in 868 (by decide +kernel) rfl, xm_in 10 (by decide +kernel) rfl, xm_in 871 rfl rfl, by decide⟩, ⟨by decide +kernel, by decide +kernel⟩, Or.inl ⟨rfl, by decide +kernel, xm_in 869 (by decide +kernel) rfl, xm_in 870 (by decide +kernel) rfl, _, rfl, rfl⟩⟩
set_option maxRecDepth 100000 in
theorem xl_X8_228 : xm_ML RX8 (228, 0, 1, 2) yX2_findLongest cX2_findLongest 1 none := ⟨⟨xm_in 888 (by decide +kernel) rfl, xm_in 10 (by decide +kernel) rfl, xm_in 891 rfl rfl, by decide⟩, ⟨by decide +kernel, by decide +kernel⟩, Or.inl ⟨rfl, by decide +kernel, xm_in 889 (by decide +kernel) rfl, xm_in 890 (by decide +kernel) rfl, _, rfl, rfl⟩⟩
set_option maxRecDepth 100000 in
theorem xl_X8_231 : xm_ML RX8 (231, 0, 3, 2) yX2_steps cX2_steps 5 (some .int) := ⟨⟨xm_in 900 (by decide +kernel) rfl, xm_in 10 (by decide +kernel) rfl, xm_in 903 rfl rfl, by decide⟩, ⟨by decide +kernel, by decide +kernel⟩, Or.inl ⟨rfl, by decide +kernel, xm_in 901 (by decide +kernel) rfl, xm_in 902 (by decide +kernel) rfl, _, rfl, rfl⟩⟩
set_option maxRecDepth 100000 in
theorem xl_X8_234 : xm_ML RX8 (234, 0, 3, 2) yX2_mended cX2_mended 6 (some .int) := ⟨⟨xm_in 912 (by decide +kernel) rfl, xm_in 10 (by decide +kernel) rfl, xm_in 915 rfl rfl, by decide⟩, ⟨by decide +kernel, by decide +kernel⟩, Or.inl ⟨rfl, by decide +kernel, xm_in 913 (by decide +kernel) rfl, xm_in 914 (by decide +kernel) rfl, _, rfl, rfl⟩⟩
set_option maxRecDepth 100000 in
theorem xl_X8_238 : xm_ML RX8 (238, 0, 1, 2) yX2_winningStart cX2_winningStart 2 (some .int) := ⟨⟨xm_in 929 (by decide +kernel) rfl, xm_in 10 (by decide +kernel) rfl, xm_in 932 rfl rfl, by decide⟩, ⟨by decide +kernel, by decide +kernel⟩, Or.inl ⟨rfl, by decide +kernel, xm_in 930 (by decide +kernel) rfl, xm_in 931 (by decide +kernel) rfl, _, rfl, rfl⟩⟩
set_option maxRecDepth 100000 in
theorem xl_X8_244 : xm_ML RX8 (244, 0, 2, 3) yX3_copyFrom cX3_copyFrom 2 none := ⟨⟨xm_in 941 (by decide +kernel) rfl, xm_in 6 (by decide +kernel) rfl, xm_in 944 rfl rfl, by decide⟩, ⟨by decide +kernel, by decide +kernel⟩, Or.inl ⟨rfl, by decide +kernel, xm_in 942 (by decide +kernel) rfl, xm_in 943 (by decide +kernel) rfl, _, rfl, rfl⟩⟩
set_option maxRecDepth 100000 in
theorem xl_X8_247 : xm_ML RX8 (247, 0, 1, 3) yX3_rowJoins cX3_rowJoins 3 (some .int) := ⟨⟨xm_in 946 (by decide +kernel) rfl, xm_in 6 (by decide +kernel) rfl, xm_in 949 rfl rfl, by decide⟩, ⟨by decide +kernel, by decide +kernel⟩, Or.inl ⟨rfl, by decide +kernel, xm_in 947 (by decide +kernel) rfl, xm_in 948 (by decide +kernel) rfl, _, rfl, rfl⟩⟩
set_option maxRecDepth 100000 in
theorem xl_X8_253 : xm_ML RX8 (253, 0, 3, 8) yX8_dreamOn cX8_dreamOn 4 none := ⟨⟨xm_in 958 (by decide +kernel) rfl, xm_in 1 (by decide +kernel) rfl, xm_in 961 rfl rfl, by decide⟩, ⟨by decide +kernel, by decide +kernel⟩, Or.inl ⟨rfl, by decide +kernel, xm_in 960 (by decide +kernel) rfl, xm_ins 40 (by decide +kernel) rfl, _, rfl, rfl⟩⟩
set_option maxRecDepth 100000 in
theorem xl_X8_259 : xm_ML RX8 (259, 0, 1, 2) yX2_lonelyOnes cX2_lonelyOnes 3 (some .int) := ⟨⟨xm_in 978 (by decide +kernel) rfl, xm_in 10 (by decide +kernel) rfl, xm_in 981 rfl rfl, by decide⟩, ⟨by decide +kernel, by decide +kernel⟩, Or.inl ⟨rfl, by decide +kernel, xm_in 979 (by decide +kernel) rfl, xm_in 980 (by decide +kernel) rfl, _, rfl, rfl⟩⟩
set_option maxRecDepth 100000 in
theorem xl_X8_262 : xm_ML RX8 (262, 0, 2, 3) yX3_shine cX3_shine 3 (some .int) := ⟨⟨xm_in 986 (by decide +kernel) rfl, xm_in 6 (by decide +kernel) rfl, xm_in 989 rfl rfl, by decide⟩, ⟨by decide +kernel, by decide +kernel⟩, Or.inl ⟨rfl, by decide +kernel, xm_in 987 (by decide +kernel) rfl, xm_in 988 (by decide +kernel) rfl, _, rfl, rfl⟩⟩
set_option maxRecDepth 100000 in
theorem xl_X8_265 : xm_ML RX8 (265, 0, 4, 0) yX0_add cX0_add 4 (some .int) := ⟨⟨xm_in 1014 (by decide +kernel) rfl, xm_in 11 (by decide +kernel) rfl, xm_in 1017 rfl rfl, by decide⟩, ⟨by decide +kernel, by decide +kernel⟩, Or.inl ⟨rfl, by decide +kernel, xm_in 1015 (by decide +kernel) rfl, xm_in 1016 (by decide +kernel) rfl, _, rfl, rfl⟩⟩
set_option maxRecDepth 100000 in
theorem xl_X8_269 : xm_ML RX8 (269, 0, 3, 0) yX0_fitting cX0_fitting 6 (some .int) := ⟨⟨xm_in 1026 (by decide +kernel) rfl, xm_in 11 (by decide +kernel) rfl, xm_in 1029 rfl rfl, by decide⟩, ⟨by decide +kernel, by decide +kernel⟩, Or.inl ⟨rfl, by decide +kernel, xm_in 1027 (by decide +kernel) rfl, xm_in 1028 (by decide +kernel) rfl, _, rfl, rfl⟩⟩
set_option maxRecDepth 100000 in
theorem xl_X8_272 : xm_ML RX8 (272, 1, 1, 0) yJ6_bitCount_0f7a4 cJ6_bitCount_0f7a4 1 (some .int) := ⟨⟨xm_in 1043 (by decide +kernel) rfl, xm_in 19 (by decide +kernel) rfl, xm_in 1039 rfl rfl, by decide⟩, ⟨by decide +kernel, by decide +kernel⟩, Or.inr (Or.inl ⟨rfl, by decide +kernel, xm_in 1038 (by decide +kernel) rfl⟩)⟩
set_option maxRecDepth 100000 in
theorem xl_X8_277 : xm_ML RX8 (277, 0, 4, 0) yX0_bestMark cX0_bestMark 10 (some .int) := ⟨⟨xm_in 1048 (by decide +kernel) rfl, xm_in 11 (by decide +kernel) rfl, xm_in 1051 rfl rfl, by decide⟩, ⟨by decide +kernel, by decide +kernel⟩, Or.inl ⟨rfl, by decide +kernel, xm_in 1049 (by decide +kernel) rfl, xm_in 1050 (by decide +kernel) rfl, _, rfl, rfl⟩⟩
set_option maxRecDepth 100000 in
theorem xl_X8_281 : xm_ML RX8 (281, 0, 3, 4) yX4_holdIn cX4_holdIn 3 none := ⟨⟨xm_in 1058 (by decide +kernel) rfl, xm_in 9 (by decide +kernel) rfl, xm_in 1061 rfl rfl, by decide⟩, ⟨by decide +kernel, by decide +kernel⟩, Or.inl ⟨rfl, by decide +kernel, xm_in 1059 (by decide +kernel) rfl, xm_in 1060 (by decide +kernel) rfl, _, rfl, rfl⟩⟩
set_option maxRecDepth 100000 in
theorem xl_X8_285 : xm_ML RX8 (285, 0, 3, 4) yX4_goOnFrom cX4_goOnFrom 3 (some .boolean) := ⟨⟨xm_in 1066 (by decide +kernel) rfl, xm_in 9 (by decide +kernel) rfl, xm_in 1069 rfl rfl, by decide⟩, ⟨by decide +kernel, by decide +kernel⟩, Or.inl ⟨rfl, by decide +kernel, xm_in 1067 (by decide +kernel) rfl, xm_in 1068 (by decide +kernel) rfl, _, rfl, rfl⟩⟩
set_option maxRecDepth 100000 in
theorem xl_X8_289 : xm_ML RX8 (289, 0, 1, 3) yX3_plainOnes cX3_plainOnes 1 (some .int) := ⟨⟨xm_in 1074 (by decide +kernel) rfl, xm_in 6 (by decide +kernel) rfl, xm_in 1077 rfl rfl, by decide⟩, ⟨by decide +kernel, by decide +kernel⟩, Or.inl ⟨rfl, by decide +kernel, xm_in 1075 (by decide +kernel) rfl, xm_in 1076 (by decide +kernel) rfl, _, rfl, rfl⟩⟩
set_option maxRecDepth 100000 in
theorem xl_X8_292 : xm_ML RX8 (292, 0, 1, 3) yX3_allPays cX3_allPays 3 (some .int) := ⟨⟨xm_in 1079 (by decide +kernel) rfl, xm_in 6 (by decide +kernel) rfl, xm_in 809 rfl rfl, by decide⟩, ⟨by decide +kernel, by decide +kernel⟩, Or.inl ⟨rfl, by decide +kernel, xm_in 807 (by decide +kernel) rfl, xm_in 808 (by decide +kernel) rfl, _, rfl, rfl⟩⟩
set_option maxRecDepth 100000 in
theorem xl_X8_295 : xm_ML RX8 (295, 0, 1, 3) yX3_allGlows cX3_allGlows 3 (some .int) := ⟨⟨xm_in 1080 (by decide +kernel) rfl, xm_in 6 (by decide +kernel) rfl, xm_in 1083 rfl rfl, by decide⟩, ⟨by decide +kernel, by decide +kernel⟩, Or.inl ⟨rfl, by decide +kernel, xm_in 1081 (by decide +kernel) rfl, xm_in 1082 (by decide +kernel) rfl, _, rfl, rfl⟩⟩
set_option maxRecDepth 100000 in
theorem xl_X8_304 : xm_ML RX8 (304, 0, 2, 8) yX8_countMore cX8_countMore 2 (some .int) := ⟨⟨xm_in 1084 (by decide +kernel) rfl, xm_in 1 (by decide +kernel) rfl, xm_in 1087 rfl rfl, by decide⟩, ⟨by decide +kernel, by decide +kernel⟩, Or.inl ⟨rfl, by decide +kernel, xm_in 1086 (by decide +kernel) rfl, xm_ins 41 (by decide +kernel) rfl, _, rfl, rfl⟩⟩
set_option maxRecDepth 100000 in
theorem xl_X8_307 : xm_ML RX8 (307, 0, 1, 3) yX3_pictures cX3_pictures 3 (some .int) := ⟨⟨xm_in 1088 (by decide +kernel) rfl, xm_in 6 (by decide +kernel) rfl, xm_in 1091 rfl rfl, by decide⟩, ⟨by decide +kernel, by decide +kernel⟩, Or.inl ⟨rfl, by decide +kernel, xm_in 1089 (by decide +kernel) rfl, xm_in 1090 (by decide +kernel) rfl, _, rfl, rfl⟩⟩
set_option maxRecDepth 100000 in
theorem xl_X8_310 : xm_ML RX8 (310, 0, 2, 3) yX3_washers cX3_washers 4 (some .int) := ⟨⟨xm_in 1092 (by decide +kernel) rfl, xm_in 6 (by decide +kernel) rfl, xm_in 814 rfl rfl, by decide⟩, ⟨by decide +kernel, by decide +kernel⟩, Or.inl ⟨rfl, by decide +kernel, xm_in 812 (by decide +kernel) rfl, xm_in 813 (by decide +kernel) rfl, _, rfl, rfl⟩⟩
set_option maxRecDepth 100000 in
theorem xl_X8_313 : xm_ML RX8 (313, 0, 1, 8) yX8_allMeetings cX8_allMeetings 1 (some .int) := ⟨⟨xm_in 1093 (by decide +kernel) rfl, xm_in 1 (by decide +kernel) rfl, xm_in 1096 rfl rfl, by decide⟩, ⟨by decide +kernel, by decide +kernel⟩, Or.inl ⟨rfl, by decide +kernel, xm_in 1095 (by decide +kernel) rfl, xm_ins 42 (by decide +kernel) rfl, _, rfl, rfl⟩⟩
set_option maxRecDepth 100000 in
theorem xl_X8_316 : xm_ML RX8 (316, 0, 1, 5) yX5_allWarm cX5_allWarm 3 (some .int) := ⟨⟨xm_in 1102 (by decide +kernel) rfl, xm_in 4 (by decide +kernel) rfl, xm_in 1105 rfl rfl, by decide⟩, ⟨by decide +kernel, by decide +kernel⟩, Or.inl ⟨rfl, by decide +kernel, xm_in 1103 (by decide +kernel) rfl, xm_in 1104 (by decide +kernel) rfl, _, rfl, rfl⟩⟩
set_option maxRecDepth 100000 in
theorem xl_X8_319 : xm_ML RX8 (319, 0, 1, 3) yX3_twiceJoined cX3_twiceJoined 3 (some .int) := ⟨⟨xm_in 1106 (by decide +kernel) rfl, xm_in 6 (by decide +kernel) rfl, xm_in 1109 rfl rfl, by decide⟩, ⟨by decide +kernel, by decide +kernel⟩, Or.inl ⟨rfl, by decide +kernel, xm_in 1107 (by decide +kernel) rfl, xm_in 1108 (by decide +kernel) rfl, _, rfl, rfl⟩⟩
set_option maxRecDepth 100000 in
theorem xl_X8_322 : xm_ML RX8 (322, 0, 1, 8) yX8_lonely cX8_lonely 1 (some .int) := ⟨⟨xm_in 1110 (by decide +kernel) rfl, xm_in 1 (by decide +kernel) rfl, xm_in 977 rfl rfl, by decide⟩, ⟨by decide +kernel, by decide +kernel⟩, Or.inl ⟨rfl, by decide +kernel, xm_in 975 (by decide +kernel) rfl, xm_in 976 (by decide +kernel) rfl, _, rfl, rfl⟩⟩
set_option maxRecDepth 100000 in
theorem xl_X8_325 : xm_ML RX8 (325, 0, 1, 2) yX2_meetings cX2_meetings 3 (some .int) := ⟨⟨xm_in 1097 (by decide +kernel) rfl, xm_in 10 (by decide +kernel) rfl, xm_in 1100 rfl rfl, by decide⟩, ⟨by decide +kernel, by decide +kernel⟩, Or.inl ⟨rfl, by decide +kernel, xm_in 1098 (by decide +kernel) rfl, xm_in 1099 (by decide +kernel) rfl, _, rfl, rfl⟩⟩
set_option maxRecDepth 100000 in
theorem xl_X9_166 : xm_ML RX9 (166, 0, 2, 9) yX9_lays cX9_lays 3 none := ⟨⟨xm_in 1405 (by decide +kernel) rfl, xm_in 12 (by decide +kernel) rfl, xm_in 1408 rfl rfl, by decide⟩, ⟨by decide +kernel, by decide +kernel⟩, Or.inl ⟨rfl, by decide +kernel, xm_in 1407 (by decide +kernel) rfl, xm_ins 62 (by decide +kernel) rfl, _, rfl, rfl⟩⟩
set_option maxRecDepth 100000 in
theorem xl_X9_174 : xm_ML RX9 (174, 1, 2, 0) yX9_appends cX9_appends 3 (some .long) := ⟨⟨xm_in 1124 (by decide +kernel) rfl, xm_in 12 (by decide +kernel) rfl, xm_in 1126 rfl rfl, by decide⟩, ⟨by decide +kernel, by decide +kernel⟩, Or.inr (Or.inl ⟨rfl, by decide +kernel, xm_in 1125 (by decide +kernel) rfl⟩)⟩
set_option maxRecDepth 100000 in
theorem xl_X9_181 : xm_ML RX9 (181, 0, 2, 9) yX9_byteAt cX9_byteAt 2 (some .int) := ⟨⟨xm_in 1421 (by decide +kernel) rfl, xm_in 12 (by decide +kernel) rfl, xm_in 1424 rfl rfl, by decide⟩, ⟨by decide +kernel, by decide +kernel⟩, Or.inl ⟨rfl, by decide +kernel, xm_in 1423 (by decide +kernel) rfl, xm_ins 64 (by decide +kernel) rfl, _, rfl, rfl⟩⟩
set_option maxRecDepth 100000 in
theorem xl_X9_185 : xm_ML RX9 (185, 0, 5, 9) yX9_token cX9_token 6 none := ⟨⟨xm_in 1425 (by decide +kernel) rfl, xm_in 12 (by decide +kernel) rfl, xm_in 1428 rfl rfl, by decide⟩, ⟨by decide +kernel, by decide +kernel⟩, Or.inl ⟨rfl, by decide +kernel, xm_in 1427 (by decide +kernel) rfl, xm_ins 65 (by decide +kernel) rfl, _, rfl, rfl⟩⟩
set_option maxRecDepth 100000 in
theorem xl_X9_189 : xm_ML RX9 (189, 1, 1, 0) yX9_isLetter cX9_isLetter 1 (some .boolean) := ⟨⟨xm_in 1429 (by decide +kernel) rfl, xm_in 12 (by decide +kernel) rfl, xm_in 1431 rfl rfl, by decide⟩, ⟨by decide +kernel, by decide +kernel⟩, Or.inr (Or.inl ⟨rfl, by decide +kernel, xm_in 1430 (by decide +kernel) rfl⟩)⟩
set_option maxRecDepth 100000 in
theorem xl_X9_193 : xm_ML RX9 (193, 1, 1, 0) yX9_isDigit cX9_isDigit 1 (some .boolean) := ⟨⟨xm_in 1432 (by decide +kernel) rfl, xm_in 12 (by decide +kernel) rfl, xm_in 1434 rfl rfl, by decide⟩, ⟨by decide +kernel, by decide +kernel⟩, Or.inr (Or.inl ⟨rfl, by decide +kernel, xm_in 1433 (by decide +kernel) rfl⟩)⟩
set_option maxRecDepth 100000 in
theorem xl_X9_196 : xm_ML RX9 (196, 0, 4, 9) yX9_sign cX9_sign 5 (some .int) := ⟨⟨xm_in 1435 (by decide +kernel) rfl, xm_in 12 (by decide +kernel) rfl, xm_in 1438 rfl rfl, by decide⟩, ⟨by decide +kernel, by decide +kernel⟩, Or.inl ⟨rfl, by decide +kernel, xm_in 1437 (by decide +kernel) rfl, xm_ins 66 (by decide +kernel) rfl, _, rfl, rfl⟩⟩
set_option maxRecDepth 100000 in
theorem xl_X9_215 : xm_ML RX9 (215, 0, 2, 9) yX9_fail cX9_fail 2 none := ⟨⟨xm_in 1451 (by decide +kernel) rfl, xm_in 12 (by decide +kernel) rfl, xm_in 1454 rfl rfl, by decide⟩, ⟨by decide +kernel, by decide +kernel⟩, Or.inl ⟨rfl, by decide +kernel, xm_in 1453 (by decide +kernel) rfl, xm_ins 70 (by decide +kernel) rfl, _, rfl, rfl⟩⟩
set_option maxRecDepth 100000 in
theorem xl_X9_218 : xm_ML RX9 (218, 0, 2, 9) yX9_is cX9_is 2 (some .boolean) := ⟨⟨xm_in 1439 (by decide +kernel) rfl, xm_in 12 (by decide +kernel) rfl, xm_in 1442 rfl rfl, by decide⟩, ⟨by decide +kernel, by decide +kernel⟩, Or.inl ⟨rfl, by decide +kernel, xm_in 1441 (by decide +kernel) rfl, xm_ins 67 (by decide +kernel) rfl, _, rfl, rfl⟩⟩
set_option maxRecDepth 100000 in
theorem xl_X9_221 : xm_ML RX9 (221, 0, 1, 9) yX9_goesOn cX9_goesOn 1 none := ⟨⟨xm_in 1455 (by decide +kernel) rfl, xm_in 12 (by decide +kernel) rfl, xm_in 1458 rfl rfl, by decide⟩, ⟨by decide +kernel, by decide +kernel⟩, Or.inl ⟨rfl, by decide +kernel, xm_in 1457 (by decide +kernel) rfl, xm_ins 71 (by decide +kernel) rfl, _, rfl, rfl⟩⟩
set_option maxRecDepth 100000 in
theorem xl_X9_224 : xm_ML RX9 (224, 0, 1, 9) yX9_cut cX9_cut 8 none := ⟨⟨xm_in 1417 (by decide +kernel) rfl, xm_in 12 (by decide +kernel) rfl, xm_in 1420 rfl rfl, by decide⟩, ⟨by decide +kernel, by decide +kernel⟩, Or.inl ⟨rfl, by decide +kernel, xm_in 1419 (by decide +kernel) rfl, xm_ins 63 (by decide +kernel) rfl, _, rfl, rfl⟩⟩
set_option maxRecDepth 100000 in
theorem xl_X9_149 : xm_ML RX9 (149, 0, 2, 9) yX9_plain cX9_plain 3 none := ⟨⟨xm_in 1117 (by decide +kernel) rfl, xm_in 12 (by decide +kernel) rfl, xm_in 1120 rfl rfl, by decide⟩, ⟨by decide +kernel, by decide +kernel⟩, Or.inl ⟨rfl, by decide +kernel, xm_in 1119 (by decide +kernel) rfl, xm_ins 43 (by decide +kernel) rfl, _, rfl, rfl⟩⟩
set_option maxRecDepth 100000 in
theorem xl_X9_245 : xm_ML RX9 (245, 0, 1, 9) yX9_tellOne cX9_tellOne 2 none := ⟨⟨xm_in 1443 (by decide +kernel) rfl, xm_in 12 (by decide +kernel) rfl, xm_in 1446 rfl rfl, by decide⟩, ⟨by decide +kernel, by decide +kernel⟩, Or.inl ⟨rfl, by decide +kernel, xm_in 1445 (by decide +kernel) rfl, xm_ins 68 (by decide +kernel) rfl, _, rfl, rfl⟩⟩
set_option maxRecDepth 100000 in
theorem xl_X9_157 : xm_ML RX9 (157, 0, 1, 9) yX9_begins cX9_begins 2 none := ⟨⟨xm_in 1128 (by decide +kernel) rfl, xm_in 12 (by decide +kernel) rfl, xm_in 1131 rfl rfl, by decide⟩, ⟨by decide +kernel, by decide +kernel⟩, Or.inl ⟨rfl, by decide +kernel, xm_in 1130 (by decide +kernel) rfl, xm_ins 44 (by decide +kernel) rfl, _, rfl, rfl⟩⟩
set_option maxRecDepth 100000 in
theorem xl_X9_160 : xm_ML RX9 (160, 0, 1, 9) yX9_keepsRow cX9_keepsRow 2 none := ⟨⟨xm_in 1202 (by decide +kernel) rfl, xm_in 12 (by decide +kernel) rfl, xm_in 1205 rfl rfl, by decide⟩, ⟨by decide +kernel, by decide +kernel⟩, Or.inl ⟨rfl, by decide +kernel, xm_in 1204 (by decide +kernel) rfl, xm_ins 61 (by decide +kernel) rfl, _, rfl, rfl⟩⟩
set_option maxRecDepth 100000 in
theorem xl_X9_254 : xm_ML RX9 (254, 0, 3, 9) yX9_roomFor cX9_roomFor 3 none := ⟨⟨xm_in 1447 (by decide +kernel) rfl, xm_in 12 (by decide +kernel) rfl, xm_in 1450 rfl rfl, by decide⟩, ⟨by decide +kernel, by decide +kernel⟩, Or.inl ⟨rfl, by decide +kernel, xm_in 1449 (by decide +kernel) rfl, xm_ins 69 (by decide +kernel) rfl, _, rfl, rfl⟩⟩
set_option maxRecDepth 100000 in
theorem xl_X9_258 : xm_ML RX9 (258, 0, 1, 9) yX9_tellSlide cX9_tellSlide 3 none := ⟨⟨xm_in 1459 (by decide +kernel) rfl, xm_in 12 (by decide +kernel) rfl, xm_in 1462 rfl rfl, by decide⟩, ⟨by decide +kernel, by decide +kernel⟩, Or.inl ⟨rfl, by decide +kernel, xm_in 1461 (by decide +kernel) rfl, xm_ins 72 (by decide +kernel) rfl, _, rfl, rfl⟩⟩
set_option maxRecDepth 100000 in
theorem xl_X9_261 : xm_ML RX9 (261, 0, 1, 9) yX9_named cX9_named 3 (some .int) := ⟨⟨xm_in 1463 (by decide +kernel) rfl, xm_in 12 (by decide +kernel) rfl, xm_in 1466 rfl rfl, by decide⟩, ⟨by decide +kernel, by decide +kernel⟩, Or.inl ⟨rfl, by decide +kernel, xm_in 1465 (by decide +kernel) rfl, xm_ins 73 (by decide +kernel) rfl, _, rfl, rfl⟩⟩
set_option maxRecDepth 100000 in
theorem xl_X9_265 : xm_ML RX9 (265, 0, 3, 9) yX9_bounded cX9_bounded 4 (some .int) := ⟨⟨xm_in 1475 (by decide +kernel) rfl, xm_in 12 (by decide +kernel) rfl, xm_in 1478 rfl rfl, by decide⟩, ⟨by decide +kernel, by decide +kernel⟩, Or.inl ⟨rfl, by decide +kernel, xm_in 1477 (by decide +kernel) rfl, xm_ins 76 (by decide +kernel) rfl, _, rfl, rfl⟩⟩
set_option maxRecDepth 100000 in
theorem xl_X9_269 : xm_ML RX9 (269, 0, 3, 9) yX9_endsName cX9_endsName 3 none := ⟨⟨xm_in 1479 (by decide +kernel) rfl, xm_in 12 (by decide +kernel) rfl, xm_in 1482 rfl rfl, by decide⟩, ⟨by decide +kernel, by decide +kernel⟩, Or.inl ⟨rfl, by decide +kernel, xm_in 1481 (by decide +kernel) rfl, xm_ins 77 (by decide +kernel) rfl, _, rfl, rfl⟩⟩
set_option maxRecDepth 100000 in
theorem xl_X9_272 : xm_ML RX9 (272, 0, 2, 9) yX9_known cX9_known 4 (some .int) := ⟨⟨xm_in 1483 (by decide +kernel) rfl, xm_in 12 (by decide +kernel) rfl, xm_in 1486 rfl rfl, by decide⟩, ⟨by decide +kernel, by decide +kernel⟩, Or.inl ⟨rfl, by decide +kernel, xm_in 1485 (by decide +kernel) rfl, xm_ins 78 (by decide +kernel) rfl, _, rfl, rfl⟩⟩
set_option maxRecDepth 100000 in
theorem xl_X9_275 : xm_ML RX9 (275, 0, 2, 9) yX9_must cX9_must 2 none := ⟨⟨xm_in 1467 (by decide +kernel) rfl, xm_in 12 (by decide +kernel) rfl, xm_in 1470 rfl rfl, by decide⟩, ⟨by decide +kernel, by decide +kernel⟩, Or.inl ⟨rfl, by decide +kernel, xm_in 1469 (by decide +kernel) rfl, xm_ins 74 (by decide +kernel) rfl, _, rfl, rfl⟩⟩
set_option maxRecDepth 100000 in
theorem xl_X9_278 : xm_ML RX9 (278, 0, 2, 9) yX9_tellLaw cX9_tellLaw 4 none := ⟨⟨xm_in 1487 (by decide +kernel) rfl, xm_in 12 (by decide +kernel) rfl, xm_in 1490 rfl rfl, by decide⟩, ⟨by decide +kernel, by decide +kernel⟩, Or.inl ⟨rfl, by decide +kernel, xm_in 1489 (by decide +kernel) rfl, xm_ins 79 (by decide +kernel) rfl, _, rfl, rfl⟩⟩
set_option maxRecDepth 100000 in
theorem xl_X9_281 : xm_ML RX9 (281, 0, 3, 9) yX9_wrong cX9_wrong 4 none := ⟨⟨xm_in 1471 (by decide +kernel) rfl, xm_in 12 (by decide +kernel) rfl, xm_in 1474 rfl rfl, by decide⟩, ⟨by decide +kernel, by decide +kernel⟩, Or.inl ⟨rfl, by decide +kernel, xm_in 1473 (by decide +kernel) rfl, xm_ins 75 (by decide +kernel) rfl, _, rfl, rfl⟩⟩
set_option maxRecDepth 100000 in
theorem xl_X9_284 : xm_ML RX9 (284, 0, 1, 9) yX9_expression cX9_expression 3 none := ⟨⟨xm_in 1491 (by decide +kernel) rfl, xm_in 12 (by decide +kernel) rfl, xm_in 1494 rfl rfl, by decide⟩, ⟨by decide +kernel, by decide +kernel⟩, Or.inl ⟨rfl, by decide +kernel, xm_in 1493 (by decide +kernel) rfl, xm_ins 80 (by decide +kernel) rfl, _, rfl, rfl⟩⟩
set_option maxRecDepth 100000 in
theorem xl_X9_287 : xm_ML RX9 (287, 0, 1, 9) yX9_term cX9_term 1 none := ⟨⟨xm_in 1507 (by decide +kernel) rfl, xm_in 12 (by decide +kernel) rfl, xm_in 1510 rfl rfl, by decide⟩, ⟨by decide +kernel, by decide +kernel⟩, Or.inl ⟨rfl, by decide +kernel, xm_in 1509 (by decide +kernel) rfl, xm_ins 84 (by decide +kernel) rfl, _, rfl, rfl⟩⟩
set_option maxRecDepth 100000 in
theorem xl_X9_293 : xm_ML RX9 (293, 0, 3, 9) yX9_emit cX9_emit 3 none := ⟨⟨xm_in 1499 (by decide +kernel) rfl, xm_in 12 (by decide +kernel) rfl, xm_in 1502 rfl rfl, by decide⟩, ⟨by decide +kernel, by decide +kernel⟩, Or.inl ⟨rfl, by decide +kernel, xm_in 1501 (by decide +kernel) rfl, xm_ins 82 (by decide +kernel) rfl, _, rfl, rfl⟩⟩
set_option maxRecDepth 100000 in
theorem xl_X9_296 : xm_ML RX9 (296, 0, 1, 9) yX9_unit cX9_unit 1 none := ⟨⟨xm_in 1495 (by decide +kernel) rfl, xm_in 12 (by decide +kernel) rfl, xm_in 1498 rfl rfl, by decide⟩, ⟨by decide +kernel, by decide +kernel⟩, Or.inl ⟨rfl, by decide +kernel, xm_in 1497 (by decide +kernel) rfl, xm_ins 81 (by decide +kernel) rfl, _, rfl, rfl⟩⟩
set_option maxRecDepth 100000 in
theorem xl_X9_299 : xm_ML RX9 (299, 0, 2, 9) yX9_comesOut cX9_comesOut 3 none := ⟨⟨xm_in 1503 (by decide +kernel) rfl, xm_in 12 (by decide +kernel) rfl, xm_in 1506 rfl rfl, by decide⟩, ⟨by decide +kernel, by decide +kernel⟩, Or.inl ⟨rfl, by decide +kernel, xm_in 1505 (by decide +kernel) rfl, xm_ins 83 (by decide +kernel) rfl, _, rfl, rfl⟩⟩
set_option maxRecDepth 100000 in
theorem xl_X9_307 : xm_ML RX9 (307, 1, 3, 0) yX9_in cX9_in 3 (some .boolean) := ⟨⟨xm_in 1523 (by decide +kernel) rfl, xm_in 12 (by decide +kernel) rfl, xm_in 1525 rfl rfl, by decide⟩, ⟨by decide +kernel, by decide +kernel⟩, Or.inr (Or.inl ⟨rfl, by decide +kernel, xm_in 1524 (by decide +kernel) rfl⟩)⟩
set_option maxRecDepth 100000 in
theorem xl_X9_317 : xm_ML RX9 (317, 0, 3, 9) yX9_throwsUpon cX9_throwsUpon 3 none := ⟨⟨xm_in 1132 (by decide +kernel) rfl, xm_in 12 (by decide +kernel) rfl, xm_in 1135 rfl rfl, by decide⟩, ⟨by decide +kernel, by decide +kernel⟩, Or.inl ⟨rfl, by decide +kernel, xm_in 1134 (by decide +kernel) rfl, xm_ins 45 (by decide +kernel) rfl, _, rfl, rfl⟩⟩
set_option maxRecDepth 100000 in
theorem xl_X9_320 : xm_ML RX9 (320, 0, 1, 9) yX9_copies cX9_copies 2 none := ⟨⟨xm_in 1526 (by decide +kernel) rfl, xm_in 12 (by decide +kernel) rfl, xm_in 1529 rfl rfl, by decide⟩, ⟨by decide +kernel, by decide +kernel⟩, Or.inl ⟨rfl, by decide +kernel, xm_in 1528 (by decide +kernel) rfl, xm_ins 86 (by decide +kernel) rfl, _, rfl, rfl⟩⟩
set_option maxRecDepth 100000 in
theorem xl_X9_324 : xm_ML RX9 (324, 1, 2, 0) yX9_mixed cX9_mixed 3 (some .int) := ⟨⟨xm_in 1621 (by decide +kernel) rfl, xm_in 12 (by decide +kernel) rfl, xm_in 1623 rfl rfl, by decide⟩, ⟨by decide +kernel, by decide +kernel⟩, Or.inr (Or.inl ⟨rfl, by decide +kernel, xm_in 1622 (by decide +kernel) rfl⟩)⟩
set_option maxRecDepth 100000 in
theorem xl_X9_327 : xm_ML RX9 (327, 0, 3, 9) yX9_glowAt cX9_glowAt 3 (some .int) := ⟨⟨xm_in 1136 (by decide +kernel) rfl, xm_in 12 (by decide +kernel) rfl, xm_in 1139 rfl rfl, by decide⟩, ⟨by decide +kernel, by decide +kernel⟩, Or.inl ⟨rfl, by decide +kernel, xm_in 1138 (by decide +kernel) rfl, xm_ins 46 (by decide +kernel) rfl, _, rfl, rfl⟩⟩
set_option maxRecDepth 100000 in
theorem xl_X9_330 : xm_ML RX9 (330, 0, 2, 9) yX9_rightAt cX9_rightAt 2 (some .int) := ⟨⟨xm_in 1172 (by decide +kernel) rfl, xm_in 12 (by decide +kernel) rfl, xm_in 1175 rfl rfl, by decide⟩, ⟨by decide +kernel, by decide +kernel⟩, Or.inl ⟨rfl, by decide +kernel, xm_in 1174 (by decide +kernel) rfl, xm_ins 55 (by decide +kernel) rfl, _, rfl, rfl⟩⟩
set_option maxRecDepth 100000 in
theorem xl_X9_333 : xm_ML RX9 (333, 0, 2, 9) yX9_leftAt cX9_leftAt 2 (some .int) := ⟨⟨xm_in 1180 (by decide +kernel) rfl, xm_in 12 (by decide +kernel) rfl, xm_in 1183 rfl rfl, by decide⟩, ⟨by decide +kernel, by decide +kernel⟩, Or.inl ⟨rfl, by decide +kernel, xm_in 1182 (by decide +kernel) rfl, xm_ins 57 (by decide +kernel) rfl, _, rfl, rfl⟩⟩
set_option maxRecDepth 100000 in
theorem xl_X9_336 : xm_ML RX9 (336, 0, 2, 9) yX9_pictureOf cX9_pictureOf 5 (some .int) := ⟨⟨xm_in 1164 (by decide +kernel) rfl, xm_in 12 (by decide +kernel) rfl, xm_in 1167 rfl rfl, by decide⟩, ⟨by decide +kernel, by decide +kernel⟩, Or.inl ⟨rfl, by decide +kernel, xm_in 1166 (by decide +kernel) rfl, xm_ins 53 (by decide +kernel) rfl, _, rfl, rfl⟩⟩
set_option maxRecDepth 100000 in
theorem xl_X9_339 : xm_ML RX9 (339, 0, 2, 9) yX9_rightEdge cX9_rightEdge 2 (some .int) := ⟨⟨xm_in 1168 (by decide +kernel) rfl, xm_in 12 (by decide +kernel) rfl, xm_in 1171 rfl rfl, by decide⟩, ⟨by decide +kernel, by decide +kernel⟩, Or.inl ⟨rfl, by decide +kernel, xm_in 1170 (by decide +kernel) rfl, xm_ins 54 (by decide +kernel) rfl, _, rfl, rfl⟩⟩
set_option maxRecDepth 100000 in
theorem xl_X9_342 : xm_ML RX9 (342, 0, 2, 9) yX9_leftEdge cX9_leftEdge 2 (some .int) := ⟨⟨xm_in 1176 (by decide +kernel) rfl, xm_in 12 (by decide +kernel) rfl, xm_in 1179 rfl rfl, by decide⟩, ⟨by decide +kernel, by decide +kernel⟩, Or.inl ⟨rfl, by decide +kernel, xm_in 1178 (by decide +kernel) rfl, xm_ins 56 (by decide +kernel) rfl, _, rfl, rfl⟩⟩
set_option maxRecDepth 100000 in
theorem xl_X9_345 : xm_ML RX9 (345, 1, 2, 0) yX9_isFit cX9_isFit 2 (some .boolean) := ⟨⟨xm_in 1184 (by decide +kernel) rfl, xm_in 12 (by decide +kernel) rfl, xm_in 1186 rfl rfl, by decide⟩, ⟨by decide +kernel, by decide +kernel⟩, Or.inr (Or.inl ⟨rfl, by decide +kernel, xm_in 1185 (by decide +kernel) rfl⟩)⟩
set_option maxRecDepth 100000 in
theorem xl_X9_349 : xm_ML RX9 (349, 0, 3, 9) yX9_doJoin cX9_doJoin 3 (some .boolean) := ⟨⟨xm_in 1160 (by decide +kernel) rfl, xm_in 12 (by decide +kernel) rfl, xm_in 1163 rfl rfl, by decide⟩, ⟨by decide +kernel, by decide +kernel⟩, Or.inl ⟨rfl, by decide +kernel, xm_in 1162 (by decide +kernel) rfl, xm_ins 52 (by decide +kernel) rfl, _, rfl, rfl⟩⟩
set_option maxRecDepth 100000 in
theorem xl_X9_352 : xm_ML RX9 (352, 0, 2, 9) yX9_isJoined cX9_isJoined 2 (some .boolean) := ⟨⟨xm_in 1156 (by decide +kernel) rfl, xm_in 12 (by decide +kernel) rfl, xm_in 1159 rfl rfl, by decide⟩, ⟨by decide +kernel, by decide +kernel⟩, Or.inl ⟨rfl, by decide +kernel, xm_in 1158 (by decide +kernel) rfl, xm_ins 51 (by decide +kernel) rfl, _, rfl, rfl⟩⟩
set_option maxRecDepth 100000 in
theorem xl_X9_355 : xm_ML RX9 (355, 0, 3, 9) yX9_termOf cX9_termOf 8 (some .int) := ⟨⟨xm_in 1195 (by decide +kernel) rfl, xm_in 12 (by decide +kernel) rfl, xm_in 1198 rfl rfl, by decide⟩, ⟨by decide +kernel, by decide +kernel⟩, Or.inl ⟨rfl, by decide +kernel, xm_in 1197 (by decide +kernel) rfl, xm_ins 60 (by decide +kernel) rfl, _, rfl, rfl⟩⟩
set_option maxRecDepth 100000 in
theorem xl_X9_358 : xm_ML RX9 (358, 0, 2, 9) yX9_seatOf cX9_seatOf 3 (some .int) := ⟨⟨xm_in 1148 (by decide +kernel) rfl, xm_in 12 (by decide +kernel) rfl, xm_in 1151 rfl rfl, by decide⟩, ⟨by decide +kernel, by decide +kernel⟩, Or.inl ⟨rfl, by decide +kernel, xm_in 1150 (by decide +kernel) rfl, xm_ins 49 (by decide +kernel) rfl, _, rfl, rfl⟩⟩
set_option maxRecDepth 100000 in
theorem xl_X9_361 : xm_ML RX9 (361, 0, 2, 9) yX9_joinsAt cX9_joinsAt 2 (some .int) := ⟨⟨xm_in 1152 (by decide +kernel) rfl, xm_in 12 (by decide +kernel) rfl, xm_in 1155 rfl rfl, by decide⟩, ⟨by decide +kernel, by decide +kernel⟩, Or.inl ⟨rfl, by decide +kernel, xm_in 1154 (by decide +kernel) rfl, xm_ins 50 (by decide +kernel) rfl, _, rfl, rfl⟩⟩
set_option maxRecDepth 100000 in
theorem xl_X9_364 : xm_ML RX9 (364, 0, 2, 9) yX9_allGlow cX9_allGlow 4 (some .int) := ⟨⟨xm_in 1187 (by decide +kernel) rfl, xm_in 12 (by decide +kernel) rfl, xm_in 1190 rfl rfl, by decide⟩, ⟨by decide +kernel, by decide +kernel⟩, Or.inl ⟨rfl, by decide +kernel, xm_in 1189 (by decide +kernel) rfl, xm_ins 58 (by decide +kernel) rfl, _, rfl, rfl⟩⟩
set_option maxRecDepth 100000 in
theorem xl_X9_367 : xm_ML RX9 (367, 0, 3, 9) yX9_looks cX9_looks 4 none := ⟨⟨xm_in 1144 (by decide +kernel) rfl, xm_in 12 (by decide +kernel) rfl, xm_in 1147 rfl rfl, by decide⟩, ⟨by decide +kernel, by decide +kernel⟩, Or.inl ⟨rfl, by decide +kernel, xm_in 1146 (by decide +kernel) rfl, xm_ins 48 (by decide +kernel) rfl, _, rfl, rfl⟩⟩
set_option maxRecDepth 100000 in
theorem xl_X9_370 : xm_ML RX9 (370, 0, 3, 9) yX9_lawTells cX9_lawTells 7 (some .int) := ⟨⟨xm_in 1191 (by decide +kernel) rfl, xm_in 12 (by decide +kernel) rfl, xm_in 1194 rfl rfl, by decide⟩, ⟨by decide +kernel, by decide +kernel⟩, Or.inl ⟨rfl, by decide +kernel, xm_in 1193 (by decide +kernel) rfl, xm_ins 59 (by decide +kernel) rfl, _, rfl, rfl⟩⟩
set_option maxRecDepth 100000 in
theorem xl_X9_373 : xm_ML RX9 (373, 1, 3, 0) yX9_within cX9_within 3 (some .int) := ⟨⟨xm_in 1199 (by decide +kernel) rfl, xm_in 12 (by decide +kernel) rfl, xm_in 1201 rfl rfl, by decide⟩, ⟨by decide +kernel, by decide +kernel⟩, Or.inr (Or.inl ⟨rfl, by decide +kernel, xm_in 1200 (by decide +kernel) rfl⟩)⟩
set_option maxRecDepth 100000 in
theorem xl_X9_376 : xm_ML RX9 (376, 0, 2, 9) yX9_paysOf cX9_paysOf 3 (some .int) := ⟨⟨xm_in 1542 (by decide +kernel) rfl, xm_in 12 (by decide +kernel) rfl, xm_in 1545 rfl rfl, by decide⟩, ⟨by decide +kernel, by decide +kernel⟩, Or.inl ⟨rfl, by decide +kernel, xm_in 1544 (by decide +kernel) rfl, xm_ins 89 (by decide +kernel) rfl, _, rfl, rfl⟩⟩
set_option maxRecDepth 100000 in
theorem xl_X9_379 : xm_ML RX9 (379, 0, 3, 9) yX9_takesOf cX9_takesOf 3 (some .int) := ⟨⟨xm_in 1140 (by decide +kernel) rfl, xm_in 12 (by decide +kernel) rfl, xm_in 1143 rfl rfl, by decide⟩, ⟨by decide +kernel, by decide +kernel⟩, Or.inl ⟨rfl, by decide +kernel, xm_in 1142 (by decide +kernel) rfl, xm_ins 47 (by decide +kernel) rfl, _, rfl, rfl⟩⟩
set_option maxRecDepth 100000 in
theorem xl_X9_382 : xm_ML RX9 (382, 0, 2, 9) yX9_lotOf cX9_lotOf 2 (some .int) := ⟨⟨xm_in 1617 (by decide +kernel) rfl, xm_in 12 (by decide +kernel) rfl, xm_in 1620 rfl rfl, by decide⟩, ⟨by decide +kernel, by decide +kernel⟩, Or.inl ⟨rfl, by decide +kernel, xm_in 1619 (by decide +kernel) rfl, xm_ins 99 (by decide +kernel) rfl, _, rfl, rfl⟩⟩
set_option maxRecDepth 100000 in
theorem xl_X9_385 : xm_ML RX9 (385, 0, 2, 9) yX9_washesOf cX9_washesOf 2 (some .int) := ⟨⟨xm_in 1546 (by decide +kernel) rfl, xm_in 12 (by decide +kernel) rfl, xm_in 1549 rfl rfl, by decide⟩, ⟨by decide +kernel, by decide +kernel⟩, Or.inl ⟨rfl, by decide +kernel, xm_in 1548 (by decide +kernel) rfl, xm_ins 90 (by decide +kernel) rfl, _, rfl, rfl⟩⟩
set_option maxRecDepth 100000 in
theorem xl_X9_388 : xm_ML RX9 (388, 0, 2, 9) yX9_doesWash cX9_doesWash 2 (some .boolean) := ⟨⟨xm_in 1613 (by decide +kernel) rfl, xm_in 12 (by decide +kernel) rfl, xm_in 1616 rfl rfl, by decide⟩, ⟨by decide +kernel, by decide +kernel⟩, Or.inl ⟨rfl, by decide +kernel, xm_in 1615 (by decide +kernel) rfl, xm_ins 98 (by decide +kernel) rfl, _, rfl, rfl⟩⟩
set_option maxRecDepth 100000 in
theorem xl_X9_391 : xm_ML RX9 (391, 0, 1, 9) yX9_washBits cX9_washBits 3 (some .int) := ⟨⟨xm_in 1609 (by decide +kernel) rfl, xm_in 12 (by decide +kernel) rfl, xm_in 1612 rfl rfl, by decide⟩, ⟨by decide +kernel, by decide +kernel⟩, Or.inl ⟨rfl, by decide +kernel, xm_in 1611 (by decide +kernel) rfl, xm_ins 97 (by decide +kernel) rfl, _, rfl, rfl⟩⟩
set_option maxRecDepth 100000 in
theorem xl_X9_394 : xm_ML RX9 (394, 0, 1, 9) yX9_paysAll cX9_paysAll 3 (some .int) := ⟨⟨xm_in 1625 (by decide +kernel) rfl, xm_in 12 (by decide +kernel) rfl, xm_in 1628 rfl rfl, by decide⟩, ⟨by decide +kernel, by decide +kernel⟩, Or.inl ⟨rfl, by decide +kernel, xm_in 1627 (by decide +kernel) rfl, xm_ins 100 (by decide +kernel) rfl, _, rfl, rfl⟩⟩
set_option maxRecDepth 100000 in
theorem xl_X9_397 : xm_ML RX9 (397, 0, 3, 9) yX9_fadesOf cX9_fadesOf 3 (some .int) := ⟨⟨xm_in 1558 (by decide +kernel) rfl, xm_in 12 (by decide +kernel) rfl, xm_in 1561 rfl rfl, by decide⟩, ⟨by decide +kernel, by decide +kernel⟩, Or.inl ⟨rfl, by decide +kernel, xm_in 1560 (by decide +kernel) rfl, xm_ins 91 (by decide +kernel) rfl, _, rfl, rfl⟩⟩
set_option maxRecDepth 100000 in
theorem xl_X9_400 : xm_ML RX9 (400, 0, 2, 9) yX9_washesOff cX9_washesOff 3 none := ⟨⟨xm_in 1582 (by decide +kernel) rfl, xm_in 12 (by decide +kernel) rfl, xm_in 1585 rfl rfl, by decide⟩, ⟨by decide +kernel, by decide +kernel⟩, Or.inl ⟨rfl, by decide +kernel, xm_in 1584 (by decide +kernel) rfl, xm_ins 93 (by decide +kernel) rfl, _, rfl, rfl⟩⟩
set_option maxRecDepth 100000 in
theorem xl_X9_403 : xm_ML RX9 (403, 0, 1, 9) yX9_weekGoes cX9_weekGoes 5 none := ⟨⟨xm_in 1605 (by decide +kernel) rfl, xm_in 12 (by decide +kernel) rfl, xm_in 1608 rfl rfl, by decide⟩, ⟨by decide +kernel, by decide +kernel⟩, Or.inl ⟨rfl, by decide +kernel, xm_in 1607 (by decide +kernel) rfl, xm_ins 96 (by decide +kernel) rfl, _, rfl, rfl⟩⟩
set_option maxRecDepth 100000 in
theorem xl_X9_406 : xm_ML RX9 (406, 0, 2, 9) yX9_isSlide cX9_isSlide 2 (some .boolean) := ⟨⟨xm_in 1519 (by decide +kernel) rfl, xm_in 12 (by decide +kernel) rfl, xm_in 1522 rfl rfl, by decide⟩, ⟨by decide +kernel, by decide +kernel⟩, Or.inl ⟨rfl, by decide +kernel, xm_in 1521 (by decide +kernel) rfl, xm_ins 85 (by decide +kernel) rfl, _, rfl, rfl⟩⟩
set_option maxRecDepth 100000 in
theorem xl_X9_409 : xm_ML RX9 (409, 0, 2, 9) yX9_shownOn cX9_shownOn 4 (some .int) := ⟨⟨xm_in 1530 (by decide +kernel) rfl, xm_in 12 (by decide +kernel) rfl, xm_in 1533 rfl rfl, by decide⟩, ⟨by decide +kernel, by decide +kernel⟩, Or.inl ⟨rfl, by decide +kernel, xm_in 1532 (by decide +kernel) rfl, xm_ins 87 (by decide +kernel) rfl, _, rfl, rfl⟩⟩
set_option maxRecDepth 100000 in
theorem xl_X9_412 : xm_ML RX9 (412, 0, 2, 9) yX9_isPerson cX9_isPerson 2 (some .boolean) := ⟨⟨xm_in 1538 (by decide +kernel) rfl, xm_in 12 (by decide +kernel) rfl, xm_in 1541 rfl rfl, by decide⟩, ⟨by decide +kernel, by decide +kernel⟩, Or.inl ⟨rfl, by decide +kernel, xm_in 1540 (by decide +kernel) rfl, xm_ins 88 (by decide +kernel) rfl, _, rfl, rfl⟩⟩
set_option maxRecDepth 100000 in
theorem xl_X9_415 : xm_ML RX9 (415, 0, 1, 9) yX9_records cX9_records 2 none := ⟨⟨xm_in 1574 (by decide +kernel) rfl, xm_in 12 (by decide +kernel) rfl, xm_in 1577 rfl rfl, by decide⟩, ⟨by decide +kernel, by decide +kernel⟩, Or.inl ⟨rfl, by decide +kernel, xm_in 1576 (by decide +kernel) rfl, xm_ins 92 (by decide +kernel) rfl, _, rfl, rfl⟩⟩
set_option maxRecDepth 100000 in
theorem xl_X9_418 : xm_ML RX9 (418, 0, 3, 9) yX9_moves cX9_moves 5 none := ⟨⟨xm_in 1590 (by decide +kernel) rfl, xm_in 12 (by decide +kernel) rfl, xm_in 1593 rfl rfl, by decide⟩, ⟨by decide +kernel, by decide +kernel⟩, Or.inl ⟨rfl, by decide +kernel, xm_in 1592 (by decide +kernel) rfl, xm_ins 94 (by decide +kernel) rfl, _, rfl, rfl⟩⟩
set_option maxRecDepth 100000 in
theorem xl_X9_421 : xm_ML RX9 (421, 1, 1, 0) yX9_isLong cX9_isLong 1 (some .boolean) := ⟨⟨xm_in 1598 (by decide +kernel) rfl, xm_in 12 (by decide +kernel) rfl, xm_in 1600 rfl rfl, by decide⟩, ⟨by decide +kernel, by decide +kernel⟩, Or.inr (Or.inl ⟨rfl, by decide +kernel, xm_in 1599 (by decide +kernel) rfl⟩)⟩
set_option maxRecDepth 100000 in
theorem xl_X9_424 : xm_ML RX9 (424, 0, 2, 9) yX9_goes cX9_goes 3 none := ⟨⟨xm_in 1601 (by decide +kernel) rfl, xm_in 12 (by decide +kernel) rfl, xm_in 1604 rfl rfl, by decide⟩, ⟨by decide +kernel, by decide +kernel⟩, Or.inl ⟨rfl, by decide +kernel, xm_in 1603 (by decide +kernel) rfl, xm_ins 95 (by decide +kernel) rfl, _, rfl, rfl⟩⟩
set_option maxRecDepth 100000 in
theorem xl_X9_427 : xm_ML RX9 (427, 0, 1, 9) yX9_fillsJoins cX9_fillsJoins 2 none := ⟨⟨xm_in 1641 (by decide +kernel) rfl, xm_in 12 (by decide +kernel) rfl, xm_in 1644 rfl rfl, by decide⟩, ⟨by decide +kernel, by decide +kernel⟩, Or.inl ⟨rfl, by decide +kernel, xm_in 1643 (by decide +kernel) rfl, xm_ins 102 (by decide +kernel) rfl, _, rfl, rfl⟩⟩
set_option maxRecDepth 100000 in
theorem xl_X9_430 : xm_ML RX9 (430, 0, 1, 9) yX9_all cX9_all 1 (some .int) := ⟨⟨xm_in 1645 (by decide +kernel) rfl, xm_in 12 (by decide +kernel) rfl, xm_in 1648 rfl rfl, by decide⟩, ⟨by decide +kernel, by decide +kernel⟩, Or.inl ⟨rfl, by decide +kernel, xm_in 1647 (by decide +kernel) rfl, xm_ins 103 (by decide +kernel) rfl, _, rfl, rfl⟩⟩
set_option maxRecDepth 100000 in
theorem xl_X9_433 : xm_ML RX9 (433, 0, 3, 9) yX9_isLeft cX9_isLeft 3 (some .boolean) := ⟨⟨xm_in 1649 (by decide +kernel) rfl, xm_in 12 (by decide +kernel) rfl, xm_in 1652 rfl rfl, by decide⟩, ⟨by decide +kernel, by decide +kernel⟩, Or.inl ⟨rfl, by decide +kernel, xm_in 1651 (by decide +kernel) rfl, xm_ins 104 (by decide +kernel) rfl, _, rfl, rfl⟩⟩
set_option maxRecDepth 100000 in
theorem xl_X9_436 : xm_ML RX9 (436, 0, 3, 9) yX9_restWith cX9_restWith 3 (some .int) := ⟨⟨xm_in 1653 (by decide +kernel) rfl, xm_in 12 (by decide +kernel) rfl, xm_in 1656 rfl rfl, by decide⟩, ⟨by decide +kernel, by decide +kernel⟩, Or.inl ⟨rfl, by decide +kernel, xm_in 1655 (by decide +kernel) rfl, xm_ins 105 (by decide +kernel) rfl, _, rfl, rfl⟩⟩
set_option maxRecDepth 100000 in
theorem xl_X9_439 : xm_ML RX9 (439, 0, 1, 9) yX9_fillsBest cX9_fillsBest 6 none := ⟨⟨xm_in 1637 (by decide +kernel) rfl, xm_in 12 (by decide +kernel) rfl, xm_in 1640 rfl rfl, by decide⟩, ⟨by decide +kernel, by decide +kernel⟩, Or.inl ⟨rfl, by decide +kernel, xm_in 1639 (by decide +kernel) rfl, xm_ins 101 (by decide +kernel) rfl, _, rfl, rfl⟩⟩
set_option maxRecDepth 100000 in
theorem xl_X9_442 : xm_ML RX9 (442, 0, 2, 9) yX9_fillsRows cX9_fillsRows 6 none := ⟨⟨xm_in 1661 (by decide +kernel) rfl, xm_in 12 (by decide +kernel) rfl, xm_in 1664 rfl rfl, by decide⟩, ⟨by decide +kernel, by decide +kernel⟩, Or.inl ⟨rfl, by decide +kernel, xm_in 1663 (by decide +kernel) rfl, xm_ins 106 (by decide +kernel) rfl, _, rfl, rfl⟩⟩
set_option maxRecDepth 100000 in
theorem xl_X9_445 : xm_ML RX9 (445, 0, 1, 9) yX9_fillsLong cX9_fillsLong 6 none := ⟨⟨xm_in 1673 (by decide +kernel) rfl, xm_in 12 (by decide +kernel) rfl, xm_in 1676 rfl rfl, by decide⟩, ⟨by decide +kernel, by decide +kernel⟩, Or.inl ⟨rfl, by decide +kernel, xm_in 1675 (by decide +kernel) rfl, xm_ins 107 (by decide +kernel) rfl, _, rfl, rfl⟩⟩
set_option maxRecDepth 100000 in
theorem xl_X9_448 : xm_ML RX9 (448, 0, 3, 9) yX9_mendAt cX9_mendAt 3 (some .int) := ⟨⟨xm_in 1689 (by decide +kernel) rfl, xm_in 12 (by decide +kernel) rfl, xm_in 1692 rfl rfl, by decide⟩, ⟨by decide +kernel, by decide +kernel⟩, Or.inl ⟨rfl, by decide +kernel, xm_in 1691 (by decide +kernel) rfl, xm_ins 109 (by decide +kernel) rfl, _, rfl, rfl⟩⟩
set_option maxRecDepth 100000 in
theorem xl_X9_451 : xm_ML RX9 (451, 0, 1, 9) yX9_fillsMend cX9_fillsMend 5 none := ⟨⟨xm_in 1685 (by decide +kernel) rfl, xm_in 12 (by decide +kernel) rfl, xm_in 1688 rfl rfl, by decide⟩, ⟨by decide +kernel, by decide +kernel⟩, Or.inl ⟨rfl, by decide +kernel, xm_in 1687 (by decide +kernel) rfl, xm_ins 108 (by decide +kernel) rfl, _, rfl, rfl⟩⟩
set_option maxRecDepth 100000 in
theorem xl_X9_454 : xm_ML RX9 (454, 0, 4, 9) yX9_mayPut cX9_mayPut 4 (some .boolean) := ⟨⟨xm_in 1701 (by decide +kernel) rfl, xm_in 12 (by decide +kernel) rfl, xm_in 1704 rfl rfl, by decide⟩, ⟨by decide +kernel, by decide +kernel⟩, Or.inl ⟨rfl, by decide +kernel, xm_in 1703 (by decide +kernel) rfl, xm_ins 111 (by decide +kernel) rfl, _, rfl, rfl⟩⟩
set_option maxRecDepth 100000 in
theorem xl_X9_457 : xm_ML RX9 (457, 0, 3, 9) yX9_wonWith cX9_wonWith 4 (some .int) := ⟨⟨xm_in 1697 (by decide +kernel) rfl, xm_in 12 (by decide +kernel) rfl, xm_in 1700 rfl rfl, by decide⟩, ⟨by decide +kernel, by decide +kernel⟩, Or.inl ⟨rfl, by decide +kernel, xm_in 1699 (by decide +kernel) rfl, xm_ins 110 (by decide +kernel) rfl, _, rfl, rfl⟩⟩
set_option maxRecDepth 100000 in
theorem xl_X9_460 : xm_ML RX9 (460, 0, 1, 9) yX9_rowJoins cX9_rowJoins 3 (some .int) := ⟨⟨xm_in 1709 (by decide +kernel) rfl, xm_in 12 (by decide +kernel) rfl, xm_in 1712 rfl rfl, by decide⟩, ⟨by decide +kernel, by decide +kernel⟩, Or.inl ⟨rfl, by decide +kernel, xm_in 1711 (by decide +kernel) rfl, xm_ins 112 (by decide +kernel) rfl, _, rfl, rfl⟩⟩
set_option maxRecDepth 100000 in
theorem xl_X9_463 : xm_ML RX9 (463, 0, 1, 9) yX9_copiesStill cX9_copiesStill 1 none := ⟨⟨xm_in 1721 (by decide +kernel) rfl, xm_in 12 (by decide +kernel) rfl, xm_in 1724 rfl rfl, by decide⟩, ⟨by decide +kernel, by decide +kernel⟩, Or.inl ⟨rfl, by decide +kernel, xm_in 1723 (by decide +kernel) rfl, xm_ins 113 (by decide +kernel) rfl, _, rfl, rfl⟩⟩
set_option maxRecDepth 100000 in
theorem xl_X9_466 : xm_ML RX9 (466, 0, 1, 9) yX9_lonelyBits cX9_lonelyBits 3 (some .int) := ⟨⟨xm_in 1741 (by decide +kernel) rfl, xm_in 12 (by decide +kernel) rfl, xm_in 1744 rfl rfl, by decide⟩, ⟨by decide +kernel, by decide +kernel⟩, Or.inl ⟨rfl, by decide +kernel, xm_in 1743 (by decide +kernel) rfl, xm_ins 114 (by decide +kernel) rfl, _, rfl, rfl⟩⟩
set_option maxRecDepth 100000 in
theorem xl_X9_469 : xm_ML RX9 (469, 1, 1, 0) yX9_isMark cX9_isMark 1 (some .boolean) := ⟨⟨xm_in 1773 (by decide +kernel) rfl, xm_in 12 (by decide +kernel) rfl, xm_in 1775 rfl rfl, by decide⟩, ⟨by decide +kernel, by decide +kernel⟩, Or.inr (Or.inl ⟨rfl, by decide +kernel, xm_in 1774 (by decide +kernel) rfl⟩)⟩
set_option maxRecDepth 100000 in
theorem xl_X9_472 : xm_ML RX9 (472, 1, 1, 0) yX9_bits cX9_bits 3 (some .int) := ⟨⟨xm_in 1792 (by decide +kernel) rfl, xm_in 12 (by decide +kernel) rfl, xm_in 1794 rfl rfl, by decide⟩, ⟨by decide +kernel, by decide +kernel⟩, Or.inr (Or.inl ⟨rfl, by decide +kernel, xm_in 1793 (by decide +kernel) rfl⟩)⟩
set_option maxRecDepth 100000 in
theorem xl_X9_475 : xm_ML RX9 (475, 0, 3, 9) yX9_markOf cX9_markOf 3 (some .int) := ⟨⟨xm_in 1788 (by decide +kernel) rfl, xm_in 12 (by decide +kernel) rfl, xm_in 1791 rfl rfl, by decide⟩, ⟨by decide +kernel, by decide +kernel⟩, Or.inl ⟨rfl, by decide +kernel, xm_in 1790 (by decide +kernel) rfl, xm_ins 116 (by decide +kernel) rfl, _, rfl, rfl⟩⟩
set_option maxRecDepth 100000 in
theorem xl_X9_478 : xm_ML RX9 (478, 0, 2, 9) yX9_whichBits cX9_whichBits 6 (some .int) := ⟨⟨xm_in 1784 (by decide +kernel) rfl, xm_in 12 (by decide +kernel) rfl, xm_in 1787 rfl rfl, by decide⟩, ⟨by decide +kernel, by decide +kernel⟩, Or.inl ⟨rfl, by decide +kernel, xm_in 1786 (by decide +kernel) rfl, xm_ins 115 (by decide +kernel) rfl, _, rfl, rfl⟩⟩
set_option maxRecDepth 100000 in
theorem xl_J0_335 : xm_ML RJ0 (335, 3, 1, 0) yJ0_coder_7d493 cJ0_coder_7d493 1 (some .byte) := ⟨⟨xm_in 542 (by decide +kernel) rfl, xm_in 13 (by decide +kernel) rfl, xm_in 545 rfl rfl, by decide⟩, ⟨by decide +kernel, by decide +kernel⟩, Or.inr (Or.inr ⟨rfl, by decide +kernel, xm_in 543 (by decide +kernel) rfl, xm_in 544 (by decide +kernel) rfl, rfl⟩)⟩
set_option maxRecDepth 100000 in
theorem xl_J0_492 : xm_ML RJ0 (492, 3, 1, 0) yJ0_isLatin1_aae02 cJ0_isLatin1_aae02 1 (some .boolean) := ⟨⟨xm_in 484 (by decide +kernel) rfl, xm_in 13 (by decide +kernel) rfl, xm_in 487 rfl rfl, by decide⟩, ⟨by decide +kernel, by decide +kernel⟩, Or.inr (Or.inr ⟨rfl, by decide +kernel, xm_in 485 (by decide +kernel) rfl, xm_in 486 (by decide +kernel) rfl, rfl⟩)⟩
set_option maxRecDepth 100000 in
theorem xl_J0_495 : xm_ML RJ0 (495, 1, 2, 0) yJ1_charAt_3b067 cJ1_charAt_3b067 2 (some .char) := ⟨⟨xm_in 490 (by decide +kernel) rfl, xm_in 14 (by decide +kernel) rfl, xm_in 492 rfl rfl, by decide⟩, ⟨by decide +kernel, by decide +kernel⟩, Or.inr (Or.inl ⟨rfl, by decide +kernel, xm_in 491 (by decide +kernel) rfl⟩)⟩
set_option maxRecDepth 100000 in
theorem xl_J0_633 : xm_ML RJ0 (633, 3, 3, 0) yJ0_indexOf_7cf53 cJ0_indexOf_7cf53 3 (some .int) := ⟨⟨xm_in 534 (by decide +kernel) rfl, xm_in 13 (by decide +kernel) rfl, xm_in 537 rfl rfl, by decide⟩, ⟨by decide +kernel, by decide +kernel⟩, Or.inr (Or.inr ⟨rfl, by decide +kernel, xm_in 535 (by decide +kernel) rfl, xm_in 536 (by decide +kernel) rfl, rfl⟩)⟩
set_option maxRecDepth 100000 in
theorem xl_J0_505 : xm_ML RJ0 (505, 3, 1, 0) yJ0_length_8abf5 cJ0_length_8abf5 1 (some .int) := ⟨⟨xm_in 538 (by decide +kernel) rfl, xm_in 13 (by decide +kernel) rfl, xm_in 541 rfl rfl, by decide⟩, ⟨by decide +kernel, by decide +kernel⟩, Or.inr (Or.inr ⟨rfl, by decide +kernel, xm_in 539 (by decide +kernel) rfl, xm_in 540 (by decide +kernel) rfl, rfl⟩)⟩
set_option maxRecDepth 100000 in
theorem xl_J0_637 : xm_ML RJ0 (637, 1, 4, 0) yJ1_indexOf_4cfef cJ1_indexOf_4cfef 4 (some .int) := ⟨⟨xm_in 546 (by decide +kernel) rfl, xm_in 14 (by decide +kernel) rfl, xm_in 548 rfl rfl, by decide⟩, ⟨by decide +kernel, by decide +kernel⟩, Or.inr (Or.inl ⟨rfl, by decide +kernel, xm_in 547 (by decide +kernel) rfl⟩)⟩
set_option maxRecDepth 100000 in
theorem xl_J0_1059 : xm_ML RJ0 (1059, 1, 3, 0) yJ3_checkIndex_8e157 cJ3_checkIndex_8e157 3 (some .int) := ⟨⟨xm_in 498 (by decide +kernel) rfl, xm_in 15 (by decide +kernel) rfl, xm_in 500 rfl rfl, by decide⟩, ⟨by decide +kernel, by decide +kernel⟩, Or.inr (Or.inl ⟨rfl, by decide +kernel, xm_in 499 (by decide +kernel) rfl⟩)⟩
set_option maxRecDepth 100000 in
theorem xl_J1_9 : xm_ML RJ1 (9, 1, 2, 0) yJ0_checkIndex_df160 cJ0_checkIndex_df160 2 none := ⟨⟨xm_in 493 (by decide +kernel) rfl, xm_in 13 (by decide +kernel) rfl, xm_in 495 rfl rfl, by decide⟩, ⟨by decide +kernel, by decide +kernel⟩, Or.inr (Or.inl ⟨rfl, by decide +kernel, xm_in 494 (by decide +kernel) rfl⟩)⟩
set_option maxRecDepth 100000 in
theorem xl_J1_88 : xm_ML RJ1 (88, 1, 1, 0) yJ1_canEncode_9a6ad cJ1_canEncode_9a6ad 1 (some .boolean) := ⟨⟨xm_in 549 (by decide +kernel) rfl, xm_in 14 (by decide +kernel) rfl, xm_in 551 rfl rfl, by decide⟩, ⟨by decide +kernel, by decide +kernel⟩, Or.inr (Or.inl ⟨rfl, by decide +kernel, xm_in 550 (by decide +kernel) rfl⟩)⟩
set_option maxRecDepth 100000 in
theorem xl_J1_92 : xm_ML RJ1 (92, 1, 2, 0) yJ9_max_7cf53 cJ9_max_7cf53 2 (some .int) := ⟨⟨xm_in 552 (by decide +kernel) rfl, xm_in 8 (by decide +kernel) rfl, xm_in 308 rfl rfl, by decide⟩, ⟨by decide +kernel, by decide +kernel⟩, Or.inr (Or.inl ⟨rfl, by decide +kernel, xm_in 307 (by decide +kernel) rfl⟩)⟩
set_option maxRecDepth 100000 in
theorem xl_J1_38 : xm_ML RJ1 (38, 1, 2, 0) yJ9_min_7cf53 cJ9_min_7cf53 2 (some .int) := ⟨⟨xm_in 553 (by decide +kernel) rfl, xm_in 8 (by decide +kernel) rfl, xm_in 317 rfl rfl, by decide⟩, ⟨by decide +kernel, by decide +kernel⟩, Or.inr (Or.inl ⟨rfl, by decide +kernel, xm_in 316 (by decide +kernel) rfl⟩)⟩
set_option maxRecDepth 100000 in
theorem xl_J1_95 : xm_ML RJ1 (95, 1, 4, 0) yJ1_indexOfChar_4cfef cJ1_indexOfChar_4cfef 6 (some .int) := ⟨⟨xm_in 554 (by decide +kernel) rfl, xm_in 14 (by decide +kernel) rfl, xm_in 556 rfl rfl, by decide⟩, ⟨by decide +kernel, by decide +kernel⟩, Or.inr (Or.inl ⟨rfl, by decide +kernel, xm_in 555 (by decide +kernel) rfl⟩)⟩
