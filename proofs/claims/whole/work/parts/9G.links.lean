-- THE LAW: its links
set_option maxRecDepth 100000 in
theorem zk_13 : xm_ML RL (13, 0, 6, 8) yX8_feed cX8_feed 6 (some .int) := ⟨⟨xm_in 426 (by decide +kernel) rfl, xm_in 1 (by decide +kernel) rfl, xm_in 429 rfl rfl, by decide⟩, ⟨by decide +kernel, by decide +kernel⟩, Or.inl ⟨rfl, by decide +kernel, xm_in 427 (by decide +kernel) rfl, xm_in 428 (by decide +kernel) rfl, _, rfl, rfl⟩⟩
set_option maxRecDepth 100000 in
theorem zk_17 : xm_ML RL (17, 0, 6, 9) yX9_feed cX9_feed 6 (some .int) := ⟨⟨xm_in 1401 (by decide +kernel) rfl, xm_in 12 (by decide +kernel) rfl, xm_in 1404 rfl rfl, by decide⟩, ⟨by decide +kernel, by decide +kernel⟩, Or.inl ⟨rfl, by decide +kernel, xm_in 1402 (by decide +kernel) rfl, xm_in 1403 (by decide +kernel) rfl, _, rfl, rfl⟩⟩
set_option maxRecDepth 100000 in
theorem zk_18 : xm_ML RL (18, 0, 2, 8) yX8_back cX8_back 2 (some .int) := ⟨⟨xm_in 434 (by decide +kernel) rfl, xm_in 1 (by decide +kernel) rfl, xm_in 437 rfl rfl, by decide⟩, ⟨by decide +kernel, by decide +kernel⟩, Or.inl ⟨rfl, by decide +kernel, xm_in 435 (by decide +kernel) rfl, xm_in 436 (by decide +kernel) rfl, _, rfl, rfl⟩⟩
set_option maxRecDepth 100000 in
theorem zk_22 : xm_ML RL (22, 0, 2, 9) yX9_back cX9_back 2 (some .int) := ⟨⟨xm_in 1409 (by decide +kernel) rfl, xm_in 12 (by decide +kernel) rfl, xm_in 1412 rfl rfl, by decide⟩, ⟨by decide +kernel, by decide +kernel⟩, Or.inl ⟨rfl, by decide +kernel, xm_in 1410 (by decide +kernel) rfl, xm_in 1411 (by decide +kernel) rfl, _, rfl, rfl⟩⟩
set_option maxRecDepth 100000 in
theorem zk_23 : xm_ML RL (23, 0, 1, 8) yX8_read cX8_read 2 (some .int) := ⟨⟨xm_in 438 (by decide +kernel) rfl, xm_in 1 (by decide +kernel) rfl, xm_in 441 rfl rfl, by decide⟩, ⟨by decide +kernel, by decide +kernel⟩, Or.inl ⟨rfl, by decide +kernel, xm_in 439 (by decide +kernel) rfl, xm_in 440 (by decide +kernel) rfl, _, rfl, rfl⟩⟩
set_option maxRecDepth 100000 in
theorem zk_27 : xm_ML RL (27, 0, 1, 9) yX9_read cX9_read 2 (some .int) := ⟨⟨xm_in 1413 (by decide +kernel) rfl, xm_in 12 (by decide +kernel) rfl, xm_in 1416 rfl rfl, by decide⟩, ⟨by decide +kernel, by decide +kernel⟩, Or.inl ⟨rfl, by decide +kernel, xm_in 1414 (by decide +kernel) rfl, xm_in 1415 (by decide +kernel) rfl, _, rfl, rfl⟩⟩
set_option maxRecDepth 100000 in
theorem zk_28 : xm_ML RL (28, 0, 1, 8) yX8_place cX8_place 1 (some .int) := ⟨⟨xm_in 707 (by decide +kernel) rfl, xm_in 1 (by decide +kernel) rfl, xm_in 710 rfl rfl, by decide⟩, ⟨by decide +kernel, by decide +kernel⟩, Or.inl ⟨rfl, by decide +kernel, xm_in 708 (by decide +kernel) rfl, xm_in 709 (by decide +kernel) rfl, _, rfl, rfl⟩⟩
set_option maxRecDepth 100000 in
theorem zk_31 : xm_ML RL (31, 0, 1, 9) yX9_place cX9_place 1 (some .int) := ⟨⟨xm_in 1511 (by decide +kernel) rfl, xm_in 12 (by decide +kernel) rfl, xm_in 1514 rfl rfl, by decide⟩, ⟨by decide +kernel, by decide +kernel⟩, Or.inl ⟨rfl, by decide +kernel, xm_in 1512 (by decide +kernel) rfl, xm_in 1513 (by decide +kernel) rfl, _, rfl, rfl⟩⟩
set_option maxRecDepth 100000 in
theorem zk_32 : xm_ML RL (32, 0, 3, 8) yX8_slide cX8_slide 3 (some .int) := ⟨⟨xm_in 711 (by decide +kernel) rfl, xm_in 1 (by decide +kernel) rfl, xm_in 714 rfl rfl, by decide⟩, ⟨by decide +kernel, by decide +kernel⟩, Or.inl ⟨rfl, by decide +kernel, xm_in 712 (by decide +kernel) rfl, xm_in 713 (by decide +kernel) rfl, _, rfl, rfl⟩⟩
set_option maxRecDepth 100000 in
theorem zk_36 : xm_ML RL (36, 0, 3, 9) yX9_slide cX9_slide 3 (some .int) := ⟨⟨xm_in 1515 (by decide +kernel) rfl, xm_in 12 (by decide +kernel) rfl, xm_in 1518 rfl rfl, by decide⟩, ⟨by decide +kernel, by decide +kernel⟩, Or.inl ⟨rfl, by decide +kernel, xm_in 1516 (by decide +kernel) rfl, xm_in 1517 (by decide +kernel) rfl, _, rfl, rfl⟩⟩
set_option maxRecDepth 100000 in
theorem zk_37 : xm_ML RL (37, 0, 3, 8) yX8_person cX8_person 3 (some .int) := ⟨⟨xm_in 723 (by decide +kernel) rfl, xm_in 1 (by decide +kernel) rfl, xm_in 726 rfl rfl, by decide⟩, ⟨by decide +kernel, by decide +kernel⟩, Or.inl ⟨rfl, by decide +kernel, xm_in 724 (by decide +kernel) rfl, xm_in 725 (by decide +kernel) rfl, _, rfl, rfl⟩⟩
set_option maxRecDepth 100000 in
theorem zk_40 : xm_ML RL (40, 0, 3, 9) yX9_person cX9_person 3 (some .int) := ⟨⟨xm_in 1534 (by decide +kernel) rfl, xm_in 12 (by decide +kernel) rfl, xm_in 1537 rfl rfl, by decide⟩, ⟨by decide +kernel, by decide +kernel⟩, Or.inl ⟨rfl, by decide +kernel, xm_in 1535 (by decide +kernel) rfl, xm_in 1536 (by decide +kernel) rfl, _, rfl, rfl⟩⟩
set_option maxRecDepth 100000 in
theorem zk_41 : xm_ML RL (41, 0, 3, 8) yX8_glow cX8_glow 3 (some .int) := ⟨⟨xm_in 739 (by decide +kernel) rfl, xm_in 1 (by decide +kernel) rfl, xm_in 742 rfl rfl, by decide⟩, ⟨by decide +kernel, by decide +kernel⟩, Or.inl ⟨rfl, by decide +kernel, xm_in 740 (by decide +kernel) rfl, xm_in 741 (by decide +kernel) rfl, _, rfl, rfl⟩⟩
set_option maxRecDepth 100000 in
theorem zk_44 : xm_ML RL (44, 0, 3, 9) yX9_glow cX9_glow 3 (some .int) := ⟨⟨xm_in 1550 (by decide +kernel) rfl, xm_in 12 (by decide +kernel) rfl, xm_in 1553 rfl rfl, by decide⟩, ⟨by decide +kernel, by decide +kernel⟩, Or.inl ⟨rfl, by decide +kernel, xm_in 1551 (by decide +kernel) rfl, xm_in 1552 (by decide +kernel) rfl, _, rfl, rfl⟩⟩
set_option maxRecDepth 100000 in
theorem zk_45 : xm_ML RL (45, 0, 4, 8) yX8_tells cX8_tells 4 (some .int) := ⟨⟨xm_in 744 (by decide +kernel) rfl, xm_in 1 (by decide +kernel) rfl, xm_in 747 rfl rfl, by decide⟩, ⟨by decide +kernel, by decide +kernel⟩, Or.inl ⟨rfl, by decide +kernel, xm_in 745 (by decide +kernel) rfl, xm_in 746 (by decide +kernel) rfl, _, rfl, rfl⟩⟩
set_option maxRecDepth 100000 in
theorem zk_49 : xm_ML RL (49, 0, 4, 9) yX9_tells cX9_tells 4 (some .int) := ⟨⟨xm_in 1554 (by decide +kernel) rfl, xm_in 12 (by decide +kernel) rfl, xm_in 1557 rfl rfl, by decide⟩, ⟨by decide +kernel, by decide +kernel⟩, Or.inl ⟨rfl, by decide +kernel, xm_in 1555 (by decide +kernel) rfl, xm_in 1556 (by decide +kernel) rfl, _, rfl, rfl⟩⟩
set_option maxRecDepth 100000 in
theorem zk_50 : xm_ML RL (50, 0, 3, 8) yX8_join cX8_join 3 (some .int) := ⟨⟨xm_in 753 (by decide +kernel) rfl, xm_in 1 (by decide +kernel) rfl, xm_in 756 rfl rfl, by decide⟩, ⟨by decide +kernel, by decide +kernel⟩, Or.inl ⟨rfl, by decide +kernel, xm_in 754 (by decide +kernel) rfl, xm_in 755 (by decide +kernel) rfl, _, rfl, rfl⟩⟩
set_option maxRecDepth 100000 in
theorem zk_53 : xm_ML RL (53, 0, 3, 9) yX9_join cX9_join 3 (some .int) := ⟨⟨xm_in 1562 (by decide +kernel) rfl, xm_in 12 (by decide +kernel) rfl, xm_in 1565 rfl rfl, by decide⟩, ⟨by decide +kernel, by decide +kernel⟩, Or.inl ⟨rfl, by decide +kernel, xm_in 1563 (by decide +kernel) rfl, xm_in 1564 (by decide +kernel) rfl, _, rfl, rfl⟩⟩
set_option maxRecDepth 100000 in
theorem zk_54 : xm_ML RL (54, 0, 2, 8) yX8_seat cX8_seat 2 (some .int) := ⟨⟨xm_in 758 (by decide +kernel) rfl, xm_in 1 (by decide +kernel) rfl, xm_in 761 rfl rfl, by decide⟩, ⟨by decide +kernel, by decide +kernel⟩, Or.inl ⟨rfl, by decide +kernel, xm_in 759 (by decide +kernel) rfl, xm_in 760 (by decide +kernel) rfl, _, rfl, rfl⟩⟩
set_option maxRecDepth 100000 in
theorem zk_57 : xm_ML RL (57, 0, 2, 9) yX9_seat cX9_seat 2 (some .int) := ⟨⟨xm_in 1566 (by decide +kernel) rfl, xm_in 12 (by decide +kernel) rfl, xm_in 1569 rfl rfl, by decide⟩, ⟨by decide +kernel, by decide +kernel⟩, Or.inl ⟨rfl, by decide +kernel, xm_in 1567 (by decide +kernel) rfl, xm_in 1568 (by decide +kernel) rfl, _, rfl, rfl⟩⟩
set_option maxRecDepth 100000 in
theorem zk_58 : xm_ML RL (58, 0, 3, 8) yX8_show cX8_show 3 (some .int) := ⟨⟨xm_in 762 (by decide +kernel) rfl, xm_in 1 (by decide +kernel) rfl, xm_in 765 rfl rfl, by decide⟩, ⟨by decide +kernel, by decide +kernel⟩, Or.inl ⟨rfl, by decide +kernel, xm_in 763 (by decide +kernel) rfl, xm_in 764 (by decide +kernel) rfl, _, rfl, rfl⟩⟩
set_option maxRecDepth 100000 in
theorem zk_61 : xm_ML RL (61, 0, 3, 9) yX9_show cX9_show 3 (some .int) := ⟨⟨xm_in 1570 (by decide +kernel) rfl, xm_in 12 (by decide +kernel) rfl, xm_in 1573 rfl rfl, by decide⟩, ⟨by decide +kernel, by decide +kernel⟩, Or.inl ⟨rfl, by decide +kernel, xm_in 1571 (by decide +kernel) rfl, xm_in 1572 (by decide +kernel) rfl, _, rfl, rfl⟩⟩
set_option maxRecDepth 100000 in
theorem zk_62 : xm_ML RL (62, 0, 2, 8) yX8_wash cX8_wash 2 (some .int) := ⟨⟨xm_in 778 (by decide +kernel) rfl, xm_in 1 (by decide +kernel) rfl, xm_in 781 rfl rfl, by decide⟩, ⟨by decide +kernel, by decide +kernel⟩, Or.inl ⟨rfl, by decide +kernel, xm_in 779 (by decide +kernel) rfl, xm_in 780 (by decide +kernel) rfl, _, rfl, rfl⟩⟩
set_option maxRecDepth 100000 in
theorem zk_65 : xm_ML RL (65, 0, 2, 9) yX9_wash cX9_wash 2 (some .int) := ⟨⟨xm_in 1578 (by decide +kernel) rfl, xm_in 12 (by decide +kernel) rfl, xm_in 1581 rfl rfl, by decide⟩, ⟨by decide +kernel, by decide +kernel⟩, Or.inl ⟨rfl, by decide +kernel, xm_in 1579 (by decide +kernel) rfl, xm_in 1580 (by decide +kernel) rfl, _, rfl, rfl⟩⟩
set_option maxRecDepth 100000 in
theorem zk_66 : xm_ML RL (66, 0, 3, 8) yX8_go cX8_go 3 (some .boolean) := ⟨⟨xm_in 787 (by decide +kernel) rfl, xm_in 1 (by decide +kernel) rfl, xm_in 790 rfl rfl, by decide⟩, ⟨by decide +kernel, by decide +kernel⟩, Or.inl ⟨rfl, by decide +kernel, xm_in 788 (by decide +kernel) rfl, xm_in 789 (by decide +kernel) rfl, _, rfl, rfl⟩⟩
set_option maxRecDepth 100000 in
theorem zk_70 : xm_ML RL (70, 0, 3, 9) yX9_go cX9_go 3 (some .boolean) := ⟨⟨xm_in 1586 (by decide +kernel) rfl, xm_in 12 (by decide +kernel) rfl, xm_in 1589 rfl rfl, by decide⟩, ⟨by decide +kernel, by decide +kernel⟩, Or.inl ⟨rfl, by decide +kernel, xm_in 1587 (by decide +kernel) rfl, xm_in 1588 (by decide +kernel) rfl, _, rfl, rfl⟩⟩
set_option maxRecDepth 100000 in
theorem zk_71 : xm_ML RL (71, 0, 2, 8) yX8_weeks cX8_weeks 3 (some .int) := ⟨⟨xm_in 795 (by decide +kernel) rfl, xm_in 1 (by decide +kernel) rfl, xm_in 798 rfl rfl, by decide⟩, ⟨by decide +kernel, by decide +kernel⟩, Or.inl ⟨rfl, by decide +kernel, xm_in 796 (by decide +kernel) rfl, xm_in 797 (by decide +kernel) rfl, _, rfl, rfl⟩⟩
set_option maxRecDepth 100000 in
theorem zk_74 : xm_ML RL (74, 0, 2, 9) yX9_weeks cX9_weeks 2 (some .int) := ⟨⟨xm_in 1594 (by decide +kernel) rfl, xm_in 12 (by decide +kernel) rfl, xm_in 1597 rfl rfl, by decide⟩, ⟨by decide +kernel, by decide +kernel⟩, Or.inl ⟨rfl, by decide +kernel, xm_in 1595 (by decide +kernel) rfl, xm_in 1596 (by decide +kernel) rfl, _, rfl, rfl⟩⟩
set_option maxRecDepth 100000 in
theorem zk_75 : xm_ML RL (75, 0, 1, 8) yX8_undo cX8_undo 1 (some .boolean) := ⟨⟨xm_in 825 (by decide +kernel) rfl, xm_in 1 (by decide +kernel) rfl, xm_in 828 rfl rfl, by decide⟩, ⟨by decide +kernel, by decide +kernel⟩, Or.inl ⟨rfl, by decide +kernel, xm_in 826 (by decide +kernel) rfl, xm_in 827 (by decide +kernel) rfl, _, rfl, rfl⟩⟩
set_option maxRecDepth 100000 in
theorem zk_79 : xm_ML RL (79, 0, 1, 9) yX9_undo cX9_undo 2 (some .boolean) := ⟨⟨xm_in 1629 (by decide +kernel) rfl, xm_in 12 (by decide +kernel) rfl, xm_in 1632 rfl rfl, by decide⟩, ⟨by decide +kernel, by decide +kernel⟩, Or.inl ⟨rfl, by decide +kernel, xm_in 1630 (by decide +kernel) rfl, xm_in 1631 (by decide +kernel) rfl, _, rfl, rfl⟩⟩
set_option maxRecDepth 100000 in
theorem zk_80 : xm_ML RL (80, 0, 2, 8) yX8_bestRow cX8_bestRow 2 (some .int) := ⟨⟨xm_in 838 (by decide +kernel) rfl, xm_in 1 (by decide +kernel) rfl, xm_in 841 rfl rfl, by decide⟩, ⟨by decide +kernel, by decide +kernel⟩, Or.inl ⟨rfl, by decide +kernel, xm_in 839 (by decide +kernel) rfl, xm_in 840 (by decide +kernel) rfl, _, rfl, rfl⟩⟩
set_option maxRecDepth 100000 in
theorem zk_83 : xm_ML RL (83, 0, 2, 9) yX9_bestRow cX9_bestRow 7 (some .int) := ⟨⟨xm_in 1633 (by decide +kernel) rfl, xm_in 12 (by decide +kernel) rfl, xm_in 1636 rfl rfl, by decide⟩, ⟨by decide +kernel, by decide +kernel⟩, Or.inl ⟨rfl, by decide +kernel, xm_in 1634 (by decide +kernel) rfl, xm_in 1635 (by decide +kernel) rfl, _, rfl, rfl⟩⟩
set_option maxRecDepth 100000 in
theorem zk_84 : xm_ML RL (84, 0, 1, 8) yX8_fullRows cX8_fullRows 1 (some .int) := ⟨⟨xm_in 864 (by decide +kernel) rfl, xm_in 1 (by decide +kernel) rfl, xm_in 867 rfl rfl, by decide⟩, ⟨by decide +kernel, by decide +kernel⟩, Or.inl ⟨rfl, by decide +kernel, xm_in 865 (by decide +kernel) rfl, xm_in 866 (by decide +kernel) rfl, _, rfl, rfl⟩⟩
set_option maxRecDepth 100000 in
theorem zk_87 : xm_ML RL (87, 0, 1, 9) yX9_fullRows cX9_fullRows 3 (some .int) := ⟨⟨xm_in 1657 (by decide +kernel) rfl, xm_in 12 (by decide +kernel) rfl, xm_in 1660 rfl rfl, by decide⟩, ⟨by decide +kernel, by decide +kernel⟩, Or.inl ⟨rfl, by decide +kernel, xm_in 1658 (by decide +kernel) rfl, xm_in 1659 (by decide +kernel) rfl, _, rfl, rfl⟩⟩
set_option maxRecDepth 100000 in
theorem zk_88 : xm_ML RL (88, 0, 1, 8) yX8_rings cX8_rings 1 (some .int) := ⟨⟨xm_in 880 (by decide +kernel) rfl, xm_in 1 (by decide +kernel) rfl, xm_in 883 rfl rfl, by decide⟩, ⟨by decide +kernel, by decide +kernel⟩, Or.inl ⟨rfl, by decide +kernel, xm_in 881 (by decide +kernel) rfl, xm_in 882 (by decide +kernel) rfl, _, rfl, rfl⟩⟩
set_option maxRecDepth 100000 in
theorem zk_91 : xm_ML RL (91, 0, 1, 9) yX9_rings cX9_rings 3 (some .int) := ⟨⟨xm_in 1665 (by decide +kernel) rfl, xm_in 12 (by decide +kernel) rfl, xm_in 1668 rfl rfl, by decide⟩, ⟨by decide +kernel, by decide +kernel⟩, Or.inl ⟨rfl, by decide +kernel, xm_in 1666 (by decide +kernel) rfl, xm_in 1667 (by decide +kernel) rfl, _, rfl, rfl⟩⟩
set_option maxRecDepth 100000 in
theorem zk_92 : xm_ML RL (92, 0, 2, 8) yX8_longest cX8_longest 2 (some .int) := ⟨⟨xm_in 884 (by decide +kernel) rfl, xm_in 1 (by decide +kernel) rfl, xm_in 887 rfl rfl, by decide⟩, ⟨by decide +kernel, by decide +kernel⟩, Or.inl ⟨rfl, by decide +kernel, xm_in 885 (by decide +kernel) rfl, xm_in 886 (by decide +kernel) rfl, _, rfl, rfl⟩⟩
set_option maxRecDepth 100000 in
theorem zk_95 : xm_ML RL (95, 0, 2, 9) yX9_longest cX9_longest 7 (some .int) := ⟨⟨xm_in 1669 (by decide +kernel) rfl, xm_in 12 (by decide +kernel) rfl, xm_in 1672 rfl rfl, by decide⟩, ⟨by decide +kernel, by decide +kernel⟩, Or.inl ⟨rfl, by decide +kernel, xm_in 1670 (by decide +kernel) rfl, xm_in 1671 (by decide +kernel) rfl, _, rfl, rfl⟩⟩
set_option maxRecDepth 100000 in
theorem zk_96 : xm_ML RL (96, 0, 3, 8) yX8_way cX8_way 3 (some .int) := ⟨⟨xm_in 896 (by decide +kernel) rfl, xm_in 1 (by decide +kernel) rfl, xm_in 899 rfl rfl, by decide⟩, ⟨by decide +kernel, by decide +kernel⟩, Or.inl ⟨rfl, by decide +kernel, xm_in 897 (by decide +kernel) rfl, xm_in 898 (by decide +kernel) rfl, _, rfl, rfl⟩⟩
set_option maxRecDepth 100000 in
theorem zk_99 : xm_ML RL (99, 0, 3, 9) yX9_way cX9_way 7 (some .int) := ⟨⟨xm_in 1677 (by decide +kernel) rfl, xm_in 12 (by decide +kernel) rfl, xm_in 1680 rfl rfl, by decide⟩, ⟨by decide +kernel, by decide +kernel⟩, Or.inl ⟨rfl, by decide +kernel, xm_in 1678 (by decide +kernel) rfl, xm_in 1679 (by decide +kernel) rfl, _, rfl, rfl⟩⟩
set_option maxRecDepth 100000 in
theorem zk_100 : xm_ML RL (100, 0, 2, 8) yX8_mend cX8_mend 2 (some .int) := ⟨⟨xm_in 908 (by decide +kernel) rfl, xm_in 1 (by decide +kernel) rfl, xm_in 911 rfl rfl, by decide⟩, ⟨by decide +kernel, by decide +kernel⟩, Or.inl ⟨rfl, by decide +kernel, xm_in 909 (by decide +kernel) rfl, xm_in 910 (by decide +kernel) rfl, _, rfl, rfl⟩⟩
set_option maxRecDepth 100000 in
theorem zk_103 : xm_ML RL (103, 0, 2, 9) yX9_mend cX9_mend 6 (some .int) := ⟨⟨xm_in 1681 (by decide +kernel) rfl, xm_in 12 (by decide +kernel) rfl, xm_in 1684 rfl rfl, by decide⟩, ⟨by decide +kernel, by decide +kernel⟩, Or.inl ⟨rfl, by decide +kernel, xm_in 1682 (by decide +kernel) rfl, xm_in 1683 (by decide +kernel) rfl, _, rfl, rfl⟩⟩
set_option maxRecDepth 100000 in
theorem zk_104 : xm_ML RL (104, 0, 2, 8) yX8_game cX8_game 3 (some .int) := ⟨⟨xm_in 925 (by decide +kernel) rfl, xm_in 1 (by decide +kernel) rfl, xm_in 928 rfl rfl, by decide⟩, ⟨by decide +kernel, by decide +kernel⟩, Or.inl ⟨rfl, by decide +kernel, xm_in 926 (by decide +kernel) rfl, xm_in 927 (by decide +kernel) rfl, _, rfl, rfl⟩⟩
set_option maxRecDepth 100000 in
theorem zk_107 : xm_ML RL (107, 0, 2, 9) yX9_game cX9_game 4 (some .int) := ⟨⟨xm_in 1693 (by decide +kernel) rfl, xm_in 12 (by decide +kernel) rfl, xm_in 1696 rfl rfl, by decide⟩, ⟨by decide +kernel, by decide +kernel⟩, Or.inl ⟨rfl, by decide +kernel, xm_in 1694 (by decide +kernel) rfl, xm_in 1695 (by decide +kernel) rfl, _, rfl, rfl⟩⟩
set_option maxRecDepth 100000 in
theorem zk_108 : xm_ML RL (108, 0, 3, 8) yX8_best cX8_best 7 (some .int) := ⟨⟨xm_in 937 (by decide +kernel) rfl, xm_in 1 (by decide +kernel) rfl, xm_in 940 rfl rfl, by decide⟩, ⟨by decide +kernel, by decide +kernel⟩, Or.inl ⟨rfl, by decide +kernel, xm_in 938 (by decide +kernel) rfl, xm_in 939 (by decide +kernel) rfl, _, rfl, rfl⟩⟩
set_option maxRecDepth 100000 in
theorem zk_111 : xm_ML RL (111, 0, 3, 9) yX9_best cX9_best 6 (some .int) := ⟨⟨xm_in 1705 (by decide +kernel) rfl, xm_in 12 (by decide +kernel) rfl, xm_in 1708 rfl rfl, by decide⟩, ⟨by decide +kernel, by decide +kernel⟩, Or.inl ⟨rfl, by decide +kernel, xm_in 1706 (by decide +kernel) rfl, xm_in 1707 (by decide +kernel) rfl, _, rfl, rfl⟩⟩
set_option maxRecDepth 100000 in
theorem zk_112 : xm_ML RL (112, 0, 3, 8) yX8_where cX8_where 7 (some .int) := ⟨⟨xm_in 950 (by decide +kernel) rfl, xm_in 1 (by decide +kernel) rfl, xm_in 953 rfl rfl, by decide⟩, ⟨by decide +kernel, by decide +kernel⟩, Or.inl ⟨rfl, by decide +kernel, xm_in 951 (by decide +kernel) rfl, xm_in 952 (by decide +kernel) rfl, _, rfl, rfl⟩⟩
set_option maxRecDepth 100000 in
theorem zk_115 : xm_ML RL (115, 0, 3, 9) yX9_where cX9_where 6 (some .int) := ⟨⟨xm_in 1713 (by decide +kernel) rfl, xm_in 12 (by decide +kernel) rfl, xm_in 1716 rfl rfl, by decide⟩, ⟨by decide +kernel, by decide +kernel⟩, Or.inl ⟨rfl, by decide +kernel, xm_in 1714 (by decide +kernel) rfl, xm_in 1715 (by decide +kernel) rfl, _, rfl, rfl⟩⟩
set_option maxRecDepth 100000 in
theorem zk_116 : xm_ML RL (116, 0, 2, 8) yX8_worth cX8_worth 2 (some .int) := ⟨⟨xm_in 954 (by decide +kernel) rfl, xm_in 1 (by decide +kernel) rfl, xm_in 957 rfl rfl, by decide⟩, ⟨by decide +kernel, by decide +kernel⟩, Or.inl ⟨rfl, by decide +kernel, xm_in 955 (by decide +kernel) rfl, xm_in 956 (by decide +kernel) rfl, _, rfl, rfl⟩⟩
set_option maxRecDepth 100000 in
theorem zk_119 : xm_ML RL (119, 0, 2, 9) yX9_worth cX9_worth 2 (some .int) := ⟨⟨xm_in 1717 (by decide +kernel) rfl, xm_in 12 (by decide +kernel) rfl, xm_in 1720 rfl rfl, by decide⟩, ⟨by decide +kernel, by decide +kernel⟩, Or.inl ⟨rfl, by decide +kernel, xm_in 1718 (by decide +kernel) rfl, xm_in 1719 (by decide +kernel) rfl, _, rfl, rfl⟩⟩
set_option maxRecDepth 100000 in
theorem zk_120 : xm_ML RL (120, 0, 2, 8) yX8_plainIn cX8_plainIn 3 (some .int) := ⟨⟨xm_in 962 (by decide +kernel) rfl, xm_in 1 (by decide +kernel) rfl, xm_in 965 rfl rfl, by decide⟩, ⟨by decide +kernel, by decide +kernel⟩, Or.inl ⟨rfl, by decide +kernel, xm_in 963 (by decide +kernel) rfl, xm_in 964 (by decide +kernel) rfl, _, rfl, rfl⟩⟩
set_option maxRecDepth 100000 in
theorem zk_123 : xm_ML RL (123, 0, 2, 9) yX9_plainIn cX9_plainIn 3 (some .int) := ⟨⟨xm_in 1725 (by decide +kernel) rfl, xm_in 12 (by decide +kernel) rfl, xm_in 1728 rfl rfl, by decide⟩, ⟨by decide +kernel, by decide +kernel⟩, Or.inl ⟨rfl, by decide +kernel, xm_in 1726 (by decide +kernel) rfl, xm_in 1727 (by decide +kernel) rfl, _, rfl, rfl⟩⟩
set_option maxRecDepth 100000 in
theorem zk_124 : xm_ML RL (124, 0, 2, 8) yX8_turns cX8_turns 4 (some .int) := ⟨⟨xm_in 966 (by decide +kernel) rfl, xm_in 1 (by decide +kernel) rfl, xm_in 969 rfl rfl, by decide⟩, ⟨by decide +kernel, by decide +kernel⟩, Or.inl ⟨rfl, by decide +kernel, xm_in 967 (by decide +kernel) rfl, xm_in 968 (by decide +kernel) rfl, _, rfl, rfl⟩⟩
set_option maxRecDepth 100000 in
theorem zk_127 : xm_ML RL (127, 0, 2, 9) yX9_turns cX9_turns 4 (some .int) := ⟨⟨xm_in 1729 (by decide +kernel) rfl, xm_in 12 (by decide +kernel) rfl, xm_in 1732 rfl rfl, by decide⟩, ⟨by decide +kernel, by decide +kernel⟩, Or.inl ⟨rfl, by decide +kernel, xm_in 1730 (by decide +kernel) rfl, xm_in 1731 (by decide +kernel) rfl, _, rfl, rfl⟩⟩
set_option maxRecDepth 100000 in
theorem zk_128 : xm_ML RL (128, 0, 2, 8) yX8_like cX8_like 3 (some .int) := ⟨⟨xm_in 970 (by decide +kernel) rfl, xm_in 1 (by decide +kernel) rfl, xm_in 973 rfl rfl, by decide⟩, ⟨by decide +kernel, by decide +kernel⟩, Or.inl ⟨rfl, by decide +kernel, xm_in 971 (by decide +kernel) rfl, xm_in 972 (by decide +kernel) rfl, _, rfl, rfl⟩⟩
set_option maxRecDepth 100000 in
theorem zk_131 : xm_ML RL (131, 0, 2, 9) yX9_like cX9_like 3 (some .int) := ⟨⟨xm_in 1733 (by decide +kernel) rfl, xm_in 12 (by decide +kernel) rfl, xm_in 1736 rfl rfl, by decide⟩, ⟨by decide +kernel, by decide +kernel⟩, Or.inl ⟨rfl, by decide +kernel, xm_in 1734 (by decide +kernel) rfl, xm_in 1735 (by decide +kernel) rfl, _, rfl, rfl⟩⟩
set_option maxRecDepth 100000 in
theorem zk_132 : xm_ML RL (132, 0, 1, 8) yX8_lonely cX8_lonely 1 (some .int) := ⟨⟨xm_in 974 (by decide +kernel) rfl, xm_in 1 (by decide +kernel) rfl, xm_in 977 rfl rfl, by decide⟩, ⟨by decide +kernel, by decide +kernel⟩, Or.inl ⟨rfl, by decide +kernel, xm_in 975 (by decide +kernel) rfl, xm_in 976 (by decide +kernel) rfl, _, rfl, rfl⟩⟩
set_option maxRecDepth 100000 in
theorem zk_135 : xm_ML RL (135, 0, 1, 9) yX9_lonely cX9_lonely 1 (some .int) := ⟨⟨xm_in 1737 (by decide +kernel) rfl, xm_in 12 (by decide +kernel) rfl, xm_in 1740 rfl rfl, by decide⟩, ⟨by decide +kernel, by decide +kernel⟩, Or.inl ⟨rfl, by decide +kernel, xm_in 1738 (by decide +kernel) rfl, xm_in 1739 (by decide +kernel) rfl, _, rfl, rfl⟩⟩
set_option maxRecDepth 100000 in
theorem zk_136 : xm_ML RL (136, 0, 2, 8) yX8_brightest cX8_brightest 6 (some .int) := ⟨⟨xm_in 982 (by decide +kernel) rfl, xm_in 1 (by decide +kernel) rfl, xm_in 985 rfl rfl, by decide⟩, ⟨by decide +kernel, by decide +kernel⟩, Or.inl ⟨rfl, by decide +kernel, xm_in 983 (by decide +kernel) rfl, xm_in 984 (by decide +kernel) rfl, _, rfl, rfl⟩⟩
set_option maxRecDepth 100000 in
theorem zk_139 : xm_ML RL (139, 0, 2, 9) yX9_brightest cX9_brightest 6 (some .int) := ⟨⟨xm_in 1745 (by decide +kernel) rfl, xm_in 12 (by decide +kernel) rfl, xm_in 1748 rfl rfl, by decide⟩, ⟨by decide +kernel, by decide +kernel⟩, Or.inl ⟨rfl, by decide +kernel, xm_in 1746 (by decide +kernel) rfl, xm_in 1747 (by decide +kernel) rfl, _, rfl, rfl⟩⟩
set_option maxRecDepth 100000 in
theorem zk_140 : xm_ML RL (140, 0, 1, 8) yX8_open cX8_open 3 (some .int) := ⟨⟨xm_in 990 (by decide +kernel) rfl, xm_in 1 (by decide +kernel) rfl, xm_in 993 rfl rfl, by decide⟩, ⟨by decide +kernel, by decide +kernel⟩, Or.inl ⟨rfl, by decide +kernel, xm_in 991 (by decide +kernel) rfl, xm_in 992 (by decide +kernel) rfl, _, rfl, rfl⟩⟩
set_option maxRecDepth 100000 in
theorem zk_143 : xm_ML RL (143, 0, 1, 9) yX9_open cX9_open 3 (some .int) := ⟨⟨xm_in 1749 (by decide +kernel) rfl, xm_in 12 (by decide +kernel) rfl, xm_in 1752 rfl rfl, by decide⟩, ⟨by decide +kernel, by decide +kernel⟩, Or.inl ⟨rfl, by decide +kernel, xm_in 1750 (by decide +kernel) rfl, xm_in 1751 (by decide +kernel) rfl, _, rfl, rfl⟩⟩
set_option maxRecDepth 100000 in
theorem zk_144 : xm_ML RL (144, 0, 2, 8) yX8_share cX8_share 3 (some .int) := ⟨⟨xm_in 994 (by decide +kernel) rfl, xm_in 1 (by decide +kernel) rfl, xm_in 997 rfl rfl, by decide⟩, ⟨by decide +kernel, by decide +kernel⟩, Or.inl ⟨rfl, by decide +kernel, xm_in 995 (by decide +kernel) rfl, xm_in 996 (by decide +kernel) rfl, _, rfl, rfl⟩⟩
set_option maxRecDepth 100000 in
theorem zk_147 : xm_ML RL (147, 0, 2, 9) yX9_share cX9_share 3 (some .int) := ⟨⟨xm_in 1753 (by decide +kernel) rfl, xm_in 12 (by decide +kernel) rfl, xm_in 1756 rfl rfl, by decide⟩, ⟨by decide +kernel, by decide +kernel⟩, Or.inl ⟨rfl, by decide +kernel, xm_in 1754 (by decide +kernel) rfl, xm_in 1755 (by decide +kernel) rfl, _, rfl, rfl⟩⟩
set_option maxRecDepth 100000 in
theorem zk_148 : xm_ML RL (148, 0, 3, 8) yX8_then cX8_then 3 (some .int) := ⟨⟨xm_in 998 (by decide +kernel) rfl, xm_in 1 (by decide +kernel) rfl, xm_in 1001 rfl rfl, by decide⟩, ⟨by decide +kernel, by decide +kernel⟩, Or.inl ⟨rfl, by decide +kernel, xm_in 999 (by decide +kernel) rfl, xm_in 1000 (by decide +kernel) rfl, _, rfl, rfl⟩⟩
set_option maxRecDepth 100000 in
theorem zk_151 : xm_ML RL (151, 0, 3, 9) yX9_then cX9_then 3 (some .int) := ⟨⟨xm_in 1757 (by decide +kernel) rfl, xm_in 12 (by decide +kernel) rfl, xm_in 1760 rfl rfl, by decide⟩, ⟨by decide +kernel, by decide +kernel⟩, Or.inl ⟨rfl, by decide +kernel, xm_in 1758 (by decide +kernel) rfl, xm_in 1759 (by decide +kernel) rfl, _, rfl, rfl⟩⟩
set_option maxRecDepth 100000 in
theorem zk_152 : xm_ML RL (152, 0, 2, 8) yX8_paidIn cX8_paidIn 2 (some .int) := ⟨⟨xm_in 1002 (by decide +kernel) rfl, xm_in 1 (by decide +kernel) rfl, xm_in 1005 rfl rfl, by decide⟩, ⟨by decide +kernel, by decide +kernel⟩, Or.inl ⟨rfl, by decide +kernel, xm_in 1003 (by decide +kernel) rfl, xm_in 1004 (by decide +kernel) rfl, _, rfl, rfl⟩⟩
set_option maxRecDepth 100000 in
theorem zk_155 : xm_ML RL (155, 0, 2, 9) yX9_paidIn cX9_paidIn 2 (some .int) := ⟨⟨xm_in 1761 (by decide +kernel) rfl, xm_in 12 (by decide +kernel) rfl, xm_in 1764 rfl rfl, by decide⟩, ⟨by decide +kernel, by decide +kernel⟩, Or.inl ⟨rfl, by decide +kernel, xm_in 1762 (by decide +kernel) rfl, xm_in 1763 (by decide +kernel) rfl, _, rfl, rfl⟩⟩
set_option maxRecDepth 100000 in
theorem zk_156 : xm_ML RL (156, 0, 4, 8) yX8_year cX8_year 7 (some .int) := ⟨⟨xm_in 1006 (by decide +kernel) rfl, xm_in 1 (by decide +kernel) rfl, xm_in 1009 rfl rfl, by decide⟩, ⟨by decide +kernel, by decide +kernel⟩, Or.inl ⟨rfl, by decide +kernel, xm_in 1007 (by decide +kernel) rfl, xm_in 1008 (by decide +kernel) rfl, _, rfl, rfl⟩⟩
set_option maxRecDepth 100000 in
theorem zk_159 : xm_ML RL (159, 0, 4, 9) yX9_year cX9_year 6 (some .int) := ⟨⟨xm_in 1765 (by decide +kernel) rfl, xm_in 12 (by decide +kernel) rfl, xm_in 1768 rfl rfl, by decide⟩, ⟨by decide +kernel, by decide +kernel⟩, Or.inl ⟨rfl, by decide +kernel, xm_in 1766 (by decide +kernel) rfl, xm_in 1767 (by decide +kernel) rfl, _, rfl, rfl⟩⟩
set_option maxRecDepth 100000 in
theorem zk_160 : xm_ML RL (160, 0, 4, 8) yX8_tell cX8_tell 4 (some .int) := ⟨⟨xm_in 1010 (by decide +kernel) rfl, xm_in 1 (by decide +kernel) rfl, xm_in 1013 rfl rfl, by decide⟩, ⟨by decide +kernel, by decide +kernel⟩, Or.inl ⟨rfl, by decide +kernel, xm_in 1011 (by decide +kernel) rfl, xm_in 1012 (by decide +kernel) rfl, _, rfl, rfl⟩⟩
set_option maxRecDepth 100000 in
theorem zk_164 : xm_ML RL (164, 0, 4, 9) yX9_tell cX9_tell 4 (some .int) := ⟨⟨xm_in 1769 (by decide +kernel) rfl, xm_in 12 (by decide +kernel) rfl, xm_in 1772 rfl rfl, by decide⟩, ⟨by decide +kernel, by decide +kernel⟩, Or.inl ⟨rfl, by decide +kernel, xm_in 1770 (by decide +kernel) rfl, xm_in 1771 (by decide +kernel) rfl, _, rfl, rfl⟩⟩
set_option maxRecDepth 100000 in
theorem zk_165 : xm_ML RL (165, 0, 1, 8) yX8_forget cX8_forget 2 (some .int) := ⟨⟨xm_in 1018 (by decide +kernel) rfl, xm_in 1 (by decide +kernel) rfl, xm_in 1021 rfl rfl, by decide⟩, ⟨by decide +kernel, by decide +kernel⟩, Or.inl ⟨rfl, by decide +kernel, xm_in 1019 (by decide +kernel) rfl, xm_in 1020 (by decide +kernel) rfl, _, rfl, rfl⟩⟩
set_option maxRecDepth 100000 in
theorem zk_168 : xm_ML RL (168, 0, 1, 9) yX9_forget cX9_forget 2 (some .int) := ⟨⟨xm_in 1776 (by decide +kernel) rfl, xm_in 12 (by decide +kernel) rfl, xm_in 1779 rfl rfl, by decide⟩, ⟨by decide +kernel, by decide +kernel⟩, Or.inl ⟨rfl, by decide +kernel, xm_in 1777 (by decide +kernel) rfl, xm_in 1778 (by decide +kernel) rfl, _, rfl, rfl⟩⟩
set_option maxRecDepth 100000 in
theorem zk_169 : xm_ML RL (169, 0, 3, 8) yX8_which cX8_which 4 (some .int) := ⟨⟨xm_in 1022 (by decide +kernel) rfl, xm_in 1 (by decide +kernel) rfl, xm_in 1025 rfl rfl, by decide⟩, ⟨by decide +kernel, by decide +kernel⟩, Or.inl ⟨rfl, by decide +kernel, xm_in 1023 (by decide +kernel) rfl, xm_in 1024 (by decide +kernel) rfl, _, rfl, rfl⟩⟩
set_option maxRecDepth 100000 in
theorem zk_172 : xm_ML RL (172, 0, 3, 9) yX9_which cX9_which 4 (some .int) := ⟨⟨xm_in 1780 (by decide +kernel) rfl, xm_in 12 (by decide +kernel) rfl, xm_in 1783 rfl rfl, by decide⟩, ⟨by decide +kernel, by decide +kernel⟩, Or.inl ⟨rfl, by decide +kernel, xm_in 1781 (by decide +kernel) rfl, xm_in 1782 (by decide +kernel) rfl, _, rfl, rfl⟩⟩
set_option maxRecDepth 100000 in
theorem zk_173 : xm_ML RL (173, 0, 3, 8) yX8_look cX8_look 3 (some .int) := ⟨⟨xm_in 1044 (by decide +kernel) rfl, xm_in 1 (by decide +kernel) rfl, xm_in 1047 rfl rfl, by decide⟩, ⟨by decide +kernel, by decide +kernel⟩, Or.inl ⟨rfl, by decide +kernel, xm_in 1045 (by decide +kernel) rfl, xm_in 1046 (by decide +kernel) rfl, _, rfl, rfl⟩⟩
set_option maxRecDepth 100000 in
theorem zk_176 : xm_ML RL (176, 0, 3, 9) yX9_look cX9_look 10 (some .int) := ⟨⟨xm_in 1795 (by decide +kernel) rfl, xm_in 12 (by decide +kernel) rfl, xm_in 1798 rfl rfl, by decide⟩, ⟨by decide +kernel, by decide +kernel⟩, Or.inl ⟨rfl, by decide +kernel, xm_in 1796 (by decide +kernel) rfl, xm_in 1797 (by decide +kernel) rfl, _, rfl, rfl⟩⟩
set_option maxRecDepth 100000 in
theorem zk_177 : xm_ML RL (177, 0, 2, 8) yX8_hold cX8_hold 2 (some .boolean) := ⟨⟨xm_in 1054 (by decide +kernel) rfl, xm_in 1 (by decide +kernel) rfl, xm_in 1057 rfl rfl, by decide⟩, ⟨by decide +kernel, by decide +kernel⟩, Or.inl ⟨rfl, by decide +kernel, xm_in 1055 (by decide +kernel) rfl, xm_in 1056 (by decide +kernel) rfl, _, rfl, rfl⟩⟩
set_option maxRecDepth 100000 in
theorem zk_181 : xm_ML RL (181, 0, 2, 9) yX9_hold cX9_hold 3 (some .boolean) := ⟨⟨xm_in 1799 (by decide +kernel) rfl, xm_in 12 (by decide +kernel) rfl, xm_in 1802 rfl rfl, by decide⟩, ⟨by decide +kernel, by decide +kernel⟩, Or.inl ⟨rfl, by decide +kernel, xm_in 1800 (by decide +kernel) rfl, xm_in 1801 (by decide +kernel) rfl, _, rfl, rfl⟩⟩
set_option maxRecDepth 100000 in
theorem zk_182 : xm_ML RL (182, 0, 2, 8) yX8_restore cX8_restore 2 (some .boolean) := ⟨⟨xm_in 1062 (by decide +kernel) rfl, xm_in 1 (by decide +kernel) rfl, xm_in 1065 rfl rfl, by decide⟩, ⟨by decide +kernel, by decide +kernel⟩, Or.inl ⟨rfl, by decide +kernel, xm_in 1063 (by decide +kernel) rfl, xm_in 1064 (by decide +kernel) rfl, _, rfl, rfl⟩⟩
set_option maxRecDepth 100000 in
theorem zk_185 : xm_ML RL (185, 0, 2, 9) yX9_restore cX9_restore 3 (some .boolean) := ⟨⟨xm_in 1803 (by decide +kernel) rfl, xm_in 12 (by decide +kernel) rfl, xm_in 1806 rfl rfl, by decide⟩, ⟨by decide +kernel, by decide +kernel⟩, Or.inl ⟨rfl, by decide +kernel, xm_in 1804 (by decide +kernel) rfl, xm_in 1805 (by decide +kernel) rfl, _, rfl, rfl⟩⟩
set_option maxRecDepth 100000 in
theorem zk_186 : xm_ML RL (186, 0, 2, 8) yX8_count cX8_count 2 (some .int) := ⟨⟨xm_in 1070 (by decide +kernel) rfl, xm_in 1 (by decide +kernel) rfl, xm_in 1073 rfl rfl, by decide⟩, ⟨by decide +kernel, by decide +kernel⟩, Or.inl ⟨rfl, by decide +kernel, xm_in 1071 (by decide +kernel) rfl, xm_in 1072 (by decide +kernel) rfl, _, rfl, rfl⟩⟩
set_option maxRecDepth 100000 in
theorem zk_189 : xm_ML RL (189, 0, 2, 9) yX9_count cX9_count 4 (some .int) := ⟨⟨xm_in 1807 (by decide +kernel) rfl, xm_in 12 (by decide +kernel) rfl, xm_in 1810 rfl rfl, by decide⟩, ⟨by decide +kernel, by decide +kernel⟩, Or.inl ⟨rfl, by decide +kernel, xm_in 1808 (by decide +kernel) rfl, xm_in 1809 (by decide +kernel) rfl, _, rfl, rfl⟩⟩
