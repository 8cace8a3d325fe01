theorem kc_L_36 : Cond.constantLong RL 36 (4294967295) ∈ q_T := q_mt 1802 (by decide +kernel) rfl
theorem cw_L_21 : q_cwV RL 21 RX10 yX10_feed cX10_feed 6 (some .boolean) 5 := ⟨⟨q_mt 421 (by decide +kernel) rfl, q_mt 418 (by decide +kernel) rfl, q_mt 1 (by decide +kernel) rfl, by decide +kernel⟩, q_mt 419 (by decide +kernel) rfl, q_mt 420 (by decide +kernel) rfl⟩
theorem cw_L_25 : q_cwV RL 25 RX11 yX11_feed cX11_feed 6 (some .boolean) 5 := ⟨⟨q_mt 1378 (by decide +kernel) rfl, q_mt 1375 (by decide +kernel) rfl, q_mt 14 (by decide +kernel) rfl, by decide +kernel⟩, q_mt 1376 (by decide +kernel) rfl, q_mt 1377 (by decide +kernel) rfl⟩
theorem cw_L_26 : q_cwV RL 26 RX10 yX10_end cX10_end 2 (some .boolean) 1 := ⟨⟨q_mt 429 (by decide +kernel) rfl, q_mt 426 (by decide +kernel) rfl, q_mt 1 (by decide +kernel) rfl, by decide +kernel⟩, q_mt 427 (by decide +kernel) rfl, q_mt 428 (by decide +kernel) rfl⟩
theorem cw_L_30 : q_cwV RL 30 RX11 yX11_end cX11_end 2 (some .boolean) 1 := ⟨⟨q_mt 1386 (by decide +kernel) rfl, q_mt 1383 (by decide +kernel) rfl, q_mt 14 (by decide +kernel) rfl, by decide +kernel⟩, q_mt 1384 (by decide +kernel) rfl, q_mt 1385 (by decide +kernel) rfl⟩
theorem cw_L_31 : q_cwV RL 31 RX10 yX10_as cX10_as 3 (some .int) 1 := ⟨⟨q_mt 433 (by decide +kernel) rfl, q_mt 430 (by decide +kernel) rfl, q_mt 1 (by decide +kernel) rfl, by decide +kernel⟩, q_mt 431 (by decide +kernel) rfl, q_mt 432 (by decide +kernel) rfl⟩
theorem cw_L_35 : q_cwV RL 35 RX11 yX11_as cX11_as 3 (some .int) 1 := ⟨⟨q_mt 1486 (by decide +kernel) rfl, q_mt 1483 (by decide +kernel) rfl, q_mt 14 (by decide +kernel) rfl, by decide +kernel⟩, q_mt 1484 (by decide +kernel) rfl, q_mt 1485 (by decide +kernel) rfl⟩
theorem cw_L_38 : q_cwV RL 38 RX10 yX10_make cX10_make 4 (some .int) 2 := ⟨⟨q_mt 437 (by decide +kernel) rfl, q_mt 434 (by decide +kernel) rfl, q_mt 1 (by decide +kernel) rfl, by decide +kernel⟩, q_mt 435 (by decide +kernel) rfl, q_mt 436 (by decide +kernel) rfl⟩
theorem cw_L_42 : q_cwV RL 42 RX11 yX11_make cX11_make 4 (some .int) 2 := ⟨⟨q_mt 1518 (by decide +kernel) rfl, q_mt 1515 (by decide +kernel) rfl, q_mt 14 (by decide +kernel) rfl, by decide +kernel⟩, q_mt 1516 (by decide +kernel) rfl, q_mt 1517 (by decide +kernel) rfl⟩
theorem cw_L_43 : q_cwV RL 43 RX10 yX10_dir cX10_dir 5 (some .int) 2 := ⟨⟨q_mt 646 (by decide +kernel) rfl, q_mt 643 (by decide +kernel) rfl, q_mt 1 (by decide +kernel) rfl, by decide +kernel⟩, q_mt 644 (by decide +kernel) rfl, q_mt 645 (by decide +kernel) rfl⟩
theorem cw_L_46 : q_cwV RL 46 RX11 yX11_dir cX11_dir 4 (some .int) 2 := ⟨⟨q_mt 1592 (by decide +kernel) rfl, q_mt 1589 (by decide +kernel) rfl, q_mt 14 (by decide +kernel) rfl, by decide +kernel⟩, q_mt 1590 (by decide +kernel) rfl, q_mt 1591 (by decide +kernel) rfl⟩
theorem cw_L_47 : q_cwV RL 47 RX10 yX10_lay cX10_lay 5 (some .int) 2 := ⟨⟨q_mt 655 (by decide +kernel) rfl, q_mt 652 (by decide +kernel) rfl, q_mt 1 (by decide +kernel) rfl, by decide +kernel⟩, q_mt 653 (by decide +kernel) rfl, q_mt 654 (by decide +kernel) rfl⟩
theorem cw_L_50 : q_cwV RL 50 RX11 yX11_lay cX11_lay 9 (some .int) 2 := ⟨⟨q_mt 1635 (by decide +kernel) rfl, q_mt 1632 (by decide +kernel) rfl, q_mt 14 (by decide +kernel) rfl, by decide +kernel⟩, q_mt 1633 (by decide +kernel) rfl, q_mt 1634 (by decide +kernel) rfl⟩
theorem cw_L_51 : q_cwV RL 51 RX10 yX10_point cX10_point 5 (some .int) 2 := ⟨⟨q_mt 707 (by decide +kernel) rfl, q_mt 704 (by decide +kernel) rfl, q_mt 1 (by decide +kernel) rfl, by decide +kernel⟩, q_mt 705 (by decide +kernel) rfl, q_mt 706 (by decide +kernel) rfl⟩
theorem cw_L_54 : q_cwV RL 54 RX11 yX11_point cX11_point 8 (some .int) 2 := ⟨⟨q_mt 1596 (by decide +kernel) rfl, q_mt 1593 (by decide +kernel) rfl, q_mt 14 (by decide +kernel) rfl, by decide +kernel⟩, q_mt 1594 (by decide +kernel) rfl, q_mt 1595 (by decide +kernel) rfl⟩
theorem cw_L_55 : q_cwV RL 55 RX10 yX10_link cX10_link 7 (some .int) 3 := ⟨⟨q_mt 727 (by decide +kernel) rfl, q_mt 724 (by decide +kernel) rfl, q_mt 1 (by decide +kernel) rfl, by decide +kernel⟩, q_mt 725 (by decide +kernel) rfl, q_mt 726 (by decide +kernel) rfl⟩
theorem cw_L_59 : q_cwV RL 59 RX11 yX11_link cX11_link 5 (some .int) 3 := ⟨⟨q_mt 1600 (by decide +kernel) rfl, q_mt 1597 (by decide +kernel) rfl, q_mt 14 (by decide +kernel) rfl, by decide +kernel⟩, q_mt 1598 (by decide +kernel) rfl, q_mt 1599 (by decide +kernel) rfl⟩
theorem cw_L_60 : q_cwV RL 60 RX10 yX10_put cX10_put 4 (some .int) 2 := ⟨⟨q_mt 743 (by decide +kernel) rfl, q_mt 740 (by decide +kernel) rfl, q_mt 1 (by decide +kernel) rfl, by decide +kernel⟩, q_mt 741 (by decide +kernel) rfl, q_mt 742 (by decide +kernel) rfl⟩
theorem cw_L_64 : q_cwV RL 64 RX11 yX11_put cX11_put 7 (some .int) 2 := ⟨⟨q_mt 1651 (by decide +kernel) rfl, q_mt 1648 (by decide +kernel) rfl, q_mt 14 (by decide +kernel) rfl, by decide +kernel⟩, q_mt 1649 (by decide +kernel) rfl, q_mt 1650 (by decide +kernel) rfl⟩
theorem cw_L_65 : q_cwV RL 65 RX10 yX10_cut cX10_cut 4 (some .int) 2 := ⟨⟨q_mt 802 (by decide +kernel) rfl, q_mt 799 (by decide +kernel) rfl, q_mt 1 (by decide +kernel) rfl, by decide +kernel⟩, q_mt 800 (by decide +kernel) rfl, q_mt 801 (by decide +kernel) rfl⟩
theorem cw_L_68 : q_cwV RL 68 RX11 yX11_cut cX11_cut 6 (some .int) 2 := ⟨⟨q_mt 1678 (by decide +kernel) rfl, q_mt 1675 (by decide +kernel) rfl, q_mt 14 (by decide +kernel) rfl, by decide +kernel⟩, q_mt 1676 (by decide +kernel) rfl, q_mt 1677 (by decide +kernel) rfl⟩
theorem cw_L_69 : q_cwV RL 69 RX10 yX10_drop cX10_drop 7 (some .int) 2 := ⟨⟨q_mt 838 (by decide +kernel) rfl, q_mt 835 (by decide +kernel) rfl, q_mt 1 (by decide +kernel) rfl, by decide +kernel⟩, q_mt 836 (by decide +kernel) rfl, q_mt 837 (by decide +kernel) rfl⟩
theorem cw_L_72 : q_cwV RL 72 RX11 yX11_drop cX11_drop 6 (some .int) 2 := ⟨⟨q_mt 1702 (by decide +kernel) rfl, q_mt 1699 (by decide +kernel) rfl, q_mt 14 (by decide +kernel) rfl, by decide +kernel⟩, q_mt 1700 (by decide +kernel) rfl, q_mt 1701 (by decide +kernel) rfl⟩
theorem cw_L_73 : q_cwV RL 73 RX10 yX10_rename cX10_rename 12 (some .int) 4 := ⟨⟨q_mt 870 (by decide +kernel) rfl, q_mt 867 (by decide +kernel) rfl, q_mt 1 (by decide +kernel) rfl, by decide +kernel⟩, q_mt 868 (by decide +kernel) rfl, q_mt 869 (by decide +kernel) rfl⟩
theorem cw_L_77 : q_cwV RL 77 RX11 yX11_rename cX11_rename 12 (some .int) 4 := ⟨⟨q_mt 1722 (by decide +kernel) rfl, q_mt 1719 (by decide +kernel) rfl, q_mt 14 (by decide +kernel) rfl, by decide +kernel⟩, q_mt 1720 (by decide +kernel) rfl, q_mt 1721 (by decide +kernel) rfl⟩
theorem cw_L_78 : q_cwV RL 78 RX10 yX10_find cX10_find 5 (some .int) 2 := ⟨⟨q_mt 889 (by decide +kernel) rfl, q_mt 886 (by decide +kernel) rfl, q_mt 1 (by decide +kernel) rfl, by decide +kernel⟩, q_mt 887 (by decide +kernel) rfl, q_mt 888 (by decide +kernel) rfl⟩
theorem cw_L_81 : q_cwV RL 81 RX11 yX11_find cX11_find 5 (some .int) 2 := ⟨⟨q_mt 1730 (by decide +kernel) rfl, q_mt 1727 (by decide +kernel) rfl, q_mt 14 (by decide +kernel) rfl, by decide +kernel⟩, q_mt 1728 (by decide +kernel) rfl, q_mt 1729 (by decide +kernel) rfl⟩
theorem cw_L_82 : q_cwV RL 82 RX10 yX10_walk cX10_walk 3 (some .int) 1 := ⟨⟨q_mt 893 (by decide +kernel) rfl, q_mt 890 (by decide +kernel) rfl, q_mt 1 (by decide +kernel) rfl, by decide +kernel⟩, q_mt 891 (by decide +kernel) rfl, q_mt 892 (by decide +kernel) rfl⟩
theorem cw_L_85 : q_cwV RL 85 RX11 yX11_walk cX11_walk 3 (some .int) 1 := ⟨⟨q_mt 1612 (by decide +kernel) rfl, q_mt 1609 (by decide +kernel) rfl, q_mt 14 (by decide +kernel) rfl, by decide +kernel⟩, q_mt 1610 (by decide +kernel) rfl, q_mt 1611 (by decide +kernel) rfl⟩
theorem cw_L_86 : q_cwV RL 86 RX10 yX10_entry cX10_entry 5 (some .int) 2 := ⟨⟨q_mt 931 (by decide +kernel) rfl, q_mt 928 (by decide +kernel) rfl, q_mt 1 (by decide +kernel) rfl, by decide +kernel⟩, q_mt 929 (by decide +kernel) rfl, q_mt 930 (by decide +kernel) rfl⟩
theorem cw_L_89 : q_cwV RL 89 RX11 yX11_entry cX11_entry 4 (some .int) 2 := ⟨⟨q_mt 1734 (by decide +kernel) rfl, q_mt 1731 (by decide +kernel) rfl, q_mt 14 (by decide +kernel) rfl, by decide +kernel⟩, q_mt 1732 (by decide +kernel) rfl, q_mt 1733 (by decide +kernel) rfl⟩
theorem cw_L_90 : q_cwV RL 90 RX10 yX10_name cX10_name 5 (some .long) 2 := ⟨⟨q_mt 946 (by decide +kernel) rfl, q_mt 943 (by decide +kernel) rfl, q_mt 1 (by decide +kernel) rfl, by decide +kernel⟩, q_mt 944 (by decide +kernel) rfl, q_mt 945 (by decide +kernel) rfl⟩
theorem cw_L_94 : q_cwV RL 94 RX11 yX11_name cX11_name 4 (some .long) 2 := ⟨⟨q_mt 1745 (by decide +kernel) rfl, q_mt 1742 (by decide +kernel) rfl, q_mt 14 (by decide +kernel) rfl, by decide +kernel⟩, q_mt 1743 (by decide +kernel) rfl, q_mt 1744 (by decide +kernel) rfl⟩
theorem cw_L_95 : q_cwV RL 95 RX10 yX10_kind cX10_kind 2 (some .int) 1 := ⟨⟨q_mt 952 (by decide +kernel) rfl, q_mt 949 (by decide +kernel) rfl, q_mt 1 (by decide +kernel) rfl, by decide +kernel⟩, q_mt 950 (by decide +kernel) rfl, q_mt 951 (by decide +kernel) rfl⟩
theorem cw_L_98 : q_cwV RL 98 RX11 yX11_kind cX11_kind 2 (some .int) 1 := ⟨⟨q_mt 1753 (by decide +kernel) rfl, q_mt 1750 (by decide +kernel) rfl, q_mt 14 (by decide +kernel) rfl, by decide +kernel⟩, q_mt 1751 (by decide +kernel) rfl, q_mt 1752 (by decide +kernel) rfl⟩
theorem cw_L_99 : q_cwV RL 99 RX10 yX10_size cX10_size 3 (some .int) 1 := ⟨⟨q_mt 957 (by decide +kernel) rfl, q_mt 954 (by decide +kernel) rfl, q_mt 1 (by decide +kernel) rfl, by decide +kernel⟩, q_mt 955 (by decide +kernel) rfl, q_mt 956 (by decide +kernel) rfl⟩
theorem cw_L_102 : q_cwV RL 102 RX11 yX11_size cX11_size 2 (some .int) 1 := ⟨⟨q_mt 1757 (by decide +kernel) rfl, q_mt 1754 (by decide +kernel) rfl, q_mt 14 (by decide +kernel) rfl, by decide +kernel⟩, q_mt 1755 (by decide +kernel) rfl, q_mt 1756 (by decide +kernel) rfl⟩
theorem cw_L_103 : q_cwV RL 103 RX10 yX10_mode cX10_mode 5 (some .int) 2 := ⟨⟨q_mt 965 (by decide +kernel) rfl, q_mt 962 (by decide +kernel) rfl, q_mt 1 (by decide +kernel) rfl, by decide +kernel⟩, q_mt 963 (by decide +kernel) rfl, q_mt 964 (by decide +kernel) rfl⟩
theorem cw_L_106 : q_cwV RL 106 RX11 yX11_mode cX11_mode 4 (some .int) 2 := ⟨⟨q_mt 1490 (by decide +kernel) rfl, q_mt 1487 (by decide +kernel) rfl, q_mt 14 (by decide +kernel) rfl, by decide +kernel⟩, q_mt 1488 (by decide +kernel) rfl, q_mt 1489 (by decide +kernel) rfl⟩
theorem cw_L_107 : q_cwV RL 107 RX10 yX10_give cX10_give 5 (some .int) 2 := ⟨⟨q_mt 981 (by decide +kernel) rfl, q_mt 978 (by decide +kernel) rfl, q_mt 1 (by decide +kernel) rfl, by decide +kernel⟩, q_mt 979 (by decide +kernel) rfl, q_mt 980 (by decide +kernel) rfl⟩
theorem cw_L_110 : q_cwV RL 110 RX11 yX11_give cX11_give 4 (some .int) 2 := ⟨⟨q_mt 1510 (by decide +kernel) rfl, q_mt 1507 (by decide +kernel) rfl, q_mt 14 (by decide +kernel) rfl, by decide +kernel⟩, q_mt 1508 (by decide +kernel) rfl, q_mt 1509 (by decide +kernel) rfl⟩
theorem cw_L_111 : q_cwV RL 111 RX10 yX10_rights cX10_rights 4 (some .int) 2 := ⟨⟨q_mt 989 (by decide +kernel) rfl, q_mt 986 (by decide +kernel) rfl, q_mt 1 (by decide +kernel) rfl, by decide +kernel⟩, q_mt 987 (by decide +kernel) rfl, q_mt 988 (by decide +kernel) rfl⟩
theorem cw_L_114 : q_cwV RL 114 RX11 yX11_rights cX11_rights 3 (some .int) 2 := ⟨⟨q_mt 1514 (by decide +kernel) rfl, q_mt 1511 (by decide +kernel) rfl, q_mt 14 (by decide +kernel) rfl, by decide +kernel⟩, q_mt 1512 (by decide +kernel) rfl, q_mt 1513 (by decide +kernel) rfl⟩
theorem cw_L_115 : q_cwV RL 115 RX10 yX10_links cX10_links 2 (some .int) 1 := ⟨⟨q_mt 993 (by decide +kernel) rfl, q_mt 990 (by decide +kernel) rfl, q_mt 1 (by decide +kernel) rfl, by decide +kernel⟩, q_mt 991 (by decide +kernel) rfl, q_mt 992 (by decide +kernel) rfl⟩
theorem cw_L_118 : q_cwV RL 118 RX11 yX11_links cX11_links 2 (some .int) 1 := ⟨⟨q_mt 1608 (by decide +kernel) rfl, q_mt 1605 (by decide +kernel) rfl, q_mt 14 (by decide +kernel) rfl, by decide +kernel⟩, q_mt 1606 (by decide +kernel) rfl, q_mt 1607 (by decide +kernel) rfl⟩
theorem cw_L_119 : q_cwV RL 119 RX10 yX10_parent cX10_parent 2 (some .int) 1 := ⟨⟨q_mt 997 (by decide +kernel) rfl, q_mt 994 (by decide +kernel) rfl, q_mt 1 (by decide +kernel) rfl, by decide +kernel⟩, q_mt 995 (by decide +kernel) rfl, q_mt 996 (by decide +kernel) rfl⟩
theorem cw_L_122 : q_cwV RL 122 RX11 yX11_parent cX11_parent 2 (some .int) 1 := ⟨⟨q_mt 1761 (by decide +kernel) rfl, q_mt 1758 (by decide +kernel) rfl, q_mt 14 (by decide +kernel) rfl, by decide +kernel⟩, q_mt 1759 (by decide +kernel) rfl, q_mt 1760 (by decide +kernel) rfl⟩
theorem cw_L_123 : q_cwV RL 123 RX10 yX10_block cX10_block 4 (some .int) 2 := ⟨⟨q_mt 1002 (by decide +kernel) rfl, q_mt 999 (by decide +kernel) rfl, q_mt 1 (by decide +kernel) rfl, by decide +kernel⟩, q_mt 1000 (by decide +kernel) rfl, q_mt 1001 (by decide +kernel) rfl⟩
theorem cw_L_126 : q_cwV RL 126 RX11 yX11_block cX11_block 4 (some .int) 2 := ⟨⟨q_mt 1765 (by decide +kernel) rfl, q_mt 1762 (by decide +kernel) rfl, q_mt 14 (by decide +kernel) rfl, by decide +kernel⟩, q_mt 1763 (by decide +kernel) rfl, q_mt 1764 (by decide +kernel) rfl⟩
theorem cw_L_127 : q_cwV RL 127 RX10 yX10_byteAt cX10_byteAt 4 (some .int) 2 := ⟨⟨q_mt 1010 (by decide +kernel) rfl, q_mt 1007 (by decide +kernel) rfl, q_mt 1 (by decide +kernel) rfl, by decide +kernel⟩, q_mt 1008 (by decide +kernel) rfl, q_mt 1009 (by decide +kernel) rfl⟩
theorem cw_L_130 : q_cwV RL 130 RX11 yX11_byteAt cX11_byteAt 5 (some .int) 2 := ⟨⟨q_mt 1769 (by decide +kernel) rfl, q_mt 1766 (by decide +kernel) rfl, q_mt 14 (by decide +kernel) rfl, by decide +kernel⟩, q_mt 1767 (by decide +kernel) rfl, q_mt 1768 (by decide +kernel) rfl⟩
theorem cw_L_131 : q_cwV RL 131 RX10 yX10_check cX10_check 1 (some .int) 0 := ⟨⟨q_mt 1019 (by decide +kernel) rfl, q_mt 1016 (by decide +kernel) rfl, q_mt 1 (by decide +kernel) rfl, by decide +kernel⟩, q_mt 1017 (by decide +kernel) rfl, q_mt 1018 (by decide +kernel) rfl⟩
theorem cw_L_135 : q_cwV RL 135 RX11 yX11_check cX11_check 1 (some .int) 0 := ⟨⟨q_mt 1773 (by decide +kernel) rfl, q_mt 1770 (by decide +kernel) rfl, q_mt 14 (by decide +kernel) rfl, by decide +kernel⟩, q_mt 1771 (by decide +kernel) rfl, q_mt 1772 (by decide +kernel) rfl⟩
theorem cw_L_136 : q_cwV RL 136 RX10 yX10_scrub cX10_scrub 3 (some .int) 0 := ⟨⟨q_mt 1073 (by decide +kernel) rfl, q_mt 1070 (by decide +kernel) rfl, q_mt 1 (by decide +kernel) rfl, by decide +kernel⟩, q_mt 1071 (by decide +kernel) rfl, q_mt 1072 (by decide +kernel) rfl⟩
theorem cw_L_139 : q_cwV RL 139 RX11 yX11_scrub cX11_scrub 1 (some .int) 0 := ⟨⟨q_mt 1777 (by decide +kernel) rfl, q_mt 1774 (by decide +kernel) rfl, q_mt 14 (by decide +kernel) rfl, by decide +kernel⟩, q_mt 1775 (by decide +kernel) rfl, q_mt 1776 (by decide +kernel) rfl⟩
theorem cw_L_140 : q_cwV RL 140 RX10 yX10_sync cX10_sync 2 (some .int) 0 := ⟨⟨q_mt 1079 (by decide +kernel) rfl, q_mt 1076 (by decide +kernel) rfl, q_mt 1 (by decide +kernel) rfl, by decide +kernel⟩, q_mt 1077 (by decide +kernel) rfl, q_mt 1078 (by decide +kernel) rfl⟩
theorem cw_L_143 : q_cwV RL 143 RX11 yX11_sync cX11_sync 2 (some .int) 0 := ⟨⟨q_mt 1390 (by decide +kernel) rfl, q_mt 1387 (by decide +kernel) rfl, q_mt 14 (by decide +kernel) rfl, by decide +kernel⟩, q_mt 1388 (by decide +kernel) rfl, q_mt 1389 (by decide +kernel) rfl⟩
theorem cw_L_144 : q_cwV RL 144 RX10 yX10_clean cX10_clean 1 (some .int) 0 := ⟨⟨q_mt 1083 (by decide +kernel) rfl, q_mt 1080 (by decide +kernel) rfl, q_mt 1 (by decide +kernel) rfl, by decide +kernel⟩, q_mt 1081 (by decide +kernel) rfl, q_mt 1082 (by decide +kernel) rfl⟩
theorem cw_L_147 : q_cwV RL 147 RX11 yX11_clean cX11_clean 1 (some .int) 0 := ⟨⟨q_mt 1462 (by decide +kernel) rfl, q_mt 1459 (by decide +kernel) rfl, q_mt 14 (by decide +kernel) rfl, by decide +kernel⟩, q_mt 1460 (by decide +kernel) rfl, q_mt 1461 (by decide +kernel) rfl⟩
theorem cw_L_148 : q_cwV RL 148 RX10 yX10_power cX10_power 2 (some .boolean) 1 := ⟨⟨q_mt 1088 (by decide +kernel) rfl, q_mt 1085 (by decide +kernel) rfl, q_mt 1 (by decide +kernel) rfl, by decide +kernel⟩, q_mt 1086 (by decide +kernel) rfl, q_mt 1087 (by decide +kernel) rfl⟩
theorem cw_L_151 : q_cwV RL 151 RX11 yX11_power cX11_power 2 (some .boolean) 1 := ⟨⟨q_mt 1466 (by decide +kernel) rfl, q_mt 1463 (by decide +kernel) rfl, q_mt 14 (by decide +kernel) rfl, by decide +kernel⟩, q_mt 1464 (by decide +kernel) rfl, q_mt 1465 (by decide +kernel) rfl⟩
theorem cw_L_152 : q_cwV RL 152 RX10 yX10_restore cX10_restore 2 (some .int) 0 := ⟨⟨q_mt 1092 (by decide +kernel) rfl, q_mt 1089 (by decide +kernel) rfl, q_mt 1 (by decide +kernel) rfl, by decide +kernel⟩, q_mt 1090 (by decide +kernel) rfl, q_mt 1091 (by decide +kernel) rfl⟩
theorem cw_L_155 : q_cwV RL 155 RX11 yX11_restore cX11_restore 2 (some .int) 0 := ⟨⟨q_mt 1470 (by decide +kernel) rfl, q_mt 1467 (by decide +kernel) rfl, q_mt 14 (by decide +kernel) rfl, by decide +kernel⟩, q_mt 1468 (by decide +kernel) rfl, q_mt 1469 (by decide +kernel) rfl⟩
theorem cw_L_156 : q_cwV RL 156 RX10 yX10_where cX10_where 2 (some .int) 1 := ⟨⟨q_mt 1112 (by decide +kernel) rfl, q_mt 1109 (by decide +kernel) rfl, q_mt 1 (by decide +kernel) rfl, by decide +kernel⟩, q_mt 1110 (by decide +kernel) rfl, q_mt 1111 (by decide +kernel) rfl⟩
theorem cw_L_159 : q_cwV RL 159 RX11 yX11_where cX11_where 2 (some .int) 1 := ⟨⟨q_mt 1781 (by decide +kernel) rfl, q_mt 1778 (by decide +kernel) rfl, q_mt 14 (by decide +kernel) rfl, by decide +kernel⟩, q_mt 1779 (by decide +kernel) rfl, q_mt 1780 (by decide +kernel) rfl⟩
theorem cw_L_160 : q_cwV RL 160 RX10 yX10_mark cX10_mark 2 (some .int) 1 := ⟨⟨q_mt 1120 (by decide +kernel) rfl, q_mt 1117 (by decide +kernel) rfl, q_mt 1 (by decide +kernel) rfl, by decide +kernel⟩, q_mt 1118 (by decide +kernel) rfl, q_mt 1119 (by decide +kernel) rfl⟩
theorem cw_L_163 : q_cwV RL 163 RX11 yX11_mark cX11_mark 2 (some .int) 1 := ⟨⟨q_mt 1785 (by decide +kernel) rfl, q_mt 1782 (by decide +kernel) rfl, q_mt 14 (by decide +kernel) rfl, by decide +kernel⟩, q_mt 1783 (by decide +kernel) rfl, q_mt 1784 (by decide +kernel) rfl⟩
theorem cw_L_164 : q_cwV RL 164 RX10 yX10_count cX10_count 2 (some .int) 1 := ⟨⟨q_mt 1124 (by decide +kernel) rfl, q_mt 1121 (by decide +kernel) rfl, q_mt 1 (by decide +kernel) rfl, by decide +kernel⟩, q_mt 1122 (by decide +kernel) rfl, q_mt 1123 (by decide +kernel) rfl⟩
theorem cw_L_167 : q_cwV RL 167 RX11 yX11_count cX11_count 2 (some .int) 1 := ⟨⟨q_mt 1789 (by decide +kernel) rfl, q_mt 1786 (by decide +kernel) rfl, q_mt 14 (by decide +kernel) rfl, by decide +kernel⟩, q_mt 1787 (by decide +kernel) rfl, q_mt 1788 (by decide +kernel) rfl⟩
theorem dL_law_0 : decode code 0 = .ok (.new 7, 3) := by decide +kernel
theorem dL_law_3 : decode code 3 = .ok (.dup, 1) := by decide +kernel
theorem dL_law_4 : decode code 4 = .ok (.aload_n 0, 1) := by decide +kernel
theorem dL_law_5 : decode code 5 = .ok (.iconst 0, 1) := by decide +kernel
theorem dL_law_6 : decode code 6 = .ok (.invokestatic 9, 3) := by decide +kernel
theorem dL_law_9 : decode code 9 = .ok (.aload_n 0, 1) := by decide +kernel
theorem dL_law_10 : decode code 10 = .ok (.iconst 1, 1) := by decide +kernel
theorem dL_law_11 : decode code 11 = .ok (.invokestatic 9, 3) := by decide +kernel
theorem dL_law_14 : decode code 14 = .ok (.aload_n 0, 1) := by decide +kernel
theorem dL_law_15 : decode code 15 = .ok (.iconst 2, 1) := by decide +kernel
theorem dL_law_16 : decode code 16 = .ok (.invokestatic 9, 3) := by decide +kernel
theorem dL_law_19 : decode code 19 = .ok (.aload_n 0, 1) := by decide +kernel
theorem dL_law_20 : decode code 20 = .ok (.iconst 3, 1) := by decide +kernel
theorem dL_law_21 : decode code 21 = .ok (.invokestatic 9, 3) := by decide +kernel
theorem dL_law_24 : decode code 24 = .ok (.invokespecial 15, 3) := by decide +kernel
theorem dL_law_27 : decode code 27 = .ok (.astore_n 1, 1) := by decide +kernel
theorem dL_law_28 : decode code 28 = .ok (.new 18, 3) := by decide +kernel
theorem dL_law_31 : decode code 31 = .ok (.dup, 1) := by decide +kernel
theorem dL_law_32 : decode code 32 = .ok (.aload_n 0, 1) := by decide +kernel
theorem dL_law_33 : decode code 33 = .ok (.iconst 0, 1) := by decide +kernel
theorem dL_law_34 : decode code 34 = .ok (.invokestatic 9, 3) := by decide +kernel
theorem dL_law_37 : decode code 37 = .ok (.aload_n 0, 1) := by decide +kernel
theorem dL_law_38 : decode code 38 = .ok (.iconst 1, 1) := by decide +kernel
theorem dL_law_39 : decode code 39 = .ok (.invokestatic 9, 3) := by decide +kernel
theorem dL_law_42 : decode code 42 = .ok (.aload_n 0, 1) := by decide +kernel
theorem dL_law_43 : decode code 43 = .ok (.iconst 2, 1) := by decide +kernel
theorem dL_law_44 : decode code 44 = .ok (.invokestatic 9, 3) := by decide +kernel
theorem dL_law_47 : decode code 47 = .ok (.aload_n 0, 1) := by decide +kernel
theorem dL_law_48 : decode code 48 = .ok (.iconst 3, 1) := by decide +kernel
theorem dL_law_49 : decode code 49 = .ok (.invokestatic 9, 3) := by decide +kernel
theorem dL_law_52 : decode code 52 = .ok (.invokespecial 20, 3) := by decide +kernel
theorem dL_law_55 : decode code 55 = .ok (.astore_n 2, 1) := by decide +kernel
theorem dL_law_56 : decode code 56 = .ok (.iconst 4, 1) := by decide +kernel
theorem dL_law_57 : decode code 57 = .ok (.istore_n 3, 1) := by decide +kernel
theorem dL_law_58 : decode code 58 = .ok (.iload_n 3, 1) := by decide +kernel
theorem dL_law_59 : decode code 59 = .ok (.aload_n 0, 1) := by decide +kernel
theorem dL_law_60 : decode code 60 = .ok (.arraylength, 1) := by decide +kernel
theorem dL_law_61 : decode code 61 = .ok (.bipush 7, 2) := by decide +kernel
theorem dL_law_63 : decode code 63 = .ok (.isub, 1) := by decide +kernel
theorem dL_law_64 : decode code 64 = .ok (.if_icmp .gt 1411, 3) := by decide +kernel
theorem dL_law_67 : decode code 67 = .ok (.aload_n 0, 1) := by decide +kernel
theorem dL_law_68 : decode code 68 = .ok (.iload_n 3, 1) := by decide +kernel
theorem dL_law_69 : decode code 69 = .ok (.iaload, 1) := by decide +kernel
theorem dL_law_70 : decode code 70 = .ok (.bipush 63, 2) := by decide +kernel
theorem dL_law_72 : decode code 72 = .ok (.iand, 1) := by decide +kernel
theorem dL_law_73 : decode code 73 = .ok (.tableswitch 1396 0 33 #[151, 214, 237, 260, 323, 386, 449, 512, 585, 618, 651, 714, 829, 892, 915, 948, 982, 1005, 1028, 1061, 1094, 1127, 1150, 1173, 1206, 1239, 1252, 1265, 1278, 1291, 1314, 1327, 1350, 1373], 151) := by decide +kernel
theorem dL_law_224 : decode code 224 = .ok (.aload_n 1, 1) := by decide +kernel
theorem dL_law_225 : decode code 225 = .ok (.aload_n 0, 1) := by decide +kernel
theorem dL_law_226 : decode code 226 = .ok (.iload_n 3, 1) := by decide +kernel
theorem dL_law_227 : decode code 227 = .ok (.iconst 1, 1) := by decide +kernel
theorem dL_law_228 : decode code 228 = .ok (.iadd, 1) := by decide +kernel
theorem dL_law_229 : decode code 229 = .ok (.iaload, 1) := by decide +kernel
theorem dL_law_230 : decode code 230 = .ok (.aload_n 0, 1) := by decide +kernel
theorem dL_law_231 : decode code 231 = .ok (.iload_n 3, 1) := by decide +kernel
theorem dL_law_232 : decode code 232 = .ok (.iconst 2, 1) := by decide +kernel
theorem dL_law_233 : decode code 233 = .ok (.iadd, 1) := by decide +kernel
theorem dL_law_234 : decode code 234 = .ok (.iaload, 1) := by decide +kernel
theorem dL_law_235 : decode code 235 = .ok (.aload_n 0, 1) := by decide +kernel
theorem dL_law_236 : decode code 236 = .ok (.iload_n 3, 1) := by decide +kernel
theorem dL_law_237 : decode code 237 = .ok (.iconst 3, 1) := by decide +kernel
theorem dL_law_238 : decode code 238 = .ok (.iadd, 1) := by decide +kernel
theorem dL_law_239 : decode code 239 = .ok (.iaload, 1) := by decide +kernel
theorem dL_law_240 : decode code 240 = .ok (.aload_n 0, 1) := by decide +kernel
theorem dL_law_241 : decode code 241 = .ok (.iload_n 3, 1) := by decide +kernel
theorem dL_law_242 : decode code 242 = .ok (.iconst 4, 1) := by decide +kernel
theorem dL_law_243 : decode code 243 = .ok (.iadd, 1) := by decide +kernel
theorem dL_law_244 : decode code 244 = .ok (.iaload, 1) := by decide +kernel
theorem dL_law_245 : decode code 245 = .ok (.aload_n 0, 1) := by decide +kernel
theorem dL_law_246 : decode code 246 = .ok (.iload_n 3, 1) := by decide +kernel
theorem dL_law_247 : decode code 247 = .ok (.iconst 5, 1) := by decide +kernel
theorem dL_law_248 : decode code 248 = .ok (.iadd, 1) := by decide +kernel
theorem dL_law_249 : decode code 249 = .ok (.iaload, 1) := by decide +kernel
theorem dL_law_250 : decode code 250 = .ok (.invokevirtual 21, 3) := by decide +kernel
theorem dL_law_253 : decode code 253 = .ok (.aload_n 2, 1) := by decide +kernel
theorem dL_law_254 : decode code 254 = .ok (.aload_n 0, 1) := by decide +kernel
theorem dL_law_255 : decode code 255 = .ok (.iload_n 3, 1) := by decide +kernel
theorem dL_law_256 : decode code 256 = .ok (.iconst 1, 1) := by decide +kernel
theorem dL_law_257 : decode code 257 = .ok (.iadd, 1) := by decide +kernel
theorem dL_law_258 : decode code 258 = .ok (.iaload, 1) := by decide +kernel
theorem dL_law_259 : decode code 259 = .ok (.aload_n 0, 1) := by decide +kernel
theorem dL_law_260 : decode code 260 = .ok (.iload_n 3, 1) := by decide +kernel
theorem dL_law_261 : decode code 261 = .ok (.iconst 2, 1) := by decide +kernel
theorem dL_law_262 : decode code 262 = .ok (.iadd, 1) := by decide +kernel
theorem dL_law_263 : decode code 263 = .ok (.iaload, 1) := by decide +kernel
theorem dL_law_264 : decode code 264 = .ok (.aload_n 0, 1) := by decide +kernel
theorem dL_law_265 : decode code 265 = .ok (.iload_n 3, 1) := by decide +kernel
theorem dL_law_266 : decode code 266 = .ok (.iconst 3, 1) := by decide +kernel
theorem dL_law_267 : decode code 267 = .ok (.iadd, 1) := by decide +kernel
theorem dL_law_268 : decode code 268 = .ok (.iaload, 1) := by decide +kernel
theorem dL_law_269 : decode code 269 = .ok (.aload_n 0, 1) := by decide +kernel
theorem dL_law_270 : decode code 270 = .ok (.iload_n 3, 1) := by decide +kernel
theorem dL_law_271 : decode code 271 = .ok (.iconst 4, 1) := by decide +kernel
theorem dL_law_272 : decode code 272 = .ok (.iadd, 1) := by decide +kernel
theorem dL_law_273 : decode code 273 = .ok (.iaload, 1) := by decide +kernel
theorem dL_law_274 : decode code 274 = .ok (.aload_n 0, 1) := by decide +kernel
theorem dL_law_275 : decode code 275 = .ok (.iload_n 3, 1) := by decide +kernel
theorem dL_law_276 : decode code 276 = .ok (.iconst 5, 1) := by decide +kernel
theorem dL_law_277 : decode code 277 = .ok (.iadd, 1) := by decide +kernel
theorem dL_law_278 : decode code 278 = .ok (.iaload, 1) := by decide +kernel
theorem dL_law_279 : decode code 279 = .ok (.invokevirtual 25, 3) := by decide +kernel
theorem dL_law_282 : decode code 282 = .ok (.if_icmp .eq 1187, 3) := by decide +kernel
theorem dL_law_285 : decode code 285 = .ok (.iconst 0, 1) := by decide +kernel
theorem dL_law_286 : decode code 286 = .ok (.ireturn, 1) := by decide +kernel
theorem dL_law_287 : decode code 287 = .ok (.aload_n 1, 1) := by decide +kernel
theorem dL_law_288 : decode code 288 = .ok (.aload_n 0, 1) := by decide +kernel
theorem dL_law_289 : decode code 289 = .ok (.iload_n 3, 1) := by decide +kernel
theorem dL_law_290 : decode code 290 = .ok (.iconst 1, 1) := by decide +kernel
theorem dL_law_291 : decode code 291 = .ok (.iadd, 1) := by decide +kernel
theorem dL_law_292 : decode code 292 = .ok (.iaload, 1) := by decide +kernel
theorem dL_law_293 : decode code 293 = .ok (.invokevirtual 26, 3) := by decide +kernel
theorem dL_law_296 : decode code 296 = .ok (.aload_n 2, 1) := by decide +kernel
theorem dL_law_297 : decode code 297 = .ok (.aload_n 0, 1) := by decide +kernel
theorem dL_law_298 : decode code 298 = .ok (.iload_n 3, 1) := by decide +kernel
theorem dL_law_299 : decode code 299 = .ok (.iconst 1, 1) := by decide +kernel
theorem dL_law_300 : decode code 300 = .ok (.iadd, 1) := by decide +kernel
theorem dL_law_301 : decode code 301 = .ok (.iaload, 1) := by decide +kernel
theorem dL_law_302 : decode code 302 = .ok (.invokevirtual 30, 3) := by decide +kernel
theorem dL_law_305 : decode code 305 = .ok (.if_icmp .eq 1164, 3) := by decide +kernel
theorem dL_law_308 : decode code 308 = .ok (.iconst 0, 1) := by decide +kernel
theorem dL_law_309 : decode code 309 = .ok (.ireturn, 1) := by decide +kernel
theorem dL_law_310 : decode code 310 = .ok (.aload_n 1, 1) := by decide +kernel
theorem dL_law_311 : decode code 311 = .ok (.aload_n 0, 1) := by decide +kernel
theorem dL_law_312 : decode code 312 = .ok (.iload_n 3, 1) := by decide +kernel
theorem dL_law_313 : decode code 313 = .ok (.iconst 1, 1) := by decide +kernel
theorem dL_law_314 : decode code 314 = .ok (.iadd, 1) := by decide +kernel
theorem dL_law_315 : decode code 315 = .ok (.iaload, 1) := by decide +kernel
theorem dL_law_316 : decode code 316 = .ok (.invokevirtual 31, 3) := by decide +kernel
theorem dL_law_319 : decode code 319 = .ok (.aload_n 2, 1) := by decide +kernel
theorem dL_law_320 : decode code 320 = .ok (.aload_n 0, 1) := by decide +kernel
theorem dL_law_321 : decode code 321 = .ok (.iload_n 3, 1) := by decide +kernel
theorem dL_law_322 : decode code 322 = .ok (.iconst 1, 1) := by decide +kernel
theorem dL_law_323 : decode code 323 = .ok (.iadd, 1) := by decide +kernel
theorem dL_law_324 : decode code 324 = .ok (.iaload, 1) := by decide +kernel
theorem dL_law_325 : decode code 325 = .ok (.invokevirtual 35, 3) := by decide +kernel
theorem dL_law_328 : decode code 328 = .ok (.if_icmp .eq 1141, 3) := by decide +kernel
theorem dL_law_331 : decode code 331 = .ok (.iconst 0, 1) := by decide +kernel
theorem dL_law_332 : decode code 332 = .ok (.ireturn, 1) := by decide +kernel
theorem dL_law_333 : decode code 333 = .ok (.aload_n 1, 1) := by decide +kernel
theorem dL_law_334 : decode code 334 = .ok (.aload_n 0, 1) := by decide +kernel
theorem dL_law_335 : decode code 335 = .ok (.iload_n 3, 1) := by decide +kernel
theorem dL_law_336 : decode code 336 = .ok (.iconst 1, 1) := by decide +kernel
theorem dL_law_337 : decode code 337 = .ok (.iadd, 1) := by decide +kernel
theorem dL_law_338 : decode code 338 = .ok (.iaload, 1) := by decide +kernel
theorem dL_law_339 : decode code 339 = .ok (.aload_n 0, 1) := by decide +kernel
theorem dL_law_340 : decode code 340 = .ok (.iload_n 3, 1) := by decide +kernel
theorem dL_law_341 : decode code 341 = .ok (.iconst 2, 1) := by decide +kernel
theorem dL_law_342 : decode code 342 = .ok (.iadd, 1) := by decide +kernel
theorem dL_law_343 : decode code 343 = .ok (.iaload, 1) := by decide +kernel
theorem dL_law_344 : decode code 344 = .ok (.i2l, 1) := by decide +kernel
theorem dL_law_345 : decode code 345 = .ok (.bipush 32, 2) := by decide +kernel
theorem dL_law_347 : decode code 347 = .ok (.lshl, 1) := by decide +kernel
theorem dL_law_348 : decode code 348 = .ok (.aload_n 0, 1) := by decide +kernel
theorem dL_law_349 : decode code 349 = .ok (.iload_n 3, 1) := by decide +kernel
theorem dL_law_350 : decode code 350 = .ok (.iconst 3, 1) := by decide +kernel
theorem dL_law_351 : decode code 351 = .ok (.iadd, 1) := by decide +kernel
theorem dL_law_352 : decode code 352 = .ok (.iaload, 1) := by decide +kernel
theorem dL_law_353 : decode code 353 = .ok (.i2l, 1) := by decide +kernel
theorem dL_law_354 : decode code 354 = .ok (.ldc2_w 36, 3) := by decide +kernel
theorem dL_law_357 : decode code 357 = .ok (.land, 1) := by decide +kernel
theorem dL_law_358 : decode code 358 = .ok (.lor, 1) := by decide +kernel
theorem dL_law_359 : decode code 359 = .ok (.invokevirtual 38, 3) := by decide +kernel
theorem dL_law_362 : decode code 362 = .ok (.aload_n 2, 1) := by decide +kernel
theorem dL_law_363 : decode code 363 = .ok (.aload_n 0, 1) := by decide +kernel
theorem dL_law_364 : decode code 364 = .ok (.iload_n 3, 1) := by decide +kernel
theorem dL_law_365 : decode code 365 = .ok (.iconst 1, 1) := by decide +kernel
theorem dL_law_366 : decode code 366 = .ok (.iadd, 1) := by decide +kernel
theorem dL_law_367 : decode code 367 = .ok (.iaload, 1) := by decide +kernel
theorem dL_law_368 : decode code 368 = .ok (.aload_n 0, 1) := by decide +kernel
theorem dL_law_369 : decode code 369 = .ok (.iload_n 3, 1) := by decide +kernel
theorem dL_law_370 : decode code 370 = .ok (.iconst 2, 1) := by decide +kernel
theorem dL_law_371 : decode code 371 = .ok (.iadd, 1) := by decide +kernel
theorem dL_law_372 : decode code 372 = .ok (.iaload, 1) := by decide +kernel
theorem dL_law_373 : decode code 373 = .ok (.i2l, 1) := by decide +kernel
theorem dL_law_374 : decode code 374 = .ok (.bipush 32, 2) := by decide +kernel
theorem dL_law_376 : decode code 376 = .ok (.lshl, 1) := by decide +kernel
theorem dL_law_377 : decode code 377 = .ok (.aload_n 0, 1) := by decide +kernel
theorem dL_law_378 : decode code 378 = .ok (.iload_n 3, 1) := by decide +kernel
theorem dL_law_379 : decode code 379 = .ok (.iconst 3, 1) := by decide +kernel
theorem dL_law_380 : decode code 380 = .ok (.iadd, 1) := by decide +kernel
theorem dL_law_381 : decode code 381 = .ok (.iaload, 1) := by decide +kernel
theorem dL_law_382 : decode code 382 = .ok (.i2l, 1) := by decide +kernel
theorem dL_law_383 : decode code 383 = .ok (.ldc2_w 36, 3) := by decide +kernel
theorem dL_law_386 : decode code 386 = .ok (.land, 1) := by decide +kernel
theorem dL_law_387 : decode code 387 = .ok (.lor, 1) := by decide +kernel
theorem dL_law_388 : decode code 388 = .ok (.invokevirtual 42, 3) := by decide +kernel
theorem dL_law_391 : decode code 391 = .ok (.if_icmp .eq 1078, 3) := by decide +kernel
theorem dL_law_394 : decode code 394 = .ok (.iconst 0, 1) := by decide +kernel
theorem dL_law_395 : decode code 395 = .ok (.ireturn, 1) := by decide +kernel
theorem dL_law_396 : decode code 396 = .ok (.aload_n 1, 1) := by decide +kernel
theorem dL_law_397 : decode code 397 = .ok (.aload_n 0, 1) := by decide +kernel
theorem dL_law_398 : decode code 398 = .ok (.iload_n 3, 1) := by decide +kernel
theorem dL_law_399 : decode code 399 = .ok (.iconst 1, 1) := by decide +kernel
theorem dL_law_400 : decode code 400 = .ok (.iadd, 1) := by decide +kernel
theorem dL_law_401 : decode code 401 = .ok (.iaload, 1) := by decide +kernel
theorem dL_law_402 : decode code 402 = .ok (.aload_n 0, 1) := by decide +kernel
theorem dL_law_403 : decode code 403 = .ok (.iload_n 3, 1) := by decide +kernel
theorem dL_law_404 : decode code 404 = .ok (.iconst 2, 1) := by decide +kernel
theorem dL_law_405 : decode code 405 = .ok (.iadd, 1) := by decide +kernel
theorem dL_law_406 : decode code 406 = .ok (.iaload, 1) := by decide +kernel
theorem dL_law_407 : decode code 407 = .ok (.i2l, 1) := by decide +kernel
theorem dL_law_408 : decode code 408 = .ok (.bipush 32, 2) := by decide +kernel
theorem dL_law_410 : decode code 410 = .ok (.lshl, 1) := by decide +kernel
theorem dL_law_411 : decode code 411 = .ok (.aload_n 0, 1) := by decide +kernel
theorem dL_law_412 : decode code 412 = .ok (.iload_n 3, 1) := by decide +kernel
theorem dL_law_413 : decode code 413 = .ok (.iconst 3, 1) := by decide +kernel
theorem dL_law_414 : decode code 414 = .ok (.iadd, 1) := by decide +kernel
theorem dL_law_415 : decode code 415 = .ok (.iaload, 1) := by decide +kernel
theorem dL_law_416 : decode code 416 = .ok (.i2l, 1) := by decide +kernel
theorem dL_law_417 : decode code 417 = .ok (.ldc2_w 36, 3) := by decide +kernel
theorem dL_law_420 : decode code 420 = .ok (.land, 1) := by decide +kernel
theorem dL_law_421 : decode code 421 = .ok (.lor, 1) := by decide +kernel
theorem dL_law_422 : decode code 422 = .ok (.invokevirtual 43, 3) := by decide +kernel
theorem dL_law_425 : decode code 425 = .ok (.aload_n 2, 1) := by decide +kernel
theorem dL_law_426 : decode code 426 = .ok (.aload_n 0, 1) := by decide +kernel
theorem dL_law_427 : decode code 427 = .ok (.iload_n 3, 1) := by decide +kernel
theorem dL_law_428 : decode code 428 = .ok (.iconst 1, 1) := by decide +kernel
theorem dL_law_429 : decode code 429 = .ok (.iadd, 1) := by decide +kernel
theorem dL_law_430 : decode code 430 = .ok (.iaload, 1) := by decide +kernel
theorem dL_law_431 : decode code 431 = .ok (.aload_n 0, 1) := by decide +kernel
theorem dL_law_432 : decode code 432 = .ok (.iload_n 3, 1) := by decide +kernel
theorem dL_law_433 : decode code 433 = .ok (.iconst 2, 1) := by decide +kernel
theorem dL_law_434 : decode code 434 = .ok (.iadd, 1) := by decide +kernel
theorem dL_law_435 : decode code 435 = .ok (.iaload, 1) := by decide +kernel
theorem dL_law_436 : decode code 436 = .ok (.i2l, 1) := by decide +kernel
theorem dL_law_437 : decode code 437 = .ok (.bipush 32, 2) := by decide +kernel
theorem dL_law_439 : decode code 439 = .ok (.lshl, 1) := by decide +kernel
theorem dL_law_440 : decode code 440 = .ok (.aload_n 0, 1) := by decide +kernel
theorem dL_law_441 : decode code 441 = .ok (.iload_n 3, 1) := by decide +kernel
theorem dL_law_442 : decode code 442 = .ok (.iconst 3, 1) := by decide +kernel
theorem dL_law_443 : decode code 443 = .ok (.iadd, 1) := by decide +kernel
theorem dL_law_444 : decode code 444 = .ok (.iaload, 1) := by decide +kernel
theorem dL_law_445 : decode code 445 = .ok (.i2l, 1) := by decide +kernel
theorem dL_law_446 : decode code 446 = .ok (.ldc2_w 36, 3) := by decide +kernel
theorem dL_law_449 : decode code 449 = .ok (.land, 1) := by decide +kernel
theorem dL_law_450 : decode code 450 = .ok (.lor, 1) := by decide +kernel
theorem dL_law_451 : decode code 451 = .ok (.invokevirtual 46, 3) := by decide +kernel
theorem dL_law_454 : decode code 454 = .ok (.if_icmp .eq 1015, 3) := by decide +kernel
theorem dL_law_457 : decode code 457 = .ok (.iconst 0, 1) := by decide +kernel
theorem dL_law_458 : decode code 458 = .ok (.ireturn, 1) := by decide +kernel
theorem dL_law_459 : decode code 459 = .ok (.aload_n 1, 1) := by decide +kernel
theorem dL_law_460 : decode code 460 = .ok (.aload_n 0, 1) := by decide +kernel
theorem dL_law_461 : decode code 461 = .ok (.iload_n 3, 1) := by decide +kernel
theorem dL_law_462 : decode code 462 = .ok (.iconst 1, 1) := by decide +kernel
theorem dL_law_463 : decode code 463 = .ok (.iadd, 1) := by decide +kernel
theorem dL_law_464 : decode code 464 = .ok (.iaload, 1) := by decide +kernel
theorem dL_law_465 : decode code 465 = .ok (.aload_n 0, 1) := by decide +kernel
theorem dL_law_466 : decode code 466 = .ok (.iload_n 3, 1) := by decide +kernel
theorem dL_law_467 : decode code 467 = .ok (.iconst 2, 1) := by decide +kernel
theorem dL_law_468 : decode code 468 = .ok (.iadd, 1) := by decide +kernel
theorem dL_law_469 : decode code 469 = .ok (.iaload, 1) := by decide +kernel
theorem dL_law_470 : decode code 470 = .ok (.i2l, 1) := by decide +kernel
theorem dL_law_471 : decode code 471 = .ok (.bipush 32, 2) := by decide +kernel
theorem dL_law_473 : decode code 473 = .ok (.lshl, 1) := by decide +kernel
theorem dL_law_474 : decode code 474 = .ok (.aload_n 0, 1) := by decide +kernel
theorem dL_law_475 : decode code 475 = .ok (.iload_n 3, 1) := by decide +kernel
theorem dL_law_476 : decode code 476 = .ok (.iconst 3, 1) := by decide +kernel
theorem dL_law_477 : decode code 477 = .ok (.iadd, 1) := by decide +kernel
theorem dL_law_478 : decode code 478 = .ok (.iaload, 1) := by decide +kernel
theorem dL_law_479 : decode code 479 = .ok (.i2l, 1) := by decide +kernel
theorem dL_law_480 : decode code 480 = .ok (.ldc2_w 36, 3) := by decide +kernel
theorem dL_law_483 : decode code 483 = .ok (.land, 1) := by decide +kernel
theorem dL_law_484 : decode code 484 = .ok (.lor, 1) := by decide +kernel
theorem dL_law_485 : decode code 485 = .ok (.invokevirtual 47, 3) := by decide +kernel
theorem dL_law_488 : decode code 488 = .ok (.aload_n 2, 1) := by decide +kernel
theorem dL_law_489 : decode code 489 = .ok (.aload_n 0, 1) := by decide +kernel
theorem dL_law_490 : decode code 490 = .ok (.iload_n 3, 1) := by decide +kernel
theorem dL_law_491 : decode code 491 = .ok (.iconst 1, 1) := by decide +kernel
theorem dL_law_492 : decode code 492 = .ok (.iadd, 1) := by decide +kernel
theorem dL_law_493 : decode code 493 = .ok (.iaload, 1) := by decide +kernel
theorem dL_law_494 : decode code 494 = .ok (.aload_n 0, 1) := by decide +kernel
theorem dL_law_495 : decode code 495 = .ok (.iload_n 3, 1) := by decide +kernel
theorem dL_law_496 : decode code 496 = .ok (.iconst 2, 1) := by decide +kernel
theorem dL_law_497 : decode code 497 = .ok (.iadd, 1) := by decide +kernel
theorem dL_law_498 : decode code 498 = .ok (.iaload, 1) := by decide +kernel
theorem dL_law_499 : decode code 499 = .ok (.i2l, 1) := by decide +kernel
theorem dL_law_500 : decode code 500 = .ok (.bipush 32, 2) := by decide +kernel
theorem dL_law_502 : decode code 502 = .ok (.lshl, 1) := by decide +kernel
theorem dL_law_503 : decode code 503 = .ok (.aload_n 0, 1) := by decide +kernel
theorem dL_law_504 : decode code 504 = .ok (.iload_n 3, 1) := by decide +kernel
theorem dL_law_505 : decode code 505 = .ok (.iconst 3, 1) := by decide +kernel
theorem dL_law_506 : decode code 506 = .ok (.iadd, 1) := by decide +kernel
theorem dL_law_507 : decode code 507 = .ok (.iaload, 1) := by decide +kernel
theorem dL_law_508 : decode code 508 = .ok (.i2l, 1) := by decide +kernel
theorem dL_law_509 : decode code 509 = .ok (.ldc2_w 36, 3) := by decide +kernel
theorem dL_law_512 : decode code 512 = .ok (.land, 1) := by decide +kernel
theorem dL_law_513 : decode code 513 = .ok (.lor, 1) := by decide +kernel
theorem dL_law_514 : decode code 514 = .ok (.invokevirtual 50, 3) := by decide +kernel
theorem dL_law_517 : decode code 517 = .ok (.if_icmp .eq 952, 3) := by decide +kernel
theorem dL_law_520 : decode code 520 = .ok (.iconst 0, 1) := by decide +kernel
theorem dL_law_521 : decode code 521 = .ok (.ireturn, 1) := by decide +kernel
theorem dL_law_522 : decode code 522 = .ok (.aload_n 1, 1) := by decide +kernel
theorem dL_law_523 : decode code 523 = .ok (.aload_n 0, 1) := by decide +kernel
theorem dL_law_524 : decode code 524 = .ok (.iload_n 3, 1) := by decide +kernel
theorem dL_law_525 : decode code 525 = .ok (.iconst 1, 1) := by decide +kernel
theorem dL_law_526 : decode code 526 = .ok (.iadd, 1) := by decide +kernel
theorem dL_law_527 : decode code 527 = .ok (.iaload, 1) := by decide +kernel
theorem dL_law_528 : decode code 528 = .ok (.aload_n 0, 1) := by decide +kernel
theorem dL_law_529 : decode code 529 = .ok (.iload_n 3, 1) := by decide +kernel
theorem dL_law_530 : decode code 530 = .ok (.iconst 2, 1) := by decide +kernel
theorem dL_law_531 : decode code 531 = .ok (.iadd, 1) := by decide +kernel
theorem dL_law_532 : decode code 532 = .ok (.iaload, 1) := by decide +kernel
theorem dL_law_533 : decode code 533 = .ok (.i2l, 1) := by decide +kernel
theorem dL_law_534 : decode code 534 = .ok (.bipush 32, 2) := by decide +kernel
theorem dL_law_536 : decode code 536 = .ok (.lshl, 1) := by decide +kernel
theorem dL_law_537 : decode code 537 = .ok (.aload_n 0, 1) := by decide +kernel
theorem dL_law_538 : decode code 538 = .ok (.iload_n 3, 1) := by decide +kernel
theorem dL_law_539 : decode code 539 = .ok (.iconst 3, 1) := by decide +kernel
theorem dL_law_540 : decode code 540 = .ok (.iadd, 1) := by decide +kernel
theorem dL_law_541 : decode code 541 = .ok (.iaload, 1) := by decide +kernel
theorem dL_law_542 : decode code 542 = .ok (.i2l, 1) := by decide +kernel
theorem dL_law_543 : decode code 543 = .ok (.ldc2_w 36, 3) := by decide +kernel
theorem dL_law_546 : decode code 546 = .ok (.land, 1) := by decide +kernel
theorem dL_law_547 : decode code 547 = .ok (.lor, 1) := by decide +kernel
theorem dL_law_548 : decode code 548 = .ok (.invokevirtual 51, 3) := by decide +kernel
theorem dL_law_551 : decode code 551 = .ok (.aload_n 2, 1) := by decide +kernel
theorem dL_law_552 : decode code 552 = .ok (.aload_n 0, 1) := by decide +kernel
theorem dL_law_553 : decode code 553 = .ok (.iload_n 3, 1) := by decide +kernel
theorem dL_law_554 : decode code 554 = .ok (.iconst 1, 1) := by decide +kernel
theorem dL_law_555 : decode code 555 = .ok (.iadd, 1) := by decide +kernel
theorem dL_law_556 : decode code 556 = .ok (.iaload, 1) := by decide +kernel
theorem dL_law_557 : decode code 557 = .ok (.aload_n 0, 1) := by decide +kernel
theorem dL_law_558 : decode code 558 = .ok (.iload_n 3, 1) := by decide +kernel
theorem dL_law_559 : decode code 559 = .ok (.iconst 2, 1) := by decide +kernel
theorem dL_law_560 : decode code 560 = .ok (.iadd, 1) := by decide +kernel
theorem dL_law_561 : decode code 561 = .ok (.iaload, 1) := by decide +kernel
theorem dL_law_562 : decode code 562 = .ok (.i2l, 1) := by decide +kernel
theorem dL_law_563 : decode code 563 = .ok (.bipush 32, 2) := by decide +kernel
theorem dL_law_565 : decode code 565 = .ok (.lshl, 1) := by decide +kernel
theorem dL_law_566 : decode code 566 = .ok (.aload_n 0, 1) := by decide +kernel
theorem dL_law_567 : decode code 567 = .ok (.iload_n 3, 1) := by decide +kernel
theorem dL_law_568 : decode code 568 = .ok (.iconst 3, 1) := by decide +kernel
theorem dL_law_569 : decode code 569 = .ok (.iadd, 1) := by decide +kernel
theorem dL_law_570 : decode code 570 = .ok (.iaload, 1) := by decide +kernel
theorem dL_law_571 : decode code 571 = .ok (.i2l, 1) := by decide +kernel
theorem dL_law_572 : decode code 572 = .ok (.ldc2_w 36, 3) := by decide +kernel
theorem dL_law_575 : decode code 575 = .ok (.land, 1) := by decide +kernel
theorem dL_law_576 : decode code 576 = .ok (.lor, 1) := by decide +kernel
theorem dL_law_577 : decode code 577 = .ok (.invokevirtual 54, 3) := by decide +kernel
theorem dL_law_580 : decode code 580 = .ok (.if_icmp .eq 889, 3) := by decide +kernel
theorem dL_law_583 : decode code 583 = .ok (.iconst 0, 1) := by decide +kernel
theorem dL_law_584 : decode code 584 = .ok (.ireturn, 1) := by decide +kernel
theorem dL_law_585 : decode code 585 = .ok (.aload_n 1, 1) := by decide +kernel
theorem dL_law_586 : decode code 586 = .ok (.aload_n 0, 1) := by decide +kernel
theorem dL_law_587 : decode code 587 = .ok (.iload_n 3, 1) := by decide +kernel
theorem dL_law_588 : decode code 588 = .ok (.iconst 1, 1) := by decide +kernel
theorem dL_law_589 : decode code 589 = .ok (.iadd, 1) := by decide +kernel
theorem dL_law_590 : decode code 590 = .ok (.iaload, 1) := by decide +kernel
theorem dL_law_591 : decode code 591 = .ok (.aload_n 0, 1) := by decide +kernel
theorem dL_law_592 : decode code 592 = .ok (.iload_n 3, 1) := by decide +kernel
theorem dL_law_593 : decode code 593 = .ok (.iconst 2, 1) := by decide +kernel
theorem dL_law_594 : decode code 594 = .ok (.iadd, 1) := by decide +kernel
theorem dL_law_595 : decode code 595 = .ok (.iaload, 1) := by decide +kernel
theorem dL_law_596 : decode code 596 = .ok (.i2l, 1) := by decide +kernel
theorem dL_law_597 : decode code 597 = .ok (.bipush 32, 2) := by decide +kernel
theorem dL_law_599 : decode code 599 = .ok (.lshl, 1) := by decide +kernel
theorem dL_law_600 : decode code 600 = .ok (.aload_n 0, 1) := by decide +kernel
theorem dL_law_601 : decode code 601 = .ok (.iload_n 3, 1) := by decide +kernel
theorem dL_law_602 : decode code 602 = .ok (.iconst 3, 1) := by decide +kernel
theorem dL_law_603 : decode code 603 = .ok (.iadd, 1) := by decide +kernel
theorem dL_law_604 : decode code 604 = .ok (.iaload, 1) := by decide +kernel
theorem dL_law_605 : decode code 605 = .ok (.i2l, 1) := by decide +kernel
theorem dL_law_606 : decode code 606 = .ok (.ldc2_w 36, 3) := by decide +kernel
theorem dL_law_609 : decode code 609 = .ok (.land, 1) := by decide +kernel
theorem dL_law_610 : decode code 610 = .ok (.lor, 1) := by decide +kernel
theorem dL_law_611 : decode code 611 = .ok (.aload_n 0, 1) := by decide +kernel
theorem dL_law_612 : decode code 612 = .ok (.iload_n 3, 1) := by decide +kernel
theorem dL_law_613 : decode code 613 = .ok (.iconst 4, 1) := by decide +kernel
theorem dL_law_614 : decode code 614 = .ok (.iadd, 1) := by decide +kernel
theorem dL_law_615 : decode code 615 = .ok (.iaload, 1) := by decide +kernel
theorem dL_law_616 : decode code 616 = .ok (.invokevirtual 55, 3) := by decide +kernel
theorem dL_law_619 : decode code 619 = .ok (.aload_n 2, 1) := by decide +kernel
theorem dL_law_620 : decode code 620 = .ok (.aload_n 0, 1) := by decide +kernel
theorem dL_law_621 : decode code 621 = .ok (.iload_n 3, 1) := by decide +kernel
theorem dL_law_622 : decode code 622 = .ok (.iconst 1, 1) := by decide +kernel
theorem dL_law_623 : decode code 623 = .ok (.iadd, 1) := by decide +kernel
theorem dL_law_624 : decode code 624 = .ok (.iaload, 1) := by decide +kernel
theorem dL_law_625 : decode code 625 = .ok (.aload_n 0, 1) := by decide +kernel
theorem dL_law_626 : decode code 626 = .ok (.iload_n 3, 1) := by decide +kernel
theorem dL_law_627 : decode code 627 = .ok (.iconst 2, 1) := by decide +kernel
theorem dL_law_628 : decode code 628 = .ok (.iadd, 1) := by decide +kernel
theorem dL_law_629 : decode code 629 = .ok (.iaload, 1) := by decide +kernel
theorem dL_law_630 : decode code 630 = .ok (.i2l, 1) := by decide +kernel
theorem dL_law_631 : decode code 631 = .ok (.bipush 32, 2) := by decide +kernel
theorem dL_law_633 : decode code 633 = .ok (.lshl, 1) := by decide +kernel
theorem dL_law_634 : decode code 634 = .ok (.aload_n 0, 1) := by decide +kernel
theorem dL_law_635 : decode code 635 = .ok (.iload_n 3, 1) := by decide +kernel
theorem dL_law_636 : decode code 636 = .ok (.iconst 3, 1) := by decide +kernel
theorem dL_law_637 : decode code 637 = .ok (.iadd, 1) := by decide +kernel
theorem dL_law_638 : decode code 638 = .ok (.iaload, 1) := by decide +kernel
theorem dL_law_639 : decode code 639 = .ok (.i2l, 1) := by decide +kernel
theorem dL_law_640 : decode code 640 = .ok (.ldc2_w 36, 3) := by decide +kernel
theorem dL_law_643 : decode code 643 = .ok (.land, 1) := by decide +kernel
theorem dL_law_644 : decode code 644 = .ok (.lor, 1) := by decide +kernel
theorem dL_law_645 : decode code 645 = .ok (.aload_n 0, 1) := by decide +kernel
theorem dL_law_646 : decode code 646 = .ok (.iload_n 3, 1) := by decide +kernel
theorem dL_law_647 : decode code 647 = .ok (.iconst 4, 1) := by decide +kernel
theorem dL_law_648 : decode code 648 = .ok (.iadd, 1) := by decide +kernel
theorem dL_law_649 : decode code 649 = .ok (.iaload, 1) := by decide +kernel
theorem dL_law_650 : decode code 650 = .ok (.invokevirtual 59, 3) := by decide +kernel
theorem dL_law_653 : decode code 653 = .ok (.if_icmp .eq 816, 3) := by decide +kernel
theorem dL_law_656 : decode code 656 = .ok (.iconst 0, 1) := by decide +kernel
theorem dL_law_657 : decode code 657 = .ok (.ireturn, 1) := by decide +kernel
theorem dL_law_658 : decode code 658 = .ok (.aload_n 1, 1) := by decide +kernel
theorem dL_law_659 : decode code 659 = .ok (.aload_n 0, 1) := by decide +kernel
theorem dL_law_660 : decode code 660 = .ok (.iload_n 3, 1) := by decide +kernel
theorem dL_law_661 : decode code 661 = .ok (.iconst 1, 1) := by decide +kernel
theorem dL_law_662 : decode code 662 = .ok (.iadd, 1) := by decide +kernel
theorem dL_law_663 : decode code 663 = .ok (.iaload, 1) := by decide +kernel
theorem dL_law_664 : decode code 664 = .ok (.aload_n 0, 1) := by decide +kernel
theorem dL_law_665 : decode code 665 = .ok (.iload_n 3, 1) := by decide +kernel
theorem dL_law_666 : decode code 666 = .ok (.iconst 2, 1) := by decide +kernel
theorem dL_law_667 : decode code 667 = .ok (.iadd, 1) := by decide +kernel
theorem dL_law_668 : decode code 668 = .ok (.iaload, 1) := by decide +kernel
theorem dL_law_669 : decode code 669 = .ok (.invokevirtual 60, 3) := by decide +kernel
theorem dL_law_672 : decode code 672 = .ok (.aload_n 2, 1) := by decide +kernel
theorem dL_law_673 : decode code 673 = .ok (.aload_n 0, 1) := by decide +kernel
theorem dL_law_674 : decode code 674 = .ok (.iload_n 3, 1) := by decide +kernel
theorem dL_law_675 : decode code 675 = .ok (.iconst 1, 1) := by decide +kernel
theorem dL_law_676 : decode code 676 = .ok (.iadd, 1) := by decide +kernel
theorem dL_law_677 : decode code 677 = .ok (.iaload, 1) := by decide +kernel
theorem dL_law_678 : decode code 678 = .ok (.aload_n 0, 1) := by decide +kernel
theorem dL_law_679 : decode code 679 = .ok (.iload_n 3, 1) := by decide +kernel
theorem dL_law_680 : decode code 680 = .ok (.iconst 2, 1) := by decide +kernel
theorem dL_law_681 : decode code 681 = .ok (.iadd, 1) := by decide +kernel
theorem dL_law_682 : decode code 682 = .ok (.iaload, 1) := by decide +kernel
theorem dL_law_683 : decode code 683 = .ok (.invokevirtual 64, 3) := by decide +kernel
theorem dL_law_686 : decode code 686 = .ok (.if_icmp .eq 783, 3) := by decide +kernel
theorem dL_law_689 : decode code 689 = .ok (.iconst 0, 1) := by decide +kernel
theorem dL_law_690 : decode code 690 = .ok (.ireturn, 1) := by decide +kernel
theorem dL_law_691 : decode code 691 = .ok (.aload_n 1, 1) := by decide +kernel
theorem dL_law_692 : decode code 692 = .ok (.aload_n 0, 1) := by decide +kernel
theorem dL_law_693 : decode code 693 = .ok (.iload_n 3, 1) := by decide +kernel
theorem dL_law_694 : decode code 694 = .ok (.iconst 1, 1) := by decide +kernel
theorem dL_law_695 : decode code 695 = .ok (.iadd, 1) := by decide +kernel
theorem dL_law_696 : decode code 696 = .ok (.iaload, 1) := by decide +kernel
theorem dL_law_697 : decode code 697 = .ok (.aload_n 0, 1) := by decide +kernel
theorem dL_law_698 : decode code 698 = .ok (.iload_n 3, 1) := by decide +kernel
theorem dL_law_699 : decode code 699 = .ok (.iconst 2, 1) := by decide +kernel
theorem dL_law_700 : decode code 700 = .ok (.iadd, 1) := by decide +kernel
theorem dL_law_701 : decode code 701 = .ok (.iaload, 1) := by decide +kernel
theorem dL_law_702 : decode code 702 = .ok (.invokevirtual 65, 3) := by decide +kernel
theorem dL_law_705 : decode code 705 = .ok (.aload_n 2, 1) := by decide +kernel
theorem dL_law_706 : decode code 706 = .ok (.aload_n 0, 1) := by decide +kernel
theorem dL_law_707 : decode code 707 = .ok (.iload_n 3, 1) := by decide +kernel
theorem dL_law_708 : decode code 708 = .ok (.iconst 1, 1) := by decide +kernel
theorem dL_law_709 : decode code 709 = .ok (.iadd, 1) := by decide +kernel
theorem dL_law_710 : decode code 710 = .ok (.iaload, 1) := by decide +kernel
theorem dL_law_711 : decode code 711 = .ok (.aload_n 0, 1) := by decide +kernel
theorem dL_law_712 : decode code 712 = .ok (.iload_n 3, 1) := by decide +kernel
theorem dL_law_713 : decode code 713 = .ok (.iconst 2, 1) := by decide +kernel
theorem dL_law_714 : decode code 714 = .ok (.iadd, 1) := by decide +kernel
theorem dL_law_715 : decode code 715 = .ok (.iaload, 1) := by decide +kernel
theorem dL_law_716 : decode code 716 = .ok (.invokevirtual 68, 3) := by decide +kernel
theorem dL_law_719 : decode code 719 = .ok (.if_icmp .eq 750, 3) := by decide +kernel
theorem dL_law_722 : decode code 722 = .ok (.iconst 0, 1) := by decide +kernel
theorem dL_law_723 : decode code 723 = .ok (.ireturn, 1) := by decide +kernel
theorem dL_law_724 : decode code 724 = .ok (.aload_n 1, 1) := by decide +kernel
theorem dL_law_725 : decode code 725 = .ok (.aload_n 0, 1) := by decide +kernel
theorem dL_law_726 : decode code 726 = .ok (.iload_n 3, 1) := by decide +kernel
theorem dL_law_727 : decode code 727 = .ok (.iconst 1, 1) := by decide +kernel
theorem dL_law_728 : decode code 728 = .ok (.iadd, 1) := by decide +kernel
theorem dL_law_729 : decode code 729 = .ok (.iaload, 1) := by decide +kernel
theorem dL_law_730 : decode code 730 = .ok (.aload_n 0, 1) := by decide +kernel
theorem dL_law_731 : decode code 731 = .ok (.iload_n 3, 1) := by decide +kernel
theorem dL_law_732 : decode code 732 = .ok (.iconst 2, 1) := by decide +kernel
theorem dL_law_733 : decode code 733 = .ok (.iadd, 1) := by decide +kernel
theorem dL_law_734 : decode code 734 = .ok (.iaload, 1) := by decide +kernel
theorem dL_law_735 : decode code 735 = .ok (.i2l, 1) := by decide +kernel
theorem dL_law_736 : decode code 736 = .ok (.bipush 32, 2) := by decide +kernel
theorem dL_law_738 : decode code 738 = .ok (.lshl, 1) := by decide +kernel
theorem dL_law_739 : decode code 739 = .ok (.aload_n 0, 1) := by decide +kernel
theorem dL_law_740 : decode code 740 = .ok (.iload_n 3, 1) := by decide +kernel
theorem dL_law_741 : decode code 741 = .ok (.iconst 3, 1) := by decide +kernel
theorem dL_law_742 : decode code 742 = .ok (.iadd, 1) := by decide +kernel
theorem dL_law_743 : decode code 743 = .ok (.iaload, 1) := by decide +kernel
theorem dL_law_744 : decode code 744 = .ok (.i2l, 1) := by decide +kernel
theorem dL_law_745 : decode code 745 = .ok (.ldc2_w 36, 3) := by decide +kernel
theorem dL_law_748 : decode code 748 = .ok (.land, 1) := by decide +kernel
theorem dL_law_749 : decode code 749 = .ok (.lor, 1) := by decide +kernel
theorem dL_law_750 : decode code 750 = .ok (.invokevirtual 69, 3) := by decide +kernel
theorem dL_law_753 : decode code 753 = .ok (.aload_n 2, 1) := by decide +kernel
theorem dL_law_754 : decode code 754 = .ok (.aload_n 0, 1) := by decide +kernel
theorem dL_law_755 : decode code 755 = .ok (.iload_n 3, 1) := by decide +kernel
theorem dL_law_756 : decode code 756 = .ok (.iconst 1, 1) := by decide +kernel
theorem dL_law_757 : decode code 757 = .ok (.iadd, 1) := by decide +kernel
theorem dL_law_758 : decode code 758 = .ok (.iaload, 1) := by decide +kernel
theorem dL_law_759 : decode code 759 = .ok (.aload_n 0, 1) := by decide +kernel
theorem dL_law_760 : decode code 760 = .ok (.iload_n 3, 1) := by decide +kernel
theorem dL_law_761 : decode code 761 = .ok (.iconst 2, 1) := by decide +kernel
theorem dL_law_762 : decode code 762 = .ok (.iadd, 1) := by decide +kernel
theorem dL_law_763 : decode code 763 = .ok (.iaload, 1) := by decide +kernel
theorem dL_law_764 : decode code 764 = .ok (.i2l, 1) := by decide +kernel
theorem dL_law_765 : decode code 765 = .ok (.bipush 32, 2) := by decide +kernel
theorem dL_law_767 : decode code 767 = .ok (.lshl, 1) := by decide +kernel
theorem dL_law_768 : decode code 768 = .ok (.aload_n 0, 1) := by decide +kernel
theorem dL_law_769 : decode code 769 = .ok (.iload_n 3, 1) := by decide +kernel
theorem dL_law_770 : decode code 770 = .ok (.iconst 3, 1) := by decide +kernel
theorem dL_law_771 : decode code 771 = .ok (.iadd, 1) := by decide +kernel
theorem dL_law_772 : decode code 772 = .ok (.iaload, 1) := by decide +kernel
theorem dL_law_773 : decode code 773 = .ok (.i2l, 1) := by decide +kernel
theorem dL_law_774 : decode code 774 = .ok (.ldc2_w 36, 3) := by decide +kernel
theorem dL_law_777 : decode code 777 = .ok (.land, 1) := by decide +kernel
theorem dL_law_778 : decode code 778 = .ok (.lor, 1) := by decide +kernel
theorem dL_law_779 : decode code 779 = .ok (.invokevirtual 72, 3) := by decide +kernel
theorem dL_law_782 : decode code 782 = .ok (.if_icmp .eq 687, 3) := by decide +kernel
theorem dL_law_785 : decode code 785 = .ok (.iconst 0, 1) := by decide +kernel
theorem dL_law_786 : decode code 786 = .ok (.ireturn, 1) := by decide +kernel
theorem dL_law_787 : decode code 787 = .ok (.aload_n 1, 1) := by decide +kernel
theorem dL_law_788 : decode code 788 = .ok (.aload_n 0, 1) := by decide +kernel
theorem dL_law_789 : decode code 789 = .ok (.iload_n 3, 1) := by decide +kernel
theorem dL_law_790 : decode code 790 = .ok (.iconst 1, 1) := by decide +kernel
theorem dL_law_791 : decode code 791 = .ok (.iadd, 1) := by decide +kernel
theorem dL_law_792 : decode code 792 = .ok (.iaload, 1) := by decide +kernel
theorem dL_law_793 : decode code 793 = .ok (.aload_n 0, 1) := by decide +kernel
theorem dL_law_794 : decode code 794 = .ok (.iload_n 3, 1) := by decide +kernel
theorem dL_law_795 : decode code 795 = .ok (.iconst 2, 1) := by decide +kernel
theorem dL_law_796 : decode code 796 = .ok (.iadd, 1) := by decide +kernel
theorem dL_law_797 : decode code 797 = .ok (.iaload, 1) := by decide +kernel
theorem dL_law_798 : decode code 798 = .ok (.i2l, 1) := by decide +kernel
theorem dL_law_799 : decode code 799 = .ok (.bipush 32, 2) := by decide +kernel
theorem dL_law_801 : decode code 801 = .ok (.lshl, 1) := by decide +kernel
theorem dL_law_802 : decode code 802 = .ok (.aload_n 0, 1) := by decide +kernel
theorem dL_law_803 : decode code 803 = .ok (.iload_n 3, 1) := by decide +kernel
theorem dL_law_804 : decode code 804 = .ok (.iconst 3, 1) := by decide +kernel
theorem dL_law_805 : decode code 805 = .ok (.iadd, 1) := by decide +kernel
theorem dL_law_806 : decode code 806 = .ok (.iaload, 1) := by decide +kernel
theorem dL_law_807 : decode code 807 = .ok (.i2l, 1) := by decide +kernel
theorem dL_law_808 : decode code 808 = .ok (.ldc2_w 36, 3) := by decide +kernel
theorem dL_law_811 : decode code 811 = .ok (.land, 1) := by decide +kernel
theorem dL_law_812 : decode code 812 = .ok (.lor, 1) := by decide +kernel
theorem dL_law_813 : decode code 813 = .ok (.aload_n 0, 1) := by decide +kernel
theorem dL_law_814 : decode code 814 = .ok (.iload_n 3, 1) := by decide +kernel
theorem dL_law_815 : decode code 815 = .ok (.iconst 4, 1) := by decide +kernel
theorem dL_law_816 : decode code 816 = .ok (.iadd, 1) := by decide +kernel
theorem dL_law_817 : decode code 817 = .ok (.iaload, 1) := by decide +kernel
theorem dL_law_818 : decode code 818 = .ok (.aload_n 0, 1) := by decide +kernel
theorem dL_law_819 : decode code 819 = .ok (.iload_n 3, 1) := by decide +kernel
theorem dL_law_820 : decode code 820 = .ok (.iconst 5, 1) := by decide +kernel
theorem dL_law_821 : decode code 821 = .ok (.iadd, 1) := by decide +kernel
theorem dL_law_822 : decode code 822 = .ok (.iaload, 1) := by decide +kernel
theorem dL_law_823 : decode code 823 = .ok (.i2l, 1) := by decide +kernel
theorem dL_law_824 : decode code 824 = .ok (.bipush 32, 2) := by decide +kernel
theorem dL_law_826 : decode code 826 = .ok (.lshl, 1) := by decide +kernel
theorem dL_law_827 : decode code 827 = .ok (.aload_n 0, 1) := by decide +kernel
theorem dL_law_828 : decode code 828 = .ok (.iload_n 3, 1) := by decide +kernel
theorem dL_law_829 : decode code 829 = .ok (.bipush 6, 2) := by decide +kernel
theorem dL_law_831 : decode code 831 = .ok (.iadd, 1) := by decide +kernel
theorem dL_law_832 : decode code 832 = .ok (.iaload, 1) := by decide +kernel
theorem dL_law_833 : decode code 833 = .ok (.i2l, 1) := by decide +kernel
theorem dL_law_834 : decode code 834 = .ok (.ldc2_w 36, 3) := by decide +kernel
theorem dL_law_837 : decode code 837 = .ok (.land, 1) := by decide +kernel
theorem dL_law_838 : decode code 838 = .ok (.lor, 1) := by decide +kernel
theorem dL_law_839 : decode code 839 = .ok (.invokevirtual 73, 3) := by decide +kernel
theorem dL_law_842 : decode code 842 = .ok (.aload_n 2, 1) := by decide +kernel
theorem dL_law_843 : decode code 843 = .ok (.aload_n 0, 1) := by decide +kernel
theorem dL_law_844 : decode code 844 = .ok (.iload_n 3, 1) := by decide +kernel
theorem dL_law_845 : decode code 845 = .ok (.iconst 1, 1) := by decide +kernel
theorem dL_law_846 : decode code 846 = .ok (.iadd, 1) := by decide +kernel
theorem dL_law_847 : decode code 847 = .ok (.iaload, 1) := by decide +kernel
theorem dL_law_848 : decode code 848 = .ok (.aload_n 0, 1) := by decide +kernel
theorem dL_law_849 : decode code 849 = .ok (.iload_n 3, 1) := by decide +kernel
theorem dL_law_850 : decode code 850 = .ok (.iconst 2, 1) := by decide +kernel
theorem dL_law_851 : decode code 851 = .ok (.iadd, 1) := by decide +kernel
theorem dL_law_852 : decode code 852 = .ok (.iaload, 1) := by decide +kernel
theorem dL_law_853 : decode code 853 = .ok (.i2l, 1) := by decide +kernel
theorem dL_law_854 : decode code 854 = .ok (.bipush 32, 2) := by decide +kernel
theorem dL_law_856 : decode code 856 = .ok (.lshl, 1) := by decide +kernel
theorem dL_law_857 : decode code 857 = .ok (.aload_n 0, 1) := by decide +kernel
theorem dL_law_858 : decode code 858 = .ok (.iload_n 3, 1) := by decide +kernel
theorem dL_law_859 : decode code 859 = .ok (.iconst 3, 1) := by decide +kernel
theorem dL_law_860 : decode code 860 = .ok (.iadd, 1) := by decide +kernel
theorem dL_law_861 : decode code 861 = .ok (.iaload, 1) := by decide +kernel
theorem dL_law_862 : decode code 862 = .ok (.i2l, 1) := by decide +kernel
theorem dL_law_863 : decode code 863 = .ok (.ldc2_w 36, 3) := by decide +kernel
theorem dL_law_866 : decode code 866 = .ok (.land, 1) := by decide +kernel
theorem dL_law_867 : decode code 867 = .ok (.lor, 1) := by decide +kernel
theorem dL_law_868 : decode code 868 = .ok (.aload_n 0, 1) := by decide +kernel
theorem dL_law_869 : decode code 869 = .ok (.iload_n 3, 1) := by decide +kernel
theorem dL_law_870 : decode code 870 = .ok (.iconst 4, 1) := by decide +kernel
theorem dL_law_871 : decode code 871 = .ok (.iadd, 1) := by decide +kernel
theorem dL_law_872 : decode code 872 = .ok (.iaload, 1) := by decide +kernel
theorem dL_law_873 : decode code 873 = .ok (.aload_n 0, 1) := by decide +kernel
theorem dL_law_874 : decode code 874 = .ok (.iload_n 3, 1) := by decide +kernel
theorem dL_law_875 : decode code 875 = .ok (.iconst 5, 1) := by decide +kernel
theorem dL_law_876 : decode code 876 = .ok (.iadd, 1) := by decide +kernel
theorem dL_law_877 : decode code 877 = .ok (.iaload, 1) := by decide +kernel
theorem dL_law_878 : decode code 878 = .ok (.i2l, 1) := by decide +kernel
theorem dL_law_879 : decode code 879 = .ok (.bipush 32, 2) := by decide +kernel
theorem dL_law_881 : decode code 881 = .ok (.lshl, 1) := by decide +kernel
theorem dL_law_882 : decode code 882 = .ok (.aload_n 0, 1) := by decide +kernel
theorem dL_law_883 : decode code 883 = .ok (.iload_n 3, 1) := by decide +kernel
theorem dL_law_884 : decode code 884 = .ok (.bipush 6, 2) := by decide +kernel
theorem dL_law_886 : decode code 886 = .ok (.iadd, 1) := by decide +kernel
theorem dL_law_887 : decode code 887 = .ok (.iaload, 1) := by decide +kernel
theorem dL_law_888 : decode code 888 = .ok (.i2l, 1) := by decide +kernel
theorem dL_law_889 : decode code 889 = .ok (.ldc2_w 36, 3) := by decide +kernel
theorem dL_law_892 : decode code 892 = .ok (.land, 1) := by decide +kernel
theorem dL_law_893 : decode code 893 = .ok (.lor, 1) := by decide +kernel
theorem dL_law_894 : decode code 894 = .ok (.invokevirtual 77, 3) := by decide +kernel
theorem dL_law_897 : decode code 897 = .ok (.if_icmp .eq 572, 3) := by decide +kernel
theorem dL_law_900 : decode code 900 = .ok (.iconst 0, 1) := by decide +kernel
theorem dL_law_901 : decode code 901 = .ok (.ireturn, 1) := by decide +kernel
theorem dL_law_902 : decode code 902 = .ok (.aload_n 1, 1) := by decide +kernel
theorem dL_law_903 : decode code 903 = .ok (.aload_n 0, 1) := by decide +kernel
theorem dL_law_904 : decode code 904 = .ok (.iload_n 3, 1) := by decide +kernel
theorem dL_law_905 : decode code 905 = .ok (.iconst 1, 1) := by decide +kernel
theorem dL_law_906 : decode code 906 = .ok (.iadd, 1) := by decide +kernel
theorem dL_law_907 : decode code 907 = .ok (.iaload, 1) := by decide +kernel
theorem dL_law_908 : decode code 908 = .ok (.aload_n 0, 1) := by decide +kernel
theorem dL_law_909 : decode code 909 = .ok (.iload_n 3, 1) := by decide +kernel
theorem dL_law_910 : decode code 910 = .ok (.iconst 2, 1) := by decide +kernel
theorem dL_law_911 : decode code 911 = .ok (.iadd, 1) := by decide +kernel
theorem dL_law_912 : decode code 912 = .ok (.iaload, 1) := by decide +kernel
theorem dL_law_913 : decode code 913 = .ok (.i2l, 1) := by decide +kernel
theorem dL_law_914 : decode code 914 = .ok (.bipush 32, 2) := by decide +kernel
theorem dL_law_916 : decode code 916 = .ok (.lshl, 1) := by decide +kernel
theorem dL_law_917 : decode code 917 = .ok (.aload_n 0, 1) := by decide +kernel
theorem dL_law_918 : decode code 918 = .ok (.iload_n 3, 1) := by decide +kernel
theorem dL_law_919 : decode code 919 = .ok (.iconst 3, 1) := by decide +kernel
theorem dL_law_920 : decode code 920 = .ok (.iadd, 1) := by decide +kernel
theorem dL_law_921 : decode code 921 = .ok (.iaload, 1) := by decide +kernel
theorem dL_law_922 : decode code 922 = .ok (.i2l, 1) := by decide +kernel
theorem dL_law_923 : decode code 923 = .ok (.ldc2_w 36, 3) := by decide +kernel
theorem dL_law_926 : decode code 926 = .ok (.land, 1) := by decide +kernel
theorem dL_law_927 : decode code 927 = .ok (.lor, 1) := by decide +kernel
theorem dL_law_928 : decode code 928 = .ok (.invokevirtual 78, 3) := by decide +kernel
theorem dL_law_931 : decode code 931 = .ok (.aload_n 2, 1) := by decide +kernel
theorem dL_law_932 : decode code 932 = .ok (.aload_n 0, 1) := by decide +kernel
theorem dL_law_933 : decode code 933 = .ok (.iload_n 3, 1) := by decide +kernel
theorem dL_law_934 : decode code 934 = .ok (.iconst 1, 1) := by decide +kernel
theorem dL_law_935 : decode code 935 = .ok (.iadd, 1) := by decide +kernel
theorem dL_law_936 : decode code 936 = .ok (.iaload, 1) := by decide +kernel
theorem dL_law_937 : decode code 937 = .ok (.aload_n 0, 1) := by decide +kernel
theorem dL_law_938 : decode code 938 = .ok (.iload_n 3, 1) := by decide +kernel
theorem dL_law_939 : decode code 939 = .ok (.iconst 2, 1) := by decide +kernel
theorem dL_law_940 : decode code 940 = .ok (.iadd, 1) := by decide +kernel
theorem dL_law_941 : decode code 941 = .ok (.iaload, 1) := by decide +kernel
theorem dL_law_942 : decode code 942 = .ok (.i2l, 1) := by decide +kernel
theorem dL_law_943 : decode code 943 = .ok (.bipush 32, 2) := by decide +kernel
theorem dL_law_945 : decode code 945 = .ok (.lshl, 1) := by decide +kernel
theorem dL_law_946 : decode code 946 = .ok (.aload_n 0, 1) := by decide +kernel
theorem dL_law_947 : decode code 947 = .ok (.iload_n 3, 1) := by decide +kernel
theorem dL_law_948 : decode code 948 = .ok (.iconst 3, 1) := by decide +kernel
theorem dL_law_949 : decode code 949 = .ok (.iadd, 1) := by decide +kernel
theorem dL_law_950 : decode code 950 = .ok (.iaload, 1) := by decide +kernel
theorem dL_law_951 : decode code 951 = .ok (.i2l, 1) := by decide +kernel
theorem dL_law_952 : decode code 952 = .ok (.ldc2_w 36, 3) := by decide +kernel
theorem dL_law_955 : decode code 955 = .ok (.land, 1) := by decide +kernel
theorem dL_law_956 : decode code 956 = .ok (.lor, 1) := by decide +kernel
theorem dL_law_957 : decode code 957 = .ok (.invokevirtual 81, 3) := by decide +kernel
theorem dL_law_960 : decode code 960 = .ok (.if_icmp .eq 509, 3) := by decide +kernel
theorem dL_law_963 : decode code 963 = .ok (.iconst 0, 1) := by decide +kernel
theorem dL_law_964 : decode code 964 = .ok (.ireturn, 1) := by decide +kernel
theorem dL_law_965 : decode code 965 = .ok (.aload_n 1, 1) := by decide +kernel
theorem dL_law_966 : decode code 966 = .ok (.aload_n 0, 1) := by decide +kernel
theorem dL_law_967 : decode code 967 = .ok (.iload_n 3, 1) := by decide +kernel
theorem dL_law_968 : decode code 968 = .ok (.iconst 1, 1) := by decide +kernel
theorem dL_law_969 : decode code 969 = .ok (.iadd, 1) := by decide +kernel
theorem dL_law_970 : decode code 970 = .ok (.iaload, 1) := by decide +kernel
theorem dL_law_971 : decode code 971 = .ok (.invokevirtual 82, 3) := by decide +kernel
theorem dL_law_974 : decode code 974 = .ok (.aload_n 2, 1) := by decide +kernel
theorem dL_law_975 : decode code 975 = .ok (.aload_n 0, 1) := by decide +kernel
theorem dL_law_976 : decode code 976 = .ok (.iload_n 3, 1) := by decide +kernel
theorem dL_law_977 : decode code 977 = .ok (.iconst 1, 1) := by decide +kernel
theorem dL_law_978 : decode code 978 = .ok (.iadd, 1) := by decide +kernel
theorem dL_law_979 : decode code 979 = .ok (.iaload, 1) := by decide +kernel
theorem dL_law_980 : decode code 980 = .ok (.invokevirtual 85, 3) := by decide +kernel
theorem dL_law_983 : decode code 983 = .ok (.if_icmp .eq 486, 3) := by decide +kernel
theorem dL_law_986 : decode code 986 = .ok (.iconst 0, 1) := by decide +kernel
theorem dL_law_987 : decode code 987 = .ok (.ireturn, 1) := by decide +kernel
theorem dL_law_988 : decode code 988 = .ok (.aload_n 1, 1) := by decide +kernel
theorem dL_law_989 : decode code 989 = .ok (.aload_n 0, 1) := by decide +kernel
theorem dL_law_990 : decode code 990 = .ok (.iload_n 3, 1) := by decide +kernel
theorem dL_law_991 : decode code 991 = .ok (.iconst 1, 1) := by decide +kernel
theorem dL_law_992 : decode code 992 = .ok (.iadd, 1) := by decide +kernel
theorem dL_law_993 : decode code 993 = .ok (.iaload, 1) := by decide +kernel
theorem dL_law_994 : decode code 994 = .ok (.aload_n 0, 1) := by decide +kernel
theorem dL_law_995 : decode code 995 = .ok (.iload_n 3, 1) := by decide +kernel
theorem dL_law_996 : decode code 996 = .ok (.iconst 2, 1) := by decide +kernel
theorem dL_law_997 : decode code 997 = .ok (.iadd, 1) := by decide +kernel
theorem dL_law_998 : decode code 998 = .ok (.iaload, 1) := by decide +kernel
theorem dL_law_999 : decode code 999 = .ok (.invokevirtual 86, 3) := by decide +kernel
theorem dL_law_1002 : decode code 1002 = .ok (.aload_n 2, 1) := by decide +kernel
theorem dL_law_1003 : decode code 1003 = .ok (.aload_n 0, 1) := by decide +kernel
theorem dL_law_1004 : decode code 1004 = .ok (.iload_n 3, 1) := by decide +kernel
theorem dL_law_1005 : decode code 1005 = .ok (.iconst 1, 1) := by decide +kernel
theorem dL_law_1006 : decode code 1006 = .ok (.iadd, 1) := by decide +kernel
theorem dL_law_1007 : decode code 1007 = .ok (.iaload, 1) := by decide +kernel
theorem dL_law_1008 : decode code 1008 = .ok (.aload_n 0, 1) := by decide +kernel
theorem dL_law_1009 : decode code 1009 = .ok (.iload_n 3, 1) := by decide +kernel
theorem dL_law_1010 : decode code 1010 = .ok (.iconst 2, 1) := by decide +kernel
theorem dL_law_1011 : decode code 1011 = .ok (.iadd, 1) := by decide +kernel
theorem dL_law_1012 : decode code 1012 = .ok (.iaload, 1) := by decide +kernel
theorem dL_law_1013 : decode code 1013 = .ok (.invokevirtual 89, 3) := by decide +kernel
theorem dL_law_1016 : decode code 1016 = .ok (.if_icmp .eq 453, 3) := by decide +kernel
theorem dL_law_1019 : decode code 1019 = .ok (.iconst 0, 1) := by decide +kernel
theorem dL_law_1020 : decode code 1020 = .ok (.ireturn, 1) := by decide +kernel
theorem dL_law_1021 : decode code 1021 = .ok (.aload_n 1, 1) := by decide +kernel
theorem dL_law_1022 : decode code 1022 = .ok (.aload_n 0, 1) := by decide +kernel
theorem dL_law_1023 : decode code 1023 = .ok (.iload_n 3, 1) := by decide +kernel
theorem dL_law_1024 : decode code 1024 = .ok (.iconst 1, 1) := by decide +kernel
theorem dL_law_1025 : decode code 1025 = .ok (.iadd, 1) := by decide +kernel
theorem dL_law_1026 : decode code 1026 = .ok (.iaload, 1) := by decide +kernel
theorem dL_law_1027 : decode code 1027 = .ok (.aload_n 0, 1) := by decide +kernel
theorem dL_law_1028 : decode code 1028 = .ok (.iload_n 3, 1) := by decide +kernel
theorem dL_law_1029 : decode code 1029 = .ok (.iconst 2, 1) := by decide +kernel
theorem dL_law_1030 : decode code 1030 = .ok (.iadd, 1) := by decide +kernel
theorem dL_law_1031 : decode code 1031 = .ok (.iaload, 1) := by decide +kernel
theorem dL_law_1032 : decode code 1032 = .ok (.invokevirtual 90, 3) := by decide +kernel
theorem dL_law_1035 : decode code 1035 = .ok (.aload_n 2, 1) := by decide +kernel
theorem dL_law_1036 : decode code 1036 = .ok (.aload_n 0, 1) := by decide +kernel
theorem dL_law_1037 : decode code 1037 = .ok (.iload_n 3, 1) := by decide +kernel
theorem dL_law_1038 : decode code 1038 = .ok (.iconst 1, 1) := by decide +kernel
theorem dL_law_1039 : decode code 1039 = .ok (.iadd, 1) := by decide +kernel
theorem dL_law_1040 : decode code 1040 = .ok (.iaload, 1) := by decide +kernel
theorem dL_law_1041 : decode code 1041 = .ok (.aload_n 0, 1) := by decide +kernel
theorem dL_law_1042 : decode code 1042 = .ok (.iload_n 3, 1) := by decide +kernel
theorem dL_law_1043 : decode code 1043 = .ok (.iconst 2, 1) := by decide +kernel
theorem dL_law_1044 : decode code 1044 = .ok (.iadd, 1) := by decide +kernel
theorem dL_law_1045 : decode code 1045 = .ok (.iaload, 1) := by decide +kernel
theorem dL_law_1046 : decode code 1046 = .ok (.invokevirtual 94, 3) := by decide +kernel
theorem dL_law_1049 : decode code 1049 = .ok (.lcmp, 1) := by decide +kernel
theorem dL_law_1050 : decode code 1050 = .ok (.ifCond .eq 419, 3) := by decide +kernel
theorem dL_law_1053 : decode code 1053 = .ok (.iconst 0, 1) := by decide +kernel
theorem dL_law_1054 : decode code 1054 = .ok (.ireturn, 1) := by decide +kernel
theorem dL_law_1055 : decode code 1055 = .ok (.aload_n 1, 1) := by decide +kernel
theorem dL_law_1056 : decode code 1056 = .ok (.aload_n 0, 1) := by decide +kernel
theorem dL_law_1057 : decode code 1057 = .ok (.iload_n 3, 1) := by decide +kernel
theorem dL_law_1058 : decode code 1058 = .ok (.iconst 1, 1) := by decide +kernel
theorem dL_law_1059 : decode code 1059 = .ok (.iadd, 1) := by decide +kernel
theorem dL_law_1060 : decode code 1060 = .ok (.iaload, 1) := by decide +kernel
theorem dL_law_1061 : decode code 1061 = .ok (.invokevirtual 95, 3) := by decide +kernel
theorem dL_law_1064 : decode code 1064 = .ok (.aload_n 2, 1) := by decide +kernel
theorem dL_law_1065 : decode code 1065 = .ok (.aload_n 0, 1) := by decide +kernel
theorem dL_law_1066 : decode code 1066 = .ok (.iload_n 3, 1) := by decide +kernel
theorem dL_law_1067 : decode code 1067 = .ok (.iconst 1, 1) := by decide +kernel
theorem dL_law_1068 : decode code 1068 = .ok (.iadd, 1) := by decide +kernel
theorem dL_law_1069 : decode code 1069 = .ok (.iaload, 1) := by decide +kernel
theorem dL_law_1070 : decode code 1070 = .ok (.invokevirtual 98, 3) := by decide +kernel
theorem dL_law_1073 : decode code 1073 = .ok (.if_icmp .eq 396, 3) := by decide +kernel
theorem dL_law_1076 : decode code 1076 = .ok (.iconst 0, 1) := by decide +kernel
theorem dL_law_1077 : decode code 1077 = .ok (.ireturn, 1) := by decide +kernel
theorem dL_law_1078 : decode code 1078 = .ok (.aload_n 1, 1) := by decide +kernel
theorem dL_law_1079 : decode code 1079 = .ok (.aload_n 0, 1) := by decide +kernel
theorem dL_law_1080 : decode code 1080 = .ok (.iload_n 3, 1) := by decide +kernel
theorem dL_law_1081 : decode code 1081 = .ok (.iconst 1, 1) := by decide +kernel
theorem dL_law_1082 : decode code 1082 = .ok (.iadd, 1) := by decide +kernel
theorem dL_law_1083 : decode code 1083 = .ok (.iaload, 1) := by decide +kernel
theorem dL_law_1084 : decode code 1084 = .ok (.invokevirtual 99, 3) := by decide +kernel
theorem dL_law_1087 : decode code 1087 = .ok (.aload_n 2, 1) := by decide +kernel
theorem dL_law_1088 : decode code 1088 = .ok (.aload_n 0, 1) := by decide +kernel
theorem dL_law_1089 : decode code 1089 = .ok (.iload_n 3, 1) := by decide +kernel
theorem dL_law_1090 : decode code 1090 = .ok (.iconst 1, 1) := by decide +kernel
theorem dL_law_1091 : decode code 1091 = .ok (.iadd, 1) := by decide +kernel
theorem dL_law_1092 : decode code 1092 = .ok (.iaload, 1) := by decide +kernel
theorem dL_law_1093 : decode code 1093 = .ok (.invokevirtual 102, 3) := by decide +kernel
theorem dL_law_1096 : decode code 1096 = .ok (.if_icmp .eq 373, 3) := by decide +kernel
theorem dL_law_1099 : decode code 1099 = .ok (.iconst 0, 1) := by decide +kernel
theorem dL_law_1100 : decode code 1100 = .ok (.ireturn, 1) := by decide +kernel
theorem dL_law_1101 : decode code 1101 = .ok (.aload_n 1, 1) := by decide +kernel
theorem dL_law_1102 : decode code 1102 = .ok (.aload_n 0, 1) := by decide +kernel
theorem dL_law_1103 : decode code 1103 = .ok (.iload_n 3, 1) := by decide +kernel
theorem dL_law_1104 : decode code 1104 = .ok (.iconst 1, 1) := by decide +kernel
theorem dL_law_1105 : decode code 1105 = .ok (.iadd, 1) := by decide +kernel
theorem dL_law_1106 : decode code 1106 = .ok (.iaload, 1) := by decide +kernel
theorem dL_law_1107 : decode code 1107 = .ok (.aload_n 0, 1) := by decide +kernel
theorem dL_law_1108 : decode code 1108 = .ok (.iload_n 3, 1) := by decide +kernel
theorem dL_law_1109 : decode code 1109 = .ok (.iconst 2, 1) := by decide +kernel
theorem dL_law_1110 : decode code 1110 = .ok (.iadd, 1) := by decide +kernel
theorem dL_law_1111 : decode code 1111 = .ok (.iaload, 1) := by decide +kernel
theorem dL_law_1112 : decode code 1112 = .ok (.invokevirtual 103, 3) := by decide +kernel
theorem dL_law_1115 : decode code 1115 = .ok (.aload_n 2, 1) := by decide +kernel
theorem dL_law_1116 : decode code 1116 = .ok (.aload_n 0, 1) := by decide +kernel
theorem dL_law_1117 : decode code 1117 = .ok (.iload_n 3, 1) := by decide +kernel
theorem dL_law_1118 : decode code 1118 = .ok (.iconst 1, 1) := by decide +kernel
theorem dL_law_1119 : decode code 1119 = .ok (.iadd, 1) := by decide +kernel
theorem dL_law_1120 : decode code 1120 = .ok (.iaload, 1) := by decide +kernel
theorem dL_law_1121 : decode code 1121 = .ok (.aload_n 0, 1) := by decide +kernel
theorem dL_law_1122 : decode code 1122 = .ok (.iload_n 3, 1) := by decide +kernel
theorem dL_law_1123 : decode code 1123 = .ok (.iconst 2, 1) := by decide +kernel
theorem dL_law_1124 : decode code 1124 = .ok (.iadd, 1) := by decide +kernel
theorem dL_law_1125 : decode code 1125 = .ok (.iaload, 1) := by decide +kernel
theorem dL_law_1126 : decode code 1126 = .ok (.invokevirtual 106, 3) := by decide +kernel
theorem dL_law_1129 : decode code 1129 = .ok (.if_icmp .eq 340, 3) := by decide +kernel
theorem dL_law_1132 : decode code 1132 = .ok (.iconst 0, 1) := by decide +kernel
theorem dL_law_1133 : decode code 1133 = .ok (.ireturn, 1) := by decide +kernel
theorem dL_law_1134 : decode code 1134 = .ok (.aload_n 1, 1) := by decide +kernel
theorem dL_law_1135 : decode code 1135 = .ok (.aload_n 0, 1) := by decide +kernel
theorem dL_law_1136 : decode code 1136 = .ok (.iload_n 3, 1) := by decide +kernel
theorem dL_law_1137 : decode code 1137 = .ok (.iconst 1, 1) := by decide +kernel
theorem dL_law_1138 : decode code 1138 = .ok (.iadd, 1) := by decide +kernel
theorem dL_law_1139 : decode code 1139 = .ok (.iaload, 1) := by decide +kernel
theorem dL_law_1140 : decode code 1140 = .ok (.aload_n 0, 1) := by decide +kernel
theorem dL_law_1141 : decode code 1141 = .ok (.iload_n 3, 1) := by decide +kernel
theorem dL_law_1142 : decode code 1142 = .ok (.iconst 2, 1) := by decide +kernel
theorem dL_law_1143 : decode code 1143 = .ok (.iadd, 1) := by decide +kernel
theorem dL_law_1144 : decode code 1144 = .ok (.iaload, 1) := by decide +kernel
theorem dL_law_1145 : decode code 1145 = .ok (.invokevirtual 107, 3) := by decide +kernel
theorem dL_law_1148 : decode code 1148 = .ok (.aload_n 2, 1) := by decide +kernel
theorem dL_law_1149 : decode code 1149 = .ok (.aload_n 0, 1) := by decide +kernel
theorem dL_law_1150 : decode code 1150 = .ok (.iload_n 3, 1) := by decide +kernel
theorem dL_law_1151 : decode code 1151 = .ok (.iconst 1, 1) := by decide +kernel
theorem dL_law_1152 : decode code 1152 = .ok (.iadd, 1) := by decide +kernel
theorem dL_law_1153 : decode code 1153 = .ok (.iaload, 1) := by decide +kernel
theorem dL_law_1154 : decode code 1154 = .ok (.aload_n 0, 1) := by decide +kernel
theorem dL_law_1155 : decode code 1155 = .ok (.iload_n 3, 1) := by decide +kernel
theorem dL_law_1156 : decode code 1156 = .ok (.iconst 2, 1) := by decide +kernel
theorem dL_law_1157 : decode code 1157 = .ok (.iadd, 1) := by decide +kernel
theorem dL_law_1158 : decode code 1158 = .ok (.iaload, 1) := by decide +kernel
theorem dL_law_1159 : decode code 1159 = .ok (.invokevirtual 110, 3) := by decide +kernel
theorem dL_law_1162 : decode code 1162 = .ok (.if_icmp .eq 307, 3) := by decide +kernel
theorem dL_law_1165 : decode code 1165 = .ok (.iconst 0, 1) := by decide +kernel
theorem dL_law_1166 : decode code 1166 = .ok (.ireturn, 1) := by decide +kernel
theorem dL_law_1167 : decode code 1167 = .ok (.aload_n 1, 1) := by decide +kernel
theorem dL_law_1168 : decode code 1168 = .ok (.aload_n 0, 1) := by decide +kernel
theorem dL_law_1169 : decode code 1169 = .ok (.iload_n 3, 1) := by decide +kernel
theorem dL_law_1170 : decode code 1170 = .ok (.iconst 1, 1) := by decide +kernel
theorem dL_law_1171 : decode code 1171 = .ok (.iadd, 1) := by decide +kernel
theorem dL_law_1172 : decode code 1172 = .ok (.iaload, 1) := by decide +kernel
theorem dL_law_1173 : decode code 1173 = .ok (.aload_n 0, 1) := by decide +kernel
theorem dL_law_1174 : decode code 1174 = .ok (.iload_n 3, 1) := by decide +kernel
theorem dL_law_1175 : decode code 1175 = .ok (.iconst 2, 1) := by decide +kernel
theorem dL_law_1176 : decode code 1176 = .ok (.iadd, 1) := by decide +kernel
theorem dL_law_1177 : decode code 1177 = .ok (.iaload, 1) := by decide +kernel
theorem dL_law_1178 : decode code 1178 = .ok (.invokevirtual 111, 3) := by decide +kernel
theorem dL_law_1181 : decode code 1181 = .ok (.aload_n 2, 1) := by decide +kernel
theorem dL_law_1182 : decode code 1182 = .ok (.aload_n 0, 1) := by decide +kernel
theorem dL_law_1183 : decode code 1183 = .ok (.iload_n 3, 1) := by decide +kernel
theorem dL_law_1184 : decode code 1184 = .ok (.iconst 1, 1) := by decide +kernel
theorem dL_law_1185 : decode code 1185 = .ok (.iadd, 1) := by decide +kernel
theorem dL_law_1186 : decode code 1186 = .ok (.iaload, 1) := by decide +kernel
theorem dL_law_1187 : decode code 1187 = .ok (.aload_n 0, 1) := by decide +kernel
theorem dL_law_1188 : decode code 1188 = .ok (.iload_n 3, 1) := by decide +kernel
theorem dL_law_1189 : decode code 1189 = .ok (.iconst 2, 1) := by decide +kernel
theorem dL_law_1190 : decode code 1190 = .ok (.iadd, 1) := by decide +kernel
theorem dL_law_1191 : decode code 1191 = .ok (.iaload, 1) := by decide +kernel
theorem dL_law_1192 : decode code 1192 = .ok (.invokevirtual 114, 3) := by decide +kernel
theorem dL_law_1195 : decode code 1195 = .ok (.if_icmp .eq 274, 3) := by decide +kernel
theorem dL_law_1198 : decode code 1198 = .ok (.iconst 0, 1) := by decide +kernel
theorem dL_law_1199 : decode code 1199 = .ok (.ireturn, 1) := by decide +kernel
theorem dL_law_1200 : decode code 1200 = .ok (.aload_n 1, 1) := by decide +kernel
theorem dL_law_1201 : decode code 1201 = .ok (.aload_n 0, 1) := by decide +kernel
theorem dL_law_1202 : decode code 1202 = .ok (.iload_n 3, 1) := by decide +kernel
theorem dL_law_1203 : decode code 1203 = .ok (.iconst 1, 1) := by decide +kernel
theorem dL_law_1204 : decode code 1204 = .ok (.iadd, 1) := by decide +kernel
theorem dL_law_1205 : decode code 1205 = .ok (.iaload, 1) := by decide +kernel
theorem dL_law_1206 : decode code 1206 = .ok (.invokevirtual 115, 3) := by decide +kernel
theorem dL_law_1209 : decode code 1209 = .ok (.aload_n 2, 1) := by decide +kernel
theorem dL_law_1210 : decode code 1210 = .ok (.aload_n 0, 1) := by decide +kernel
theorem dL_law_1211 : decode code 1211 = .ok (.iload_n 3, 1) := by decide +kernel
theorem dL_law_1212 : decode code 1212 = .ok (.iconst 1, 1) := by decide +kernel
theorem dL_law_1213 : decode code 1213 = .ok (.iadd, 1) := by decide +kernel
theorem dL_law_1214 : decode code 1214 = .ok (.iaload, 1) := by decide +kernel
theorem dL_law_1215 : decode code 1215 = .ok (.invokevirtual 118, 3) := by decide +kernel
theorem dL_law_1218 : decode code 1218 = .ok (.if_icmp .eq 251, 3) := by decide +kernel
theorem dL_law_1221 : decode code 1221 = .ok (.iconst 0, 1) := by decide +kernel
theorem dL_law_1222 : decode code 1222 = .ok (.ireturn, 1) := by decide +kernel
theorem dL_law_1223 : decode code 1223 = .ok (.aload_n 1, 1) := by decide +kernel
theorem dL_law_1224 : decode code 1224 = .ok (.aload_n 0, 1) := by decide +kernel
theorem dL_law_1225 : decode code 1225 = .ok (.iload_n 3, 1) := by decide +kernel
theorem dL_law_1226 : decode code 1226 = .ok (.iconst 1, 1) := by decide +kernel
theorem dL_law_1227 : decode code 1227 = .ok (.iadd, 1) := by decide +kernel
theorem dL_law_1228 : decode code 1228 = .ok (.iaload, 1) := by decide +kernel
theorem dL_law_1229 : decode code 1229 = .ok (.invokevirtual 119, 3) := by decide +kernel
theorem dL_law_1232 : decode code 1232 = .ok (.aload_n 2, 1) := by decide +kernel
theorem dL_law_1233 : decode code 1233 = .ok (.aload_n 0, 1) := by decide +kernel
theorem dL_law_1234 : decode code 1234 = .ok (.iload_n 3, 1) := by decide +kernel
theorem dL_law_1235 : decode code 1235 = .ok (.iconst 1, 1) := by decide +kernel
theorem dL_law_1236 : decode code 1236 = .ok (.iadd, 1) := by decide +kernel
theorem dL_law_1237 : decode code 1237 = .ok (.iaload, 1) := by decide +kernel
theorem dL_law_1238 : decode code 1238 = .ok (.invokevirtual 122, 3) := by decide +kernel
theorem dL_law_1241 : decode code 1241 = .ok (.if_icmp .eq 228, 3) := by decide +kernel
theorem dL_law_1244 : decode code 1244 = .ok (.iconst 0, 1) := by decide +kernel
theorem dL_law_1245 : decode code 1245 = .ok (.ireturn, 1) := by decide +kernel
theorem dL_law_1246 : decode code 1246 = .ok (.aload_n 1, 1) := by decide +kernel
theorem dL_law_1247 : decode code 1247 = .ok (.aload_n 0, 1) := by decide +kernel
theorem dL_law_1248 : decode code 1248 = .ok (.iload_n 3, 1) := by decide +kernel
theorem dL_law_1249 : decode code 1249 = .ok (.iconst 1, 1) := by decide +kernel
theorem dL_law_1250 : decode code 1250 = .ok (.iadd, 1) := by decide +kernel
theorem dL_law_1251 : decode code 1251 = .ok (.iaload, 1) := by decide +kernel
theorem dL_law_1252 : decode code 1252 = .ok (.aload_n 0, 1) := by decide +kernel
theorem dL_law_1253 : decode code 1253 = .ok (.iload_n 3, 1) := by decide +kernel
theorem dL_law_1254 : decode code 1254 = .ok (.iconst 2, 1) := by decide +kernel
theorem dL_law_1255 : decode code 1255 = .ok (.iadd, 1) := by decide +kernel
theorem dL_law_1256 : decode code 1256 = .ok (.iaload, 1) := by decide +kernel
theorem dL_law_1257 : decode code 1257 = .ok (.invokevirtual 123, 3) := by decide +kernel
theorem dL_law_1260 : decode code 1260 = .ok (.aload_n 2, 1) := by decide +kernel
theorem dL_law_1261 : decode code 1261 = .ok (.aload_n 0, 1) := by decide +kernel
theorem dL_law_1262 : decode code 1262 = .ok (.iload_n 3, 1) := by decide +kernel
theorem dL_law_1263 : decode code 1263 = .ok (.iconst 1, 1) := by decide +kernel
theorem dL_law_1264 : decode code 1264 = .ok (.iadd, 1) := by decide +kernel
theorem dL_law_1265 : decode code 1265 = .ok (.iaload, 1) := by decide +kernel
theorem dL_law_1266 : decode code 1266 = .ok (.aload_n 0, 1) := by decide +kernel
theorem dL_law_1267 : decode code 1267 = .ok (.iload_n 3, 1) := by decide +kernel
theorem dL_law_1268 : decode code 1268 = .ok (.iconst 2, 1) := by decide +kernel
theorem dL_law_1269 : decode code 1269 = .ok (.iadd, 1) := by decide +kernel
theorem dL_law_1270 : decode code 1270 = .ok (.iaload, 1) := by decide +kernel
theorem dL_law_1271 : decode code 1271 = .ok (.invokevirtual 126, 3) := by decide +kernel
theorem dL_law_1274 : decode code 1274 = .ok (.if_icmp .eq 195, 3) := by decide +kernel
theorem dL_law_1277 : decode code 1277 = .ok (.iconst 0, 1) := by decide +kernel
theorem dL_law_1278 : decode code 1278 = .ok (.ireturn, 1) := by decide +kernel
theorem dL_law_1279 : decode code 1279 = .ok (.aload_n 1, 1) := by decide +kernel
theorem dL_law_1280 : decode code 1280 = .ok (.aload_n 0, 1) := by decide +kernel
theorem dL_law_1281 : decode code 1281 = .ok (.iload_n 3, 1) := by decide +kernel
theorem dL_law_1282 : decode code 1282 = .ok (.iconst 1, 1) := by decide +kernel
theorem dL_law_1283 : decode code 1283 = .ok (.iadd, 1) := by decide +kernel
theorem dL_law_1284 : decode code 1284 = .ok (.iaload, 1) := by decide +kernel
theorem dL_law_1285 : decode code 1285 = .ok (.aload_n 0, 1) := by decide +kernel
theorem dL_law_1286 : decode code 1286 = .ok (.iload_n 3, 1) := by decide +kernel
theorem dL_law_1287 : decode code 1287 = .ok (.iconst 2, 1) := by decide +kernel
theorem dL_law_1288 : decode code 1288 = .ok (.iadd, 1) := by decide +kernel
theorem dL_law_1289 : decode code 1289 = .ok (.iaload, 1) := by decide +kernel
theorem dL_law_1290 : decode code 1290 = .ok (.invokevirtual 127, 3) := by decide +kernel
theorem dL_law_1293 : decode code 1293 = .ok (.aload_n 2, 1) := by decide +kernel
theorem dL_law_1294 : decode code 1294 = .ok (.aload_n 0, 1) := by decide +kernel
theorem dL_law_1295 : decode code 1295 = .ok (.iload_n 3, 1) := by decide +kernel
theorem dL_law_1296 : decode code 1296 = .ok (.iconst 1, 1) := by decide +kernel
theorem dL_law_1297 : decode code 1297 = .ok (.iadd, 1) := by decide +kernel
theorem dL_law_1298 : decode code 1298 = .ok (.iaload, 1) := by decide +kernel
theorem dL_law_1299 : decode code 1299 = .ok (.aload_n 0, 1) := by decide +kernel
theorem dL_law_1300 : decode code 1300 = .ok (.iload_n 3, 1) := by decide +kernel
theorem dL_law_1301 : decode code 1301 = .ok (.iconst 2, 1) := by decide +kernel
theorem dL_law_1302 : decode code 1302 = .ok (.iadd, 1) := by decide +kernel
theorem dL_law_1303 : decode code 1303 = .ok (.iaload, 1) := by decide +kernel
theorem dL_law_1304 : decode code 1304 = .ok (.invokevirtual 130, 3) := by decide +kernel
theorem dL_law_1307 : decode code 1307 = .ok (.if_icmp .eq 162, 3) := by decide +kernel
theorem dL_law_1310 : decode code 1310 = .ok (.iconst 0, 1) := by decide +kernel
theorem dL_law_1311 : decode code 1311 = .ok (.ireturn, 1) := by decide +kernel
theorem dL_law_1312 : decode code 1312 = .ok (.aload_n 1, 1) := by decide +kernel
theorem dL_law_1313 : decode code 1313 = .ok (.invokevirtual 131, 3) := by decide +kernel
theorem dL_law_1316 : decode code 1316 = .ok (.aload_n 2, 1) := by decide +kernel
theorem dL_law_1317 : decode code 1317 = .ok (.invokevirtual 135, 3) := by decide +kernel
theorem dL_law_1320 : decode code 1320 = .ok (.if_icmp .eq 149, 3) := by decide +kernel
theorem dL_law_1323 : decode code 1323 = .ok (.iconst 0, 1) := by decide +kernel
theorem dL_law_1324 : decode code 1324 = .ok (.ireturn, 1) := by decide +kernel
theorem dL_law_1325 : decode code 1325 = .ok (.aload_n 1, 1) := by decide +kernel
theorem dL_law_1326 : decode code 1326 = .ok (.invokevirtual 136, 3) := by decide +kernel
theorem dL_law_1329 : decode code 1329 = .ok (.aload_n 2, 1) := by decide +kernel
theorem dL_law_1330 : decode code 1330 = .ok (.invokevirtual 139, 3) := by decide +kernel
theorem dL_law_1333 : decode code 1333 = .ok (.if_icmp .eq 136, 3) := by decide +kernel
theorem dL_law_1336 : decode code 1336 = .ok (.iconst 0, 1) := by decide +kernel
theorem dL_law_1337 : decode code 1337 = .ok (.ireturn, 1) := by decide +kernel
theorem dL_law_1338 : decode code 1338 = .ok (.aload_n 1, 1) := by decide +kernel
theorem dL_law_1339 : decode code 1339 = .ok (.invokevirtual 140, 3) := by decide +kernel
theorem dL_law_1342 : decode code 1342 = .ok (.aload_n 2, 1) := by decide +kernel
theorem dL_law_1343 : decode code 1343 = .ok (.invokevirtual 143, 3) := by decide +kernel
theorem dL_law_1346 : decode code 1346 = .ok (.if_icmp .eq 123, 3) := by decide +kernel
theorem dL_law_1349 : decode code 1349 = .ok (.iconst 0, 1) := by decide +kernel
theorem dL_law_1350 : decode code 1350 = .ok (.ireturn, 1) := by decide +kernel
theorem dL_law_1351 : decode code 1351 = .ok (.aload_n 1, 1) := by decide +kernel
theorem dL_law_1352 : decode code 1352 = .ok (.invokevirtual 144, 3) := by decide +kernel
theorem dL_law_1355 : decode code 1355 = .ok (.aload_n 2, 1) := by decide +kernel
theorem dL_law_1356 : decode code 1356 = .ok (.invokevirtual 147, 3) := by decide +kernel
theorem dL_law_1359 : decode code 1359 = .ok (.if_icmp .eq 110, 3) := by decide +kernel
theorem dL_law_1362 : decode code 1362 = .ok (.iconst 0, 1) := by decide +kernel
theorem dL_law_1363 : decode code 1363 = .ok (.ireturn, 1) := by decide +kernel
theorem dL_law_1364 : decode code 1364 = .ok (.aload_n 1, 1) := by decide +kernel
theorem dL_law_1365 : decode code 1365 = .ok (.aload_n 0, 1) := by decide +kernel
theorem dL_law_1366 : decode code 1366 = .ok (.iload_n 3, 1) := by decide +kernel
theorem dL_law_1367 : decode code 1367 = .ok (.iconst 1, 1) := by decide +kernel
theorem dL_law_1368 : decode code 1368 = .ok (.iadd, 1) := by decide +kernel
theorem dL_law_1369 : decode code 1369 = .ok (.iaload, 1) := by decide +kernel
theorem dL_law_1370 : decode code 1370 = .ok (.invokevirtual 148, 3) := by decide +kernel
theorem dL_law_1373 : decode code 1373 = .ok (.aload_n 2, 1) := by decide +kernel
theorem dL_law_1374 : decode code 1374 = .ok (.aload_n 0, 1) := by decide +kernel
theorem dL_law_1375 : decode code 1375 = .ok (.iload_n 3, 1) := by decide +kernel
theorem dL_law_1376 : decode code 1376 = .ok (.iconst 1, 1) := by decide +kernel
theorem dL_law_1377 : decode code 1377 = .ok (.iadd, 1) := by decide +kernel
theorem dL_law_1378 : decode code 1378 = .ok (.iaload, 1) := by decide +kernel
theorem dL_law_1379 : decode code 1379 = .ok (.invokevirtual 151, 3) := by decide +kernel
theorem dL_law_1382 : decode code 1382 = .ok (.if_icmp .eq 87, 3) := by decide +kernel
theorem dL_law_1385 : decode code 1385 = .ok (.iconst 0, 1) := by decide +kernel
theorem dL_law_1386 : decode code 1386 = .ok (.ireturn, 1) := by decide +kernel
theorem dL_law_1387 : decode code 1387 = .ok (.aload_n 1, 1) := by decide +kernel
theorem dL_law_1388 : decode code 1388 = .ok (.invokevirtual 152, 3) := by decide +kernel
theorem dL_law_1391 : decode code 1391 = .ok (.aload_n 2, 1) := by decide +kernel
theorem dL_law_1392 : decode code 1392 = .ok (.invokevirtual 155, 3) := by decide +kernel
theorem dL_law_1395 : decode code 1395 = .ok (.if_icmp .eq 74, 3) := by decide +kernel
theorem dL_law_1398 : decode code 1398 = .ok (.iconst 0, 1) := by decide +kernel
theorem dL_law_1399 : decode code 1399 = .ok (.ireturn, 1) := by decide +kernel
theorem dL_law_1400 : decode code 1400 = .ok (.aload_n 1, 1) := by decide +kernel
theorem dL_law_1401 : decode code 1401 = .ok (.aload_n 0, 1) := by decide +kernel
theorem dL_law_1402 : decode code 1402 = .ok (.iload_n 3, 1) := by decide +kernel
theorem dL_law_1403 : decode code 1403 = .ok (.iconst 1, 1) := by decide +kernel
theorem dL_law_1404 : decode code 1404 = .ok (.iadd, 1) := by decide +kernel
theorem dL_law_1405 : decode code 1405 = .ok (.iaload, 1) := by decide +kernel
theorem dL_law_1406 : decode code 1406 = .ok (.invokevirtual 156, 3) := by decide +kernel
theorem dL_law_1409 : decode code 1409 = .ok (.aload_n 2, 1) := by decide +kernel
theorem dL_law_1410 : decode code 1410 = .ok (.aload_n 0, 1) := by decide +kernel
theorem dL_law_1411 : decode code 1411 = .ok (.iload_n 3, 1) := by decide +kernel
theorem dL_law_1412 : decode code 1412 = .ok (.iconst 1, 1) := by decide +kernel
theorem dL_law_1413 : decode code 1413 = .ok (.iadd, 1) := by decide +kernel
theorem dL_law_1414 : decode code 1414 = .ok (.iaload, 1) := by decide +kernel
theorem dL_law_1415 : decode code 1415 = .ok (.invokevirtual 159, 3) := by decide +kernel
theorem dL_law_1418 : decode code 1418 = .ok (.if_icmp .eq 51, 3) := by decide +kernel
theorem dL_law_1421 : decode code 1421 = .ok (.iconst 0, 1) := by decide +kernel
theorem dL_law_1422 : decode code 1422 = .ok (.ireturn, 1) := by decide +kernel
theorem dL_law_1423 : decode code 1423 = .ok (.aload_n 1, 1) := by decide +kernel
theorem dL_law_1424 : decode code 1424 = .ok (.aload_n 0, 1) := by decide +kernel
theorem dL_law_1425 : decode code 1425 = .ok (.iload_n 3, 1) := by decide +kernel
theorem dL_law_1426 : decode code 1426 = .ok (.iconst 1, 1) := by decide +kernel
theorem dL_law_1427 : decode code 1427 = .ok (.iadd, 1) := by decide +kernel
theorem dL_law_1428 : decode code 1428 = .ok (.iaload, 1) := by decide +kernel
theorem dL_law_1429 : decode code 1429 = .ok (.invokevirtual 160, 3) := by decide +kernel
theorem dL_law_1432 : decode code 1432 = .ok (.aload_n 2, 1) := by decide +kernel
theorem dL_law_1433 : decode code 1433 = .ok (.aload_n 0, 1) := by decide +kernel
theorem dL_law_1434 : decode code 1434 = .ok (.iload_n 3, 1) := by decide +kernel
theorem dL_law_1435 : decode code 1435 = .ok (.iconst 1, 1) := by decide +kernel
theorem dL_law_1436 : decode code 1436 = .ok (.iadd, 1) := by decide +kernel
theorem dL_law_1437 : decode code 1437 = .ok (.iaload, 1) := by decide +kernel
theorem dL_law_1438 : decode code 1438 = .ok (.invokevirtual 163, 3) := by decide +kernel
theorem dL_law_1441 : decode code 1441 = .ok (.if_icmp .eq 28, 3) := by decide +kernel
theorem dL_law_1444 : decode code 1444 = .ok (.iconst 0, 1) := by decide +kernel
theorem dL_law_1445 : decode code 1445 = .ok (.ireturn, 1) := by decide +kernel
theorem dL_law_1446 : decode code 1446 = .ok (.aload_n 1, 1) := by decide +kernel
theorem dL_law_1447 : decode code 1447 = .ok (.aload_n 0, 1) := by decide +kernel
theorem dL_law_1448 : decode code 1448 = .ok (.iload_n 3, 1) := by decide +kernel
theorem dL_law_1449 : decode code 1449 = .ok (.iconst 1, 1) := by decide +kernel
theorem dL_law_1450 : decode code 1450 = .ok (.iadd, 1) := by decide +kernel
theorem dL_law_1451 : decode code 1451 = .ok (.iaload, 1) := by decide +kernel
theorem dL_law_1452 : decode code 1452 = .ok (.invokevirtual 164, 3) := by decide +kernel
theorem dL_law_1455 : decode code 1455 = .ok (.aload_n 2, 1) := by decide +kernel
theorem dL_law_1456 : decode code 1456 = .ok (.aload_n 0, 1) := by decide +kernel
theorem dL_law_1457 : decode code 1457 = .ok (.iload_n 3, 1) := by decide +kernel
theorem dL_law_1458 : decode code 1458 = .ok (.iconst 1, 1) := by decide +kernel
theorem dL_law_1459 : decode code 1459 = .ok (.iadd, 1) := by decide +kernel
theorem dL_law_1460 : decode code 1460 = .ok (.iaload, 1) := by decide +kernel
theorem dL_law_1461 : decode code 1461 = .ok (.invokevirtual 167, 3) := by decide +kernel
theorem dL_law_1464 : decode code 1464 = .ok (.if_icmp .eq 5, 3) := by decide +kernel
theorem dL_law_1467 : decode code 1467 = .ok (.iconst 0, 1) := by decide +kernel
theorem dL_law_1468 : decode code 1468 = .ok (.ireturn, 1) := by decide +kernel
theorem dL_law_1469 : decode code 1469 = .ok (.iinc 3 7, 3) := by decide +kernel
theorem dL_law_1472 : decode code 1472 = .ok (.goto (-1414), 3) := by decide +kernel
theorem dL_law_1475 : decode code 1475 = .ok (.iconst 1, 1) := by decide +kernel
theorem dL_law_1476 : decode code 1476 = .ok (.ireturn, 1) := by decide +kernel
