theorem cal_RL_19 : qCalV RL 19 yX8_feed cX8_feed 7 (some .int) 5 := ⟨⟨qTT_in 492 (by decide +kernel) rfl, qTT_in 128 (by decide +kernel) rfl, ⟨by decide, by decide, by decide +kernel⟩, Or.inl (qTT_in 489 (by decide +kernel) rfl)⟩, qTT_in 490 (by decide +kernel) rfl, qTT_in 491 (by decide +kernel) rfl⟩
theorem cal_RL_23 : qCalV RL 23 yX9_feed cX9_feed 9 (some .int) 5 := ⟨⟨qTT_in 1401 (by decide +kernel) rfl, qTT_in 137 (by decide +kernel) rfl, ⟨by decide, by decide, by decide +kernel⟩, Or.inl (qTT_in 1398 (by decide +kernel) rfl)⟩, qTT_in 1399 (by decide +kernel) rfl, qTT_in 1400 (by decide +kernel) rfl⟩
theorem cal_RL_24 : qCalV RL 24 yX8_end cX8_end 2 (some .boolean) 1 := ⟨⟨qTT_in 503 (by decide +kernel) rfl, qTT_in 128 (by decide +kernel) rfl, ⟨by decide, by decide, by decide +kernel⟩, Or.inl (qTT_in 500 (by decide +kernel) rfl)⟩, qTT_in 501 (by decide +kernel) rfl, qTT_in 502 (by decide +kernel) rfl⟩
theorem cal_RL_28 : qCalV RL 28 yX9_end cX9_end 2 (some .boolean) 1 := ⟨⟨qTT_in 1408 (by decide +kernel) rfl, qTT_in 137 (by decide +kernel) rfl, ⟨by decide, by decide, by decide +kernel⟩, Or.inl (qTT_in 1405 (by decide +kernel) rfl)⟩, qTT_in 1406 (by decide +kernel) rfl, qTT_in 1407 (by decide +kernel) rfl⟩
theorem cal_RL_29 : qCalV RL 29 yX8_fault cX8_fault 2 (some .int) 1 := ⟨⟨qTT_in 507 (by decide +kernel) rfl, qTT_in 128 (by decide +kernel) rfl, ⟨by decide, by decide, by decide +kernel⟩, Or.inl (qTT_in 504 (by decide +kernel) rfl)⟩, qTT_in 505 (by decide +kernel) rfl, qTT_in 506 (by decide +kernel) rfl⟩
theorem cal_RL_33 : qCalV RL 33 yX9_fault cX9_fault 2 (some .int) 1 := ⟨⟨qTT_in 1415 (by decide +kernel) rfl, qTT_in 137 (by decide +kernel) rfl, ⟨by decide, by decide, by decide +kernel⟩, Or.inl (qTT_in 1412 (by decide +kernel) rfl)⟩, qTT_in 1413 (by decide +kernel) rfl, qTT_in 1414 (by decide +kernel) rfl⟩
theorem cal_RL_34 : qCalV RL 34 yX8_text cX8_text 2 (some .int) 1 := ⟨⟨qTT_in 686 (by decide +kernel) rfl, qTT_in 128 (by decide +kernel) rfl, ⟨by decide, by decide, by decide +kernel⟩, Or.inl (qTT_in 683 (by decide +kernel) rfl)⟩, qTT_in 684 (by decide +kernel) rfl, qTT_in 685 (by decide +kernel) rfl⟩
theorem cal_RL_37 : qCalV RL 37 yX9_text cX9_text 2 (some .int) 1 := ⟨⟨qTT_in 1483 (by decide +kernel) rfl, qTT_in 137 (by decide +kernel) rfl, ⟨by decide, by decide, by decide +kernel⟩, Or.inl (qTT_in 1480 (by decide +kernel) rfl)⟩, qTT_in 1481 (by decide +kernel) rfl, qTT_in 1482 (by decide +kernel) rfl⟩
theorem cal_RL_38 : qCalV RL 38 yX8_rule cX8_rule 2 (some .int) 1 := ⟨⟨qTT_in 740 (by decide +kernel) rfl, qTT_in 128 (by decide +kernel) rfl, ⟨by decide, by decide, by decide +kernel⟩, Or.inl (qTT_in 737 (by decide +kernel) rfl)⟩, qTT_in 738 (by decide +kernel) rfl, qTT_in 739 (by decide +kernel) rfl⟩
theorem cal_RL_41 : qCalV RL 41 yX9_rule cX9_rule 2 (some .int) 1 := ⟨⟨qTT_in 1781 (by decide +kernel) rfl, qTT_in 137 (by decide +kernel) rfl, ⟨by decide, by decide, by decide +kernel⟩, Or.inl (qTT_in 1778 (by decide +kernel) rfl)⟩, qTT_in 1779 (by decide +kernel) rfl, qTT_in 1780 (by decide +kernel) rfl⟩
theorem cal_RL_52 : qCalV RL 52 yX8_file cX8_file 4 (some .int) 2 := ⟨⟨qTT_in 748 (by decide +kernel) rfl, qTT_in 128 (by decide +kernel) rfl, ⟨by decide, by decide, by decide +kernel⟩, Or.inl (qTT_in 745 (by decide +kernel) rfl)⟩, qTT_in 746 (by decide +kernel) rfl, qTT_in 747 (by decide +kernel) rfl⟩
theorem cal_RL_55 : qCalV RL 55 yX9_file cX9_file 3 (some .int) 2 := ⟨⟨qTT_in 1797 (by decide +kernel) rfl, qTT_in 137 (by decide +kernel) rfl, ⟨by decide, by decide, by decide +kernel⟩, Or.inl (qTT_in 1794 (by decide +kernel) rfl)⟩, qTT_in 1795 (by decide +kernel) rfl, qTT_in 1796 (by decide +kernel) rfl⟩
theorem cal_RL_56 : qCalV RL 56 yX8_drive cX8_drive 2 (some .int) 1 := ⟨⟨qTT_in 757 (by decide +kernel) rfl, qTT_in 128 (by decide +kernel) rfl, ⟨by decide, by decide, by decide +kernel⟩, Or.inl (qTT_in 754 (by decide +kernel) rfl)⟩, qTT_in 755 (by decide +kernel) rfl, qTT_in 756 (by decide +kernel) rfl⟩
theorem cal_RL_59 : qCalV RL 59 yX9_drive cX9_drive 2 (some .int) 1 := ⟨⟨qTT_in 1801 (by decide +kernel) rfl, qTT_in 137 (by decide +kernel) rfl, ⟨by decide, by decide, by decide +kernel⟩, Or.inl (qTT_in 1798 (by decide +kernel) rfl)⟩, qTT_in 1799 (by decide +kernel) rfl, qTT_in 1800 (by decide +kernel) rfl⟩
theorem cal_RL_60 : qCalV RL 60 yX8_labelled cX8_labelled 3 (some .int) 1 := ⟨⟨qTT_in 765 (by decide +kernel) rfl, qTT_in 128 (by decide +kernel) rfl, ⟨by decide, by decide, by decide +kernel⟩, Or.inl (qTT_in 762 (by decide +kernel) rfl)⟩, qTT_in 763 (by decide +kernel) rfl, qTT_in 764 (by decide +kernel) rfl⟩
theorem cal_RL_63 : qCalV RL 63 yX9_labelled cX9_labelled 3 (some .int) 1 := ⟨⟨qTT_in 1805 (by decide +kernel) rfl, qTT_in 137 (by decide +kernel) rfl, ⟨by decide, by decide, by decide +kernel⟩, Or.inl (qTT_in 1802 (by decide +kernel) rfl)⟩, qTT_in 1803 (by decide +kernel) rfl, qTT_in 1804 (by decide +kernel) rfl⟩
theorem cal_RL_64 : qCalV RL 64 yX8_way cX8_way 3 (some .int) 2 := ⟨⟨qTT_in 769 (by decide +kernel) rfl, qTT_in 128 (by decide +kernel) rfl, ⟨by decide, by decide, by decide +kernel⟩, Or.inl (qTT_in 766 (by decide +kernel) rfl)⟩, qTT_in 767 (by decide +kernel) rfl, qTT_in 768 (by decide +kernel) rfl⟩
theorem cal_RL_67 : qCalV RL 67 yX9_way cX9_way 3 (some .int) 2 := ⟨⟨qTT_in 1809 (by decide +kernel) rfl, qTT_in 137 (by decide +kernel) rfl, ⟨by decide, by decide, by decide +kernel⟩, Or.inl (qTT_in 1806 (by decide +kernel) rfl)⟩, qTT_in 1807 (by decide +kernel) rfl, qTT_in 1808 (by decide +kernel) rfl⟩
theorem cal_RL_68 : qCalV RL 68 yX8_seek cX8_seek 3 (some .int) 2 := ⟨⟨qTT_in 782 (by decide +kernel) rfl, qTT_in 128 (by decide +kernel) rfl, ⟨by decide, by decide, by decide +kernel⟩, Or.inl (qTT_in 779 (by decide +kernel) rfl)⟩, qTT_in 780 (by decide +kernel) rfl, qTT_in 781 (by decide +kernel) rfl⟩
theorem cal_RL_71 : qCalV RL 71 yX9_seek cX9_seek 3 (some .int) 2 := ⟨⟨qTT_in 1817 (by decide +kernel) rfl, qTT_in 137 (by decide +kernel) rfl, ⟨by decide, by decide, by decide +kernel⟩, Or.inl (qTT_in 1814 (by decide +kernel) rfl)⟩, qTT_in 1815 (by decide +kernel) rfl, qTT_in 1816 (by decide +kernel) rfl⟩
theorem cal_RL_72 : qCalV RL 72 yX8_path cX8_path 5 (some .int) 3 := ⟨⟨qTT_in 794 (by decide +kernel) rfl, qTT_in 128 (by decide +kernel) rfl, ⟨by decide, by decide, by decide +kernel⟩, Or.inl (qTT_in 791 (by decide +kernel) rfl)⟩, qTT_in 792 (by decide +kernel) rfl, qTT_in 793 (by decide +kernel) rfl⟩
theorem cal_RL_76 : qCalV RL 76 yX9_path cX9_path 5 (some .int) 3 := ⟨⟨qTT_in 1825 (by decide +kernel) rfl, qTT_in 137 (by decide +kernel) rfl, ⟨by decide, by decide, by decide +kernel⟩, Or.inl (qTT_in 1822 (by decide +kernel) rfl)⟩, qTT_in 1823 (by decide +kernel) rfl, qTT_in 1824 (by decide +kernel) rfl⟩
theorem cal_RL_77 : qCalV RL 77 yX8_ask cX8_ask 2 (some .int) 1 := ⟨⟨qTT_in 803 (by decide +kernel) rfl, qTT_in 128 (by decide +kernel) rfl, ⟨by decide, by decide, by decide +kernel⟩, Or.inl (qTT_in 800 (by decide +kernel) rfl)⟩, qTT_in 801 (by decide +kernel) rfl, qTT_in 802 (by decide +kernel) rfl⟩
theorem cal_RL_80 : qCalV RL 80 yX9_ask cX9_ask 2 (some .int) 1 := ⟨⟨qTT_in 1503 (by decide +kernel) rfl, qTT_in 137 (by decide +kernel) rfl, ⟨by decide, by decide, by decide +kernel⟩, Or.inl (qTT_in 1500 (by decide +kernel) rfl)⟩, qTT_in 1501 (by decide +kernel) rfl, qTT_in 1502 (by decide +kernel) rfl⟩
theorem cal_RL_81 : qCalV RL 81 yX8_serve cX8_serve 1 (some .int) 0 := ⟨⟨qTT_in 985 (by decide +kernel) rfl, qTT_in 128 (by decide +kernel) rfl, ⟨by decide, by decide, by decide +kernel⟩, Or.inl (qTT_in 982 (by decide +kernel) rfl)⟩, qTT_in 983 (by decide +kernel) rfl, qTT_in 984 (by decide +kernel) rfl⟩
theorem cal_RL_84 : qCalV RL 84 yX9_serve cX9_serve 1 (some .int) 0 := ⟨⟨qTT_in 1710 (by decide +kernel) rfl, qTT_in 137 (by decide +kernel) rfl, ⟨by decide, by decide, by decide +kernel⟩, Or.inl (qTT_in 1707 (by decide +kernel) rfl)⟩, qTT_in 1708 (by decide +kernel) rfl, qTT_in 1709 (by decide +kernel) rfl⟩
theorem cal_RL_85 : qCalV RL 85 yX8_write cX8_write 3 (some .int) 2 := ⟨⟨qTT_in 989 (by decide +kernel) rfl, qTT_in 128 (by decide +kernel) rfl, ⟨by decide, by decide, by decide +kernel⟩, Or.inl (qTT_in 986 (by decide +kernel) rfl)⟩, qTT_in 987 (by decide +kernel) rfl, qTT_in 988 (by decide +kernel) rfl⟩
theorem cal_RL_88 : qCalV RL 88 yX9_write cX9_write 3 (some .int) 2 := ⟨⟨qTT_in 1714 (by decide +kernel) rfl, qTT_in 137 (by decide +kernel) rfl, ⟨by decide, by decide, by decide +kernel⟩, Or.inl (qTT_in 1711 (by decide +kernel) rfl)⟩, qTT_in 1712 (by decide +kernel) rfl, qTT_in 1713 (by decide +kernel) rfl⟩
theorem cal_RL_89 : qCalV RL 89 yX8_drop cX8_drop 2 (some .int) 1 := ⟨⟨qTT_in 993 (by decide +kernel) rfl, qTT_in 128 (by decide +kernel) rfl, ⟨by decide, by decide, by decide +kernel⟩, Or.inl (qTT_in 990 (by decide +kernel) rfl)⟩, qTT_in 991 (by decide +kernel) rfl, qTT_in 992 (by decide +kernel) rfl⟩
theorem cal_RL_92 : qCalV RL 92 yX9_drop cX9_drop 2 (some .int) 1 := ⟨⟨qTT_in 1718 (by decide +kernel) rfl, qTT_in 137 (by decide +kernel) rfl, ⟨by decide, by decide, by decide +kernel⟩, Or.inl (qTT_in 1715 (by decide +kernel) rfl)⟩, qTT_in 1716 (by decide +kernel) rfl, qTT_in 1717 (by decide +kernel) rfl⟩
theorem cal_RL_93 : qCalV RL 93 yX8_mount cX8_mount 2 (some .int) 1 := ⟨⟨qTT_in 997 (by decide +kernel) rfl, qTT_in 128 (by decide +kernel) rfl, ⟨by decide, by decide, by decide +kernel⟩, Or.inl (qTT_in 994 (by decide +kernel) rfl)⟩, qTT_in 995 (by decide +kernel) rfl, qTT_in 996 (by decide +kernel) rfl⟩
theorem cal_RL_96 : qCalV RL 96 yX9_mount cX9_mount 2 (some .int) 1 := ⟨⟨qTT_in 1722 (by decide +kernel) rfl, qTT_in 137 (by decide +kernel) rfl, ⟨by decide, by decide, by decide +kernel⟩, Or.inl (qTT_in 1719 (by decide +kernel) rfl)⟩, qTT_in 1720 (by decide +kernel) rfl, qTT_in 1721 (by decide +kernel) rfl⟩
theorem cal_RL_97 : qCalV RL 97 yX8_unmount cX8_unmount 2 (some .int) 1 := ⟨⟨qTT_in 1001 (by decide +kernel) rfl, qTT_in 128 (by decide +kernel) rfl, ⟨by decide, by decide, by decide +kernel⟩, Or.inl (qTT_in 998 (by decide +kernel) rfl)⟩, qTT_in 999 (by decide +kernel) rfl, qTT_in 1000 (by decide +kernel) rfl⟩
theorem cal_RL_100 : qCalV RL 100 yX9_unmount cX9_unmount 2 (some .int) 1 := ⟨⟨qTT_in 1726 (by decide +kernel) rfl, qTT_in 137 (by decide +kernel) rfl, ⟨by decide, by decide, by decide +kernel⟩, Or.inl (qTT_in 1723 (by decide +kernel) rfl)⟩, qTT_in 1724 (by decide +kernel) rfl, qTT_in 1725 (by decide +kernel) rfl⟩
theorem cal_RL_101 : qCalV RL 101 yX8_copy cX8_copy 3 (some .int) 2 := ⟨⟨qTT_in 1005 (by decide +kernel) rfl, qTT_in 128 (by decide +kernel) rfl, ⟨by decide, by decide, by decide +kernel⟩, Or.inl (qTT_in 1002 (by decide +kernel) rfl)⟩, qTT_in 1003 (by decide +kernel) rfl, qTT_in 1004 (by decide +kernel) rfl⟩
theorem cal_RL_104 : qCalV RL 104 yX9_copy cX9_copy 3 (some .int) 2 := ⟨⟨qTT_in 1730 (by decide +kernel) rfl, qTT_in 137 (by decide +kernel) rfl, ⟨by decide, by decide, by decide +kernel⟩, Or.inl (qTT_in 1727 (by decide +kernel) rfl)⟩, qTT_in 1728 (by decide +kernel) rfl, qTT_in 1729 (by decide +kernel) rfl⟩
theorem cal_RL_105 : qCalV RL 105 yX8_lose cX8_lose 1 (some .int) 0 := ⟨⟨qTT_in 1009 (by decide +kernel) rfl, qTT_in 128 (by decide +kernel) rfl, ⟨by decide, by decide, by decide +kernel⟩, Or.inl (qTT_in 1006 (by decide +kernel) rfl)⟩, qTT_in 1007 (by decide +kernel) rfl, qTT_in 1008 (by decide +kernel) rfl⟩
theorem cal_RL_108 : qCalV RL 108 yX9_lose cX9_lose 1 (some .int) 0 := ⟨⟨qTT_in 1734 (by decide +kernel) rfl, qTT_in 137 (by decide +kernel) rfl, ⟨by decide, by decide, by decide +kernel⟩, Or.inl (qTT_in 1731 (by decide +kernel) rfl)⟩, qTT_in 1732 (by decide +kernel) rfl, qTT_in 1733 (by decide +kernel) rfl⟩
theorem cal_RL_109 : qCalV RL 109 yX8_scan cX8_scan 2 (some .int) 1 := ⟨⟨qTT_in 1013 (by decide +kernel) rfl, qTT_in 128 (by decide +kernel) rfl, ⟨by decide, by decide, by decide +kernel⟩, Or.inl (qTT_in 1010 (by decide +kernel) rfl)⟩, qTT_in 1011 (by decide +kernel) rfl, qTT_in 1012 (by decide +kernel) rfl⟩
theorem cal_RL_112 : qCalV RL 112 yX9_scan cX9_scan 2 (some .int) 1 := ⟨⟨qTT_in 1738 (by decide +kernel) rfl, qTT_in 137 (by decide +kernel) rfl, ⟨by decide, by decide, by decide +kernel⟩, Or.inl (qTT_in 1735 (by decide +kernel) rfl)⟩, qTT_in 1736 (by decide +kernel) rfl, qTT_in 1737 (by decide +kernel) rfl⟩
theorem cal_RL_113 : qCalV RL 113 yX8_pause cX8_pause 2 (some .int) 1 := ⟨⟨qTT_in 1017 (by decide +kernel) rfl, qTT_in 128 (by decide +kernel) rfl, ⟨by decide, by decide, by decide +kernel⟩, Or.inl (qTT_in 1014 (by decide +kernel) rfl)⟩, qTT_in 1015 (by decide +kernel) rfl, qTT_in 1016 (by decide +kernel) rfl⟩
theorem cal_RL_116 : qCalV RL 116 yX9_pause cX9_pause 2 (some .int) 1 := ⟨⟨qTT_in 1742 (by decide +kernel) rfl, qTT_in 137 (by decide +kernel) rfl, ⟨by decide, by decide, by decide +kernel⟩, Or.inl (qTT_in 1739 (by decide +kernel) rfl)⟩, qTT_in 1740 (by decide +kernel) rfl, qTT_in 1741 (by decide +kernel) rfl⟩
theorem cal_RL_117 : qCalV RL 117 yX8_rescue cX8_rescue 1 (some .int) 0 := ⟨⟨qTT_in 1021 (by decide +kernel) rfl, qTT_in 128 (by decide +kernel) rfl, ⟨by decide, by decide, by decide +kernel⟩, Or.inl (qTT_in 1018 (by decide +kernel) rfl)⟩, qTT_in 1019 (by decide +kernel) rfl, qTT_in 1020 (by decide +kernel) rfl⟩
theorem cal_RL_120 : qCalV RL 120 yX9_rescue cX9_rescue 1 (some .int) 0 := ⟨⟨qTT_in 1746 (by decide +kernel) rfl, qTT_in 137 (by decide +kernel) rfl, ⟨by decide, by decide, by decide +kernel⟩, Or.inl (qTT_in 1743 (by decide +kernel) rfl)⟩, qTT_in 1744 (by decide +kernel) rfl, qTT_in 1745 (by decide +kernel) rfl⟩
theorem cal_RL_123 : qCalV RL 123 yX8_years cX8_years 7 (some .int) 2 := ⟨⟨qTT_in 1025 (by decide +kernel) rfl, qTT_in 128 (by decide +kernel) rfl, ⟨by decide, by decide, by decide +kernel⟩, Or.inl (qTT_in 1022 (by decide +kernel) rfl)⟩, qTT_in 1023 (by decide +kernel) rfl, qTT_in 1024 (by decide +kernel) rfl⟩
theorem cal_RL_127 : qCalV RL 127 yX9_years cX9_years 5 (some .int) 2 := ⟨⟨qTT_in 1750 (by decide +kernel) rfl, qTT_in 137 (by decide +kernel) rfl, ⟨by decide, by decide, by decide +kernel⟩, Or.inl (qTT_in 1747 (by decide +kernel) rfl)⟩, qTT_in 1748 (by decide +kernel) rfl, qTT_in 1749 (by decide +kernel) rfl⟩
theorem cal_RL_128 : qCalV RL 128 yX8_status cX8_status 2 (some .int) 1 := ⟨⟨qTT_in 1036 (by decide +kernel) rfl, qTT_in 128 (by decide +kernel) rfl, ⟨by decide, by decide, by decide +kernel⟩, Or.inl (qTT_in 1033 (by decide +kernel) rfl)⟩, qTT_in 1034 (by decide +kernel) rfl, qTT_in 1035 (by decide +kernel) rfl⟩
theorem cal_RL_131 : qCalV RL 131 yX9_status cX9_status 2 (some .int) 1 := ⟨⟨qTT_in 1768 (by decide +kernel) rfl, qTT_in 137 (by decide +kernel) rfl, ⟨by decide, by decide, by decide +kernel⟩, Or.inl (qTT_in 1765 (by decide +kernel) rfl)⟩, qTT_in 1766 (by decide +kernel) rfl, qTT_in 1767 (by decide +kernel) rfl⟩
theorem cal_RL_132 : qCalV RL 132 yX8_undo cX8_undo 1 (some .int) 0 := ⟨⟨qTT_in 1040 (by decide +kernel) rfl, qTT_in 128 (by decide +kernel) rfl, ⟨by decide, by decide, by decide +kernel⟩, Or.inl (qTT_in 1037 (by decide +kernel) rfl)⟩, qTT_in 1038 (by decide +kernel) rfl, qTT_in 1039 (by decide +kernel) rfl⟩
theorem cal_RL_135 : qCalV RL 135 yX9_undo cX9_undo 2 (some .int) 0 := ⟨⟨qTT_in 1772 (by decide +kernel) rfl, qTT_in 137 (by decide +kernel) rfl, ⟨by decide, by decide, by decide +kernel⟩, Or.inl (qTT_in 1769 (by decide +kernel) rfl)⟩, qTT_in 1770 (by decide +kernel) rfl, qTT_in 1771 (by decide +kernel) rfl⟩
theorem cal_RL_136 : qCalV RL 136 yX8_log cX8_log 3 (some .int) 2 := ⟨⟨qTT_in 1057 (by decide +kernel) rfl, qTT_in 128 (by decide +kernel) rfl, ⟨by decide, by decide, by decide +kernel⟩, Or.inl (qTT_in 1054 (by decide +kernel) rfl)⟩, qTT_in 1055 (by decide +kernel) rfl, qTT_in 1056 (by decide +kernel) rfl⟩
theorem cal_RL_139 : qCalV RL 139 yX9_log cX9_log 3 (some .int) 2 := ⟨⟨qTT_in 1776 (by decide +kernel) rfl, qTT_in 137 (by decide +kernel) rfl, ⟨by decide, by decide, by decide +kernel⟩, Or.inl (qTT_in 1773 (by decide +kernel) rfl)⟩, qTT_in 1774 (by decide +kernel) rfl, qTT_in 1775 (by decide +kernel) rfl⟩
theorem cal_RL_140 : qCalV RL 140 yX8_takes cX8_takes 3 (some .int) 2 := ⟨⟨qTT_in 1071 (by decide +kernel) rfl, qTT_in 128 (by decide +kernel) rfl, ⟨by decide, by decide, by decide +kernel⟩, Or.inl (qTT_in 1068 (by decide +kernel) rfl)⟩, qTT_in 1069 (by decide +kernel) rfl, qTT_in 1070 (by decide +kernel) rfl⟩
theorem cal_RL_143 : qCalV RL 143 yX9_takes cX9_takes 3 (some .int) 2 := ⟨⟨qTT_in 1829 (by decide +kernel) rfl, qTT_in 137 (by decide +kernel) rfl, ⟨by decide, by decide, by decide +kernel⟩, Or.inl (qTT_in 1826 (by decide +kernel) rfl)⟩, qTT_in 1827 (by decide +kernel) rfl, qTT_in 1828 (by decide +kernel) rfl⟩
theorem cal_RL_148 : qCalV RL 148 yX8_all cX8_all 2 (some .int) 1 := ⟨⟨qTT_in 1096 (by decide +kernel) rfl, qTT_in 128 (by decide +kernel) rfl, ⟨by decide, by decide, by decide +kernel⟩, Or.inl (qTT_in 1093 (by decide +kernel) rfl)⟩, qTT_in 1094 (by decide +kernel) rfl, qTT_in 1095 (by decide +kernel) rfl⟩
theorem cal_RL_151 : qCalV RL 151 yX9_all cX9_all 2 (some .int) 1 := ⟨⟨qTT_in 1849 (by decide +kernel) rfl, qTT_in 137 (by decide +kernel) rfl, ⟨by decide, by decide, by decide +kernel⟩, Or.inl (qTT_in 1846 (by decide +kernel) rfl)⟩, qTT_in 1847 (by decide +kernel) rfl, qTT_in 1848 (by decide +kernel) rfl⟩
theorem cal_RL_152 : qCalV RL 152 yX8_served cX8_served 2 (some .int) 1 := ⟨⟨qTT_in 1112 (by decide +kernel) rfl, qTT_in 128 (by decide +kernel) rfl, ⟨by decide, by decide, by decide +kernel⟩, Or.inl (qTT_in 1109 (by decide +kernel) rfl)⟩, qTT_in 1110 (by decide +kernel) rfl, qTT_in 1111 (by decide +kernel) rfl⟩
theorem cal_RL_155 : qCalV RL 155 yX9_served cX9_served 2 (some .int) 1 := ⟨⟨qTT_in 1865 (by decide +kernel) rfl, qTT_in 137 (by decide +kernel) rfl, ⟨by decide, by decide, by decide +kernel⟩, Or.inl (qTT_in 1862 (by decide +kernel) rfl)⟩, qTT_in 1863 (by decide +kernel) rfl, qTT_in 1864 (by decide +kernel) rfl⟩
theorem cal_RL_156 : qCalV RL 156 yX8_soon cX8_soon 3 (some .int) 1 := ⟨⟨qTT_in 1116 (by decide +kernel) rfl, qTT_in 128 (by decide +kernel) rfl, ⟨by decide, by decide, by decide +kernel⟩, Or.inl (qTT_in 1113 (by decide +kernel) rfl)⟩, qTT_in 1114 (by decide +kernel) rfl, qTT_in 1115 (by decide +kernel) rfl⟩
theorem cal_RL_159 : qCalV RL 159 yX9_soon cX9_soon 2 (some .int) 1 := ⟨⟨qTT_in 1869 (by decide +kernel) rfl, qTT_in 137 (by decide +kernel) rfl, ⟨by decide, by decide, by decide +kernel⟩, Or.inl (qTT_in 1866 (by decide +kernel) rfl)⟩, qTT_in 1867 (by decide +kernel) rfl, qTT_in 1868 (by decide +kernel) rfl⟩
theorem cal_RL_160 : qCalV RL 160 yX8_target cX8_target 2 (some .int) 1 := ⟨⟨qTT_in 1120 (by decide +kernel) rfl, qTT_in 128 (by decide +kernel) rfl, ⟨by decide, by decide, by decide +kernel⟩, Or.inl (qTT_in 1117 (by decide +kernel) rfl)⟩, qTT_in 1118 (by decide +kernel) rfl, qTT_in 1119 (by decide +kernel) rfl⟩
theorem cal_RL_163 : qCalV RL 163 yX9_target cX9_target 2 (some .int) 1 := ⟨⟨qTT_in 1873 (by decide +kernel) rfl, qTT_in 137 (by decide +kernel) rfl, ⟨by decide, by decide, by decide +kernel⟩, Or.inl (qTT_in 1870 (by decide +kernel) rfl)⟩, qTT_in 1871 (by decide +kernel) rfl, qTT_in 1872 (by decide +kernel) rfl⟩
theorem cal_RL_164 : qCalV RL 164 yX8_cheap cX8_cheap 6 (some .int) 1 := ⟨⟨qTT_in 1124 (by decide +kernel) rfl, qTT_in 128 (by decide +kernel) rfl, ⟨by decide, by decide, by decide +kernel⟩, Or.inl (qTT_in 1121 (by decide +kernel) rfl)⟩, qTT_in 1122 (by decide +kernel) rfl, qTT_in 1123 (by decide +kernel) rfl⟩
theorem cal_RL_167 : qCalV RL 167 yX9_cheap cX9_cheap 6 (some .int) 1 := ⟨⟨qTT_in 1877 (by decide +kernel) rfl, qTT_in 137 (by decide +kernel) rfl, ⟨by decide, by decide, by decide +kernel⟩, Or.inl (qTT_in 1874 (by decide +kernel) rfl)⟩, qTT_in 1875 (by decide +kernel) rfl, qTT_in 1876 (by decide +kernel) rfl⟩
theorem cal_RL_168 : qCalV RL 168 yX8_idle cX8_idle 2 (some .int) 1 := ⟨⟨qTT_in 1128 (by decide +kernel) rfl, qTT_in 128 (by decide +kernel) rfl, ⟨by decide, by decide, by decide +kernel⟩, Or.inl (qTT_in 1125 (by decide +kernel) rfl)⟩, qTT_in 1126 (by decide +kernel) rfl, qTT_in 1127 (by decide +kernel) rfl⟩
theorem cal_RL_171 : qCalV RL 171 yX9_idle cX9_idle 2 (some .int) 1 := ⟨⟨qTT_in 1881 (by decide +kernel) rfl, qTT_in 137 (by decide +kernel) rfl, ⟨by decide, by decide, by decide +kernel⟩, Or.inl (qTT_in 1878 (by decide +kernel) rfl)⟩, qTT_in 1879 (by decide +kernel) rfl, qTT_in 1880 (by decide +kernel) rfl⟩
theorem cal_RL_172 : qCalV RL 172 yX8_shares cX8_shares 5 (some .int) 2 := ⟨⟨qTT_in 1133 (by decide +kernel) rfl, qTT_in 128 (by decide +kernel) rfl, ⟨by decide, by decide, by decide +kernel⟩, Or.inl (qTT_in 1130 (by decide +kernel) rfl)⟩, qTT_in 1131 (by decide +kernel) rfl, qTT_in 1132 (by decide +kernel) rfl⟩
theorem cal_RL_175 : qCalV RL 175 yX9_shares cX9_shares 5 (some .int) 2 := ⟨⟨qTT_in 1885 (by decide +kernel) rfl, qTT_in 137 (by decide +kernel) rfl, ⟨by decide, by decide, by decide +kernel⟩, Or.inl (qTT_in 1882 (by decide +kernel) rfl)⟩, qTT_in 1883 (by decide +kernel) rfl, qTT_in 1884 (by decide +kernel) rfl⟩
theorem cal_RL_176 : qCalV RL 176 yX8_step cX8_step 4 (some .int) 3 := ⟨⟨qTT_in 1141 (by decide +kernel) rfl, qTT_in 128 (by decide +kernel) rfl, ⟨by decide, by decide, by decide +kernel⟩, Or.inl (qTT_in 1138 (by decide +kernel) rfl)⟩, qTT_in 1139 (by decide +kernel) rfl, qTT_in 1140 (by decide +kernel) rfl⟩
theorem cal_RL_179 : qCalV RL 179 yX9_step cX9_step 4 (some .int) 3 := ⟨⟨qTT_in 1889 (by decide +kernel) rfl, qTT_in 137 (by decide +kernel) rfl, ⟨by decide, by decide, by decide +kernel⟩, Or.inl (qTT_in 1886 (by decide +kernel) rfl)⟩, qTT_in 1887 (by decide +kernel) rfl, qTT_in 1888 (by decide +kernel) rfl⟩
theorem cal_RL_180 : qCalV RL 180 yX8_run cX8_run 4 (some .int) 2 := ⟨⟨qTT_in 1149 (by decide +kernel) rfl, qTT_in 128 (by decide +kernel) rfl, ⟨by decide, by decide, by decide +kernel⟩, Or.inl (qTT_in 1146 (by decide +kernel) rfl)⟩, qTT_in 1147 (by decide +kernel) rfl, qTT_in 1148 (by decide +kernel) rfl⟩
theorem cal_RL_183 : qCalV RL 183 yX9_run cX9_run 6 (some .int) 2 := ⟨⟨qTT_in 1897 (by decide +kernel) rfl, qTT_in 137 (by decide +kernel) rfl, ⟨by decide, by decide, by decide +kernel⟩, Or.inl (qTT_in 1894 (by decide +kernel) rfl)⟩, qTT_in 1895 (by decide +kernel) rfl, qTT_in 1896 (by decide +kernel) rfl⟩
theorem cal_RL_184 : qCalV RL 184 yX8_perform cX8_perform 4 (some .int) 1 := ⟨⟨qTT_in 1157 (by decide +kernel) rfl, qTT_in 128 (by decide +kernel) rfl, ⟨by decide, by decide, by decide +kernel⟩, Or.inl (qTT_in 1154 (by decide +kernel) rfl)⟩, qTT_in 1155 (by decide +kernel) rfl, qTT_in 1156 (by decide +kernel) rfl⟩
theorem cal_RL_187 : qCalV RL 187 yX9_perform cX9_perform 2 (some .int) 1 := ⟨⟨qTT_in 1912 (by decide +kernel) rfl, qTT_in 137 (by decide +kernel) rfl, ⟨by decide, by decide, by decide +kernel⟩, Or.inl (qTT_in 1909 (by decide +kernel) rfl)⟩, qTT_in 1910 (by decide +kernel) rfl, qTT_in 1911 (by decide +kernel) rfl⟩
theorem cal_RL_188 : qCalV RL 188 yX8_most cX8_most 2 (some .int) 1 := ⟨⟨qTT_in 1161 (by decide +kernel) rfl, qTT_in 128 (by decide +kernel) rfl, ⟨by decide, by decide, by decide +kernel⟩, Or.inl (qTT_in 1158 (by decide +kernel) rfl)⟩, qTT_in 1159 (by decide +kernel) rfl, qTT_in 1160 (by decide +kernel) rfl⟩
theorem cal_RL_191 : qCalV RL 191 yX9_most cX9_most 2 (some .int) 1 := ⟨⟨qTT_in 1916 (by decide +kernel) rfl, qTT_in 137 (by decide +kernel) rfl, ⟨by decide, by decide, by decide +kernel⟩, Or.inl (qTT_in 1913 (by decide +kernel) rfl)⟩, qTT_in 1914 (by decide +kernel) rfl, qTT_in 1915 (by decide +kernel) rfl⟩
theorem cal_RL_192 : qCalV RL 192 yX8_image cX8_image 1 (some .int) 0 := ⟨⟨qTT_in 1188 (by decide +kernel) rfl, qTT_in 128 (by decide +kernel) rfl, ⟨by decide, by decide, by decide +kernel⟩, Or.inl (qTT_in 1185 (by decide +kernel) rfl)⟩, qTT_in 1186 (by decide +kernel) rfl, qTT_in 1187 (by decide +kernel) rfl⟩
theorem cal_RL_195 : qCalV RL 195 yX9_image cX9_image 2 (some .int) 0 := ⟨⟨qTT_in 1940 (by decide +kernel) rfl, qTT_in 137 (by decide +kernel) rfl, ⟨by decide, by decide, by decide +kernel⟩, Or.inl (qTT_in 1937 (by decide +kernel) rfl)⟩, qTT_in 1938 (by decide +kernel) rfl, qTT_in 1939 (by decide +kernel) rfl⟩
theorem cal_RL_196 : qCalV RL 196 yX8_back cX8_back 1 (some .int) 0 := ⟨⟨qTT_in 1197 (by decide +kernel) rfl, qTT_in 128 (by decide +kernel) rfl, ⟨by decide, by decide, by decide +kernel⟩, Or.inl (qTT_in 1194 (by decide +kernel) rfl)⟩, qTT_in 1195 (by decide +kernel) rfl, qTT_in 1196 (by decide +kernel) rfl⟩
theorem cal_RL_199 : qCalV RL 199 yX9_back cX9_back 2 (some .int) 0 := ⟨⟨qTT_in 1944 (by decide +kernel) rfl, qTT_in 137 (by decide +kernel) rfl, ⟨by decide, by decide, by decide +kernel⟩, Or.inl (qTT_in 1941 (by decide +kernel) rfl)⟩, qTT_in 1942 (by decide +kernel) rfl, qTT_in 1943 (by decide +kernel) rfl⟩
theorem cal_RL_200 : qCalV RL 200 yX8_count cX8_count 2 (some .int) 1 := ⟨⟨qTT_in 1201 (by decide +kernel) rfl, qTT_in 128 (by decide +kernel) rfl, ⟨by decide, by decide, by decide +kernel⟩, Or.inl (qTT_in 1198 (by decide +kernel) rfl)⟩, qTT_in 1199 (by decide +kernel) rfl, qTT_in 1200 (by decide +kernel) rfl⟩
theorem cal_RL_203 : qCalV RL 203 yX9_count cX9_count 2 (some .int) 1 := ⟨⟨qTT_in 1948 (by decide +kernel) rfl, qTT_in 137 (by decide +kernel) rfl, ⟨by decide, by decide, by decide +kernel⟩, Or.inl (qTT_in 1945 (by decide +kernel) rfl)⟩, qTT_in 1946 (by decide +kernel) rfl, qTT_in 1947 (by decide +kernel) rfl⟩
section LB
variable {p : Program} {l : Launch} {e : Env} {s : State} {m : MethodId} {below : List Frame} {meth : Method} {c : Code} {b L : Nat} {xs : Nat → Int32} {D : va_G} {cs : Nat → ClassId} {xl : List (Nat × Value)} {i pc pc' : Nat} {st : List Value} {hx hm : qH} {ov : Nat → Int64} {C S B : Nat}
theorem lp_i2l (K : LC p l s m meth c b L xs D cs) {x : Int32} (hd : decode code pc = .ok (.i2l, 1)) (hp : pc + 1 = pc') (kk : LPt p l e s m below meth c b D cs xl i pc' (.long x.toInt64 :: st) hx hm ov C S) : LPt p l e s m below meth c b D cs xl i pc (.int x :: st) hx hm ov C S := by
  subst hp
  exact lp_go kk fun H locs cells slots Q la ad w => lv_i2l K.1.1 K.1.2.1 hd rfl w
theorem lp_bipush (K : LC p l s m meth c b L xs D cs) {n : Int} {v : Int32} (hv : (Int8.ofInt n).toInt32 = v) (hd : decode code pc = .ok (.bipush n, 2)) (hp : pc + 2 = pc') (kk : LPt p l e s m below meth c b D cs xl i pc' (.int v :: st) hx hm ov C S) : LPt p l e s m below meth c b D cs xl i pc st hx hm ov C S := by
  subst hp
  exact lp_go kk fun H locs cells slots Q la ad w => lv_bipush K.1.1 K.1.2.1 hd hv w
theorem lp_lshl (K : LC p l s m meth c b L xs D cs) {x : Int64} {y : Int32} (hd : decode code pc = .ok (.lshl, 1)) (hp : pc + 1 = pc') (kk : LPt p l e s m below meth c b D cs xl i pc' (.long (x <<< (y.toInt64 &&& 63)) :: st) hx hm ov C S) : LPt p l e s m below meth c b D cs xl i pc (.int y :: .long x :: st) hx hm ov C S := by
  subst hp
  exact lp_go kk fun H locs cells slots Q la ad w => lv_lshl K.1.1 K.1.2.1 hd rfl w
theorem lp_land (K : LC p l s m meth c b L xs D cs) {x y : Int64} (hd : decode code pc = .ok (.land, 1)) (hp : pc + 1 = pc') (kk : LPt p l e s m below meth c b D cs xl i pc' (.long (x &&& y) :: st) hx hm ov C S) : LPt p l e s m below meth c b D cs xl i pc (.long y :: .long x :: st) hx hm ov C S := by
  subst hp
  exact lp_go kk fun H locs cells slots Q la ad w => lv_land K.1.1 K.1.2.1 hd w
theorem lp_lor (K : LC p l s m meth c b L xs D cs) {x y : Int64} (hd : decode code pc = .ok (.lor, 1)) (hp : pc + 1 = pc') (kk : LPt p l e s m below meth c b D cs xl i pc' (.long (x ||| y) :: st) hx hm ov C S) : LPt p l e s m below meth c b D cs xl i pc (.long y :: .long x :: st) hx hm ov C S := by
  subst hp
  exact lp_go kk fun H locs cells slots Q la ad w => lv_lor K.1.1 K.1.2.1 hd w
theorem lp_ldc2 (K : LC p l s m meth c b L xs D cs) {idx : Nat} {v : Int64} (hw : Cond.constantLong RL idx v ∈ qTT) (hd : decode code pc = .ok (.ldc2_w idx, 3)) (hp : pc + 3 = pc') (kk : LPt p l e s m below meth c b D cs xl i pc' (.long v :: st) hx hm ov C S) : LPt p l e s m below meth c b D cs xl i pc st hx hm ov C S := by
  subst hp
  exact lp_go kk fun H locs cells slots Q la ad w => lv_ldc2 K.1.1 K.1.2.1 K.1.2.2.2 (K.tt _ hw) hd w
theorem lc_0 (K : LC p l s m meth c b L xs D cs) (hi : i + 6 ≤ L) (hCS : C ≤ 601024 ∧ S ≤ 7293034) (hB : B + 40 < 2 ^ 29) (h : WW B hx hm) (kk : ∀ hx' hm', WW (B + 40) hx' hm' → ix (hx'.1 100 0) = ix (hx.1 100 0) → LPt p l e s m below meth c b D cs xl i 1522 [] hx' hm' ov C S) : LPt p l e s m below meth c b D cs xl i 228 [] hx hm ov C S := by
  obtain ⟨v, hx', hm', e1, e2, w⟩ := h.feed ((xs (i + 1))) ((xs (i + 2))) ((xs (i + 3))) ((xs (i + 4))) ((xs (i + 5)))
  replace w := w.mono (show _ ≤ B + 40 by omega)
  refine lp_al1 K dL_law_228 rfl ?_
  refine lp_scr K hi (j := 1) (by decide) (by decide) dL_law_229 rfl dL_law_230 rfl dL_law_232 rfl dL_law_233 rfl dL_law_234 rfl ?_
  refine lp_scr K hi (j := 2) (by decide) (by decide) dL_law_235 rfl dL_law_236 rfl dL_law_238 rfl dL_law_239 rfl dL_law_240 rfl ?_
  refine lp_scr K hi (j := 3) (by decide) (by decide) dL_law_241 rfl dL_law_242 rfl dL_law_244 rfl dL_law_245 rfl dL_law_246 rfl ?_
  refine lp_scr K hi (j := 4) (by decide) (by decide) dL_law_247 rfl dL_law_248 rfl dL_law_250 rfl dL_law_251 rfl dL_law_252 rfl ?_
  refine lp_scr K hi (j := 5) (by decide) (by decide) dL_law_253 rfl dL_law_254 rfl dL_law_256 rfl dL_law_257 rfl dL_law_258 rfl ?_
  refine lp_callX (st := []) [.int (xs (i + 1)), .int (xs (i + 2)), .int (xs (i + 3)), .int (xs (i + 4)), .int (xs (i + 5))] K (fun _ => rfl) (m8_feed l ((xs (i + 1))) ((xs (i + 2))) ((xs (i + 3))) ((xs (i + 4))) ((xs (i + 5)))) e1 rfl cal_RL_19 rfl rfl ⟨rfl, rfl⟩ ⟨Nat.le_of_ble_eq_true rfl, Nat.le_of_ble_eq_true rfl⟩ (Nat.le_of_ble_eq_true rfl) hCS dL_law_259 rfl (fun h100 => ?_)
  refine lp_al2 K dL_law_262 rfl ?_
  refine lp_scr K hi (j := 1) (by decide) (by decide) dL_law_263 rfl dL_law_264 rfl dL_law_266 rfl dL_law_267 rfl dL_law_268 rfl ?_
  refine lp_scr K hi (j := 2) (by decide) (by decide) dL_law_269 rfl dL_law_270 rfl dL_law_272 rfl dL_law_273 rfl dL_law_274 rfl ?_
  refine lp_scr K hi (j := 3) (by decide) (by decide) dL_law_275 rfl dL_law_276 rfl dL_law_278 rfl dL_law_279 rfl dL_law_280 rfl ?_
  refine lp_scr K hi (j := 4) (by decide) (by decide) dL_law_281 rfl dL_law_282 rfl dL_law_284 rfl dL_law_285 rfl dL_law_286 rfl ?_
  refine lp_scr K hi (j := 5) (by decide) (by decide) dL_law_287 rfl dL_law_288 rfl dL_law_290 rfl dL_law_291 rfl dL_law_292 rfl ?_
  refine lp_callM (st := [.int v]) [.int (xs (i + 1)), .int (xs (i + 2)), .int (xs (i + 3)), .int (xs (i + 4)), .int (xs (i + 5))] K (fun _ => rfl) (m9_feed l ((xs (i + 1))) ((xs (i + 2))) ((xs (i + 3))) ((xs (i + 4))) ((xs (i + 5)))) e2 rfl cal_RL_23 rfl rfl ⟨rfl, rfl⟩ ⟨Nat.le_of_ble_eq_true rfl, Nat.le_of_ble_eq_true rfl⟩ (Nat.le_of_ble_eq_true rfl) hCS dL_law_293 rfl ?_
  exact lp_eq K dL_law_296 (by decide) (kk _ _ w h100)
theorem lc_1 (K : LC p l s m meth c b L xs D cs) (hi : i + 6 ≤ L) (hCS : C ≤ 601024 ∧ S ≤ 7293034) (hB : B + 40 < 2 ^ 29) (h : WW B hx hm) (kk : ∀ hx' hm', WW (B + 40) hx' hm' → ix (hx'.1 100 0) = ix (hx.1 100 0) → LPt p l e s m below meth c b D cs xl i 1522 [] hx' hm' ov C S) : LPt p l e s m below meth c b D cs xl i 301 [] hx hm ov C S := by
  obtain ⟨v, hx', hm', e1, e2, w⟩ := h.end ((xs (i + 1)))
  replace w := w.mono (show _ ≤ B + 40 by omega)
  refine lp_al1 K dL_law_301 rfl ?_
  refine lp_scr K hi (j := 1) (by decide) (by decide) dL_law_302 rfl dL_law_303 rfl dL_law_305 rfl dL_law_306 rfl dL_law_307 rfl ?_
  refine lp_callX (st := []) [.int (xs (i + 1))] K (fun _ => rfl) (m8_end l ((xs (i + 1)))) e1 rfl cal_RL_24 rfl rfl ⟨rfl, rfl⟩ ⟨Nat.le_of_ble_eq_true rfl, Nat.le_of_ble_eq_true rfl⟩ (Nat.le_of_ble_eq_true rfl) hCS dL_law_308 rfl (fun h100 => ?_)
  refine lp_al2 K dL_law_311 rfl ?_
  refine lp_scr K hi (j := 1) (by decide) (by decide) dL_law_312 rfl dL_law_313 rfl dL_law_315 rfl dL_law_316 rfl dL_law_317 rfl ?_
  refine lp_callM (st := [.int v]) [.int (xs (i + 1))] K (fun _ => rfl) (m9_end l ((xs (i + 1)))) e2 rfl cal_RL_28 rfl rfl ⟨rfl, rfl⟩ ⟨Nat.le_of_ble_eq_true rfl, Nat.le_of_ble_eq_true rfl⟩ (Nat.le_of_ble_eq_true rfl) hCS dL_law_318 rfl ?_
  exact lp_eq K dL_law_321 (by decide) (kk _ _ w h100)
theorem lc_2 (K : LC p l s m meth c b L xs D cs) (hi : i + 6 ≤ L) (hCS : C ≤ 601024 ∧ S ≤ 7293034) (hB : B + 40 < 2 ^ 29) (h : WW B hx hm) (kk : ∀ hx' hm', WW (B + 40) hx' hm' → ix (hx'.1 100 0) = ix (hx.1 100 0) → LPt p l e s m below meth c b D cs xl i 1522 [] hx' hm' ov C S) : LPt p l e s m below meth c b D cs xl i 326 [] hx hm ov C S := by
  obtain ⟨v, hx', hm', e1, e2, w⟩ := h.fault ((xs (i + 1)))
  replace w := w.mono (show _ ≤ B + 40 by omega)
  refine lp_al1 K dL_law_326 rfl ?_
  refine lp_scr K hi (j := 1) (by decide) (by decide) dL_law_327 rfl dL_law_328 rfl dL_law_330 rfl dL_law_331 rfl dL_law_332 rfl ?_
  refine lp_callX (st := []) [.int (xs (i + 1))] K (fun _ => rfl) (m8_fault l ((xs (i + 1)))) e1 rfl cal_RL_29 rfl rfl ⟨rfl, rfl⟩ ⟨Nat.le_of_ble_eq_true rfl, Nat.le_of_ble_eq_true rfl⟩ (Nat.le_of_ble_eq_true rfl) hCS dL_law_333 rfl (fun h100 => ?_)
  refine lp_al2 K dL_law_336 rfl ?_
  refine lp_scr K hi (j := 1) (by decide) (by decide) dL_law_337 rfl dL_law_338 rfl dL_law_340 rfl dL_law_341 rfl dL_law_342 rfl ?_
  refine lp_callM (st := [.int v]) [.int (xs (i + 1))] K (fun _ => rfl) (m9_fault l ((xs (i + 1)))) e2 rfl cal_RL_33 rfl rfl ⟨rfl, rfl⟩ ⟨Nat.le_of_ble_eq_true rfl, Nat.le_of_ble_eq_true rfl⟩ (Nat.le_of_ble_eq_true rfl) hCS dL_law_343 rfl ?_
  exact lp_eq K dL_law_346 (by decide) (kk _ _ w h100)
theorem lc_3 (K : LC p l s m meth c b L xs D cs) (hi : i + 6 ≤ L) (hCS : C ≤ 601024 ∧ S ≤ 7293034) (hB : B + 40 < 2 ^ 29) (h : WW B hx hm) (kk : ∀ hx' hm', WW (B + 40) hx' hm' → ix (hx'.1 100 0) = ix (hx.1 100 0) → LPt p l e s m below meth c b D cs xl i 1522 [] hx' hm' ov C S) : LPt p l e s m below meth c b D cs xl i 351 [] hx hm ov C S := by
  obtain ⟨v, hx', hm', e1, e2, w⟩ := h.text ((xs (i + 1)))
  replace w := w.mono (show _ ≤ B + 40 by omega)
  refine lp_al1 K dL_law_351 rfl ?_
  refine lp_scr K hi (j := 1) (by decide) (by decide) dL_law_352 rfl dL_law_353 rfl dL_law_355 rfl dL_law_356 rfl dL_law_357 rfl ?_
  refine lp_callX (st := []) [.int (xs (i + 1))] K (fun _ => rfl) (m8_text l ((xs (i + 1)))) e1 rfl cal_RL_34 rfl rfl ⟨rfl, rfl⟩ ⟨Nat.le_of_ble_eq_true rfl, Nat.le_of_ble_eq_true rfl⟩ (Nat.le_of_ble_eq_true rfl) hCS dL_law_358 rfl (fun h100 => ?_)
  refine lp_al2 K dL_law_361 rfl ?_
  refine lp_scr K hi (j := 1) (by decide) (by decide) dL_law_362 rfl dL_law_363 rfl dL_law_365 rfl dL_law_366 rfl dL_law_367 rfl ?_
  refine lp_callM (st := [.int v]) [.int (xs (i + 1))] K (fun _ => rfl) (m9_text l ((xs (i + 1)))) e2 rfl cal_RL_37 rfl rfl ⟨rfl, rfl⟩ ⟨Nat.le_of_ble_eq_true rfl, Nat.le_of_ble_eq_true rfl⟩ (Nat.le_of_ble_eq_true rfl) hCS dL_law_368 rfl ?_
  exact lp_eq K dL_law_371 (by decide) (kk _ _ w h100)
theorem lc_4 (K : LC p l s m meth c b L xs D cs) (hi : i + 6 ≤ L) (hCS : C ≤ 601024 ∧ S ≤ 7293034) (hB : B + 40 < 2 ^ 29) (h : WW B hx hm) (kk : ∀ hx' hm', WW (B + 40) hx' hm' → ix (hx'.1 100 0) = ix (hx.1 100 0) → LPt p l e s m below meth c b D cs xl i 1522 [] hx' hm' ov C S) : LPt p l e s m below meth c b D cs xl i 376 [] hx hm ov C S := by
  obtain ⟨v, e1, e2⟩ := h.rule ((xs (i + 1)))
  have w := h.mono (show B ≤ B + 40 by omega)
  refine lp_al1 K dL_law_376 rfl ?_
  refine lp_scr K hi (j := 1) (by decide) (by decide) dL_law_377 rfl dL_law_378 rfl dL_law_380 rfl dL_law_381 rfl dL_law_382 rfl ?_
  refine lp_callX (st := []) [.int (xs (i + 1))] K (fun _ => rfl) (m8_rule l ((xs (i + 1)))) e1 rfl cal_RL_38 rfl rfl ⟨rfl, rfl⟩ ⟨Nat.le_of_ble_eq_true rfl, Nat.le_of_ble_eq_true rfl⟩ (Nat.le_of_ble_eq_true rfl) hCS dL_law_383 rfl (fun h100 => ?_)
  refine lp_al2 K dL_law_386 rfl ?_
  refine lp_scr K hi (j := 1) (by decide) (by decide) dL_law_387 rfl dL_law_388 rfl dL_law_390 rfl dL_law_391 rfl dL_law_392 rfl ?_
  refine lp_callM (st := [.int v]) [.int (xs (i + 1))] K (fun _ => rfl) (m9_rule l ((xs (i + 1)))) e2 rfl cal_RL_41 rfl rfl ⟨rfl, rfl⟩ ⟨Nat.le_of_ble_eq_true rfl, Nat.le_of_ble_eq_true rfl⟩ (Nat.le_of_ble_eq_true rfl) hCS dL_law_393 rfl ?_
  exact lp_eq K dL_law_396 (by decide) (kk _ _ w h100)
theorem lc_6 (K : LC p l s m meth c b L xs D cs) (hi : i + 6 ≤ L) (hCS : C ≤ 601024 ∧ S ≤ 7293034) (hB : B + 40 < 2 ^ 29) (h : WW B hx hm) (kk : ∀ hx' hm', WW (B + 40) hx' hm' → ix (hx'.1 100 0) = ix (hx.1 100 0) → LPt p l e s m below meth c b D cs xl i 1522 [] hx' hm' ov C S) : LPt p l e s m below meth c b D cs xl i 469 [] hx hm ov C S := by
  obtain ⟨v, e1, e2⟩ := h.file ((xs (i + 1))) ((xs (i + 2)))
  have w := h.mono (show B ≤ B + 40 by omega)
  refine lp_al1 K dL_law_469 rfl ?_
  refine lp_scr K hi (j := 1) (by decide) (by decide) dL_law_470 rfl dL_law_471 rfl dL_law_473 rfl dL_law_474 rfl dL_law_475 rfl ?_
  refine lp_scr K hi (j := 2) (by decide) (by decide) dL_law_476 rfl dL_law_477 rfl dL_law_479 rfl dL_law_480 rfl dL_law_481 rfl ?_
  refine lp_callX (st := []) [.int (xs (i + 1)), .int (xs (i + 2))] K (fun _ => rfl) (m8_file l ((xs (i + 1))) ((xs (i + 2)))) e1 rfl cal_RL_52 rfl rfl ⟨rfl, rfl⟩ ⟨Nat.le_of_ble_eq_true rfl, Nat.le_of_ble_eq_true rfl⟩ (Nat.le_of_ble_eq_true rfl) hCS dL_law_482 rfl (fun h100 => ?_)
  refine lp_al2 K dL_law_485 rfl ?_
  refine lp_scr K hi (j := 1) (by decide) (by decide) dL_law_486 rfl dL_law_487 rfl dL_law_489 rfl dL_law_490 rfl dL_law_491 rfl ?_
  refine lp_scr K hi (j := 2) (by decide) (by decide) dL_law_492 rfl dL_law_493 rfl dL_law_495 rfl dL_law_496 rfl dL_law_497 rfl ?_
  refine lp_callM (st := [.int v]) [.int (xs (i + 1)), .int (xs (i + 2))] K (fun _ => rfl) (m9_file l ((xs (i + 1))) ((xs (i + 2)))) e2 rfl cal_RL_55 rfl rfl ⟨rfl, rfl⟩ ⟨Nat.le_of_ble_eq_true rfl, Nat.le_of_ble_eq_true rfl⟩ (Nat.le_of_ble_eq_true rfl) hCS dL_law_498 rfl ?_
  exact lp_eq K dL_law_501 (by decide) (kk _ _ w h100)
theorem lc_7 (K : LC p l s m meth c b L xs D cs) (hi : i + 6 ≤ L) (hCS : C ≤ 601024 ∧ S ≤ 7293034) (hB : B + 40 < 2 ^ 29) (h : WW B hx hm) (kk : ∀ hx' hm', WW (B + 40) hx' hm' → ix (hx'.1 100 0) = ix (hx.1 100 0) → LPt p l e s m below meth c b D cs xl i 1522 [] hx' hm' ov C S) : LPt p l e s m below meth c b D cs xl i 506 [] hx hm ov C S := by
  obtain ⟨v, e1, e2⟩ := h.drive ((xs (i + 1)))
  have w := h.mono (show B ≤ B + 40 by omega)
  refine lp_al1 K dL_law_506 rfl ?_
  refine lp_scr K hi (j := 1) (by decide) (by decide) dL_law_507 rfl dL_law_508 rfl dL_law_510 rfl dL_law_511 rfl dL_law_512 rfl ?_
  refine lp_callX (st := []) [.int (xs (i + 1))] K (fun _ => rfl) (m8_drive l ((xs (i + 1)))) e1 rfl cal_RL_56 rfl rfl ⟨rfl, rfl⟩ ⟨Nat.le_of_ble_eq_true rfl, Nat.le_of_ble_eq_true rfl⟩ (Nat.le_of_ble_eq_true rfl) hCS dL_law_513 rfl (fun h100 => ?_)
  refine lp_al2 K dL_law_516 rfl ?_
  refine lp_scr K hi (j := 1) (by decide) (by decide) dL_law_517 rfl dL_law_518 rfl dL_law_520 rfl dL_law_521 rfl dL_law_522 rfl ?_
  refine lp_callM (st := [.int v]) [.int (xs (i + 1))] K (fun _ => rfl) (m9_drive l ((xs (i + 1)))) e2 rfl cal_RL_59 rfl rfl ⟨rfl, rfl⟩ ⟨Nat.le_of_ble_eq_true rfl, Nat.le_of_ble_eq_true rfl⟩ (Nat.le_of_ble_eq_true rfl) hCS dL_law_523 rfl ?_
  exact lp_eq K dL_law_526 (by decide) (kk _ _ w h100)
theorem lc_8 (K : LC p l s m meth c b L xs D cs) (hi : i + 6 ≤ L) (hCS : C ≤ 601024 ∧ S ≤ 7293034) (hB : B + 40 < 2 ^ 29) (h : WW B hx hm) (kk : ∀ hx' hm', WW (B + 40) hx' hm' → ix (hx'.1 100 0) = ix (hx.1 100 0) → LPt p l e s m below meth c b D cs xl i 1522 [] hx' hm' ov C S) : LPt p l e s m below meth c b D cs xl i 531 [] hx hm ov C S := by
  obtain ⟨v, e1, e2⟩ := h.labelled ((xs (i + 1)))
  have w := h.mono (show B ≤ B + 40 by omega)
  refine lp_al1 K dL_law_531 rfl ?_
  refine lp_scr K hi (j := 1) (by decide) (by decide) dL_law_532 rfl dL_law_533 rfl dL_law_535 rfl dL_law_536 rfl dL_law_537 rfl ?_
  refine lp_callX (st := []) [.int (xs (i + 1))] K (fun _ => rfl) (m8_labelled l ((xs (i + 1)))) e1 rfl cal_RL_60 rfl rfl ⟨rfl, rfl⟩ ⟨Nat.le_of_ble_eq_true rfl, Nat.le_of_ble_eq_true rfl⟩ (Nat.le_of_ble_eq_true rfl) hCS dL_law_538 rfl (fun h100 => ?_)
  refine lp_al2 K dL_law_541 rfl ?_
  refine lp_scr K hi (j := 1) (by decide) (by decide) dL_law_542 rfl dL_law_543 rfl dL_law_545 rfl dL_law_546 rfl dL_law_547 rfl ?_
  refine lp_callM (st := [.int v]) [.int (xs (i + 1))] K (fun _ => rfl) (m9_labelled l ((xs (i + 1)))) e2 rfl cal_RL_63 rfl rfl ⟨rfl, rfl⟩ ⟨Nat.le_of_ble_eq_true rfl, Nat.le_of_ble_eq_true rfl⟩ (Nat.le_of_ble_eq_true rfl) hCS dL_law_548 rfl ?_
  exact lp_eq K dL_law_551 (by decide) (kk _ _ w h100)
theorem lc_9 (K : LC p l s m meth c b L xs D cs) (hi : i + 6 ≤ L) (hCS : C ≤ 601024 ∧ S ≤ 7293034) (hB : B + 40 < 2 ^ 29) (h : WW B hx hm) (kk : ∀ hx' hm', WW (B + 40) hx' hm' → ix (hx'.1 100 0) = ix (hx.1 100 0) → LPt p l e s m below meth c b D cs xl i 1522 [] hx' hm' ov C S) : LPt p l e s m below meth c b D cs xl i 556 [] hx hm ov C S := by
  obtain ⟨v, e1, e2⟩ := h.way ((xs (i + 1))) ((xs (i + 2)))
  have w := h.mono (show B ≤ B + 40 by omega)
  refine lp_al1 K dL_law_556 rfl ?_
  refine lp_scr K hi (j := 1) (by decide) (by decide) dL_law_557 rfl dL_law_558 rfl dL_law_560 rfl dL_law_561 rfl dL_law_562 rfl ?_
  refine lp_scr K hi (j := 2) (by decide) (by decide) dL_law_563 rfl dL_law_564 rfl dL_law_566 rfl dL_law_567 rfl dL_law_568 rfl ?_
  refine lp_callX (st := []) [.int (xs (i + 1)), .int (xs (i + 2))] K (fun _ => rfl) (m8_way l ((xs (i + 1))) ((xs (i + 2)))) e1 rfl cal_RL_64 rfl rfl ⟨rfl, rfl⟩ ⟨Nat.le_of_ble_eq_true rfl, Nat.le_of_ble_eq_true rfl⟩ (Nat.le_of_ble_eq_true rfl) hCS dL_law_569 rfl (fun h100 => ?_)
  refine lp_al2 K dL_law_572 rfl ?_
  refine lp_scr K hi (j := 1) (by decide) (by decide) dL_law_573 rfl dL_law_574 rfl dL_law_576 rfl dL_law_577 rfl dL_law_578 rfl ?_
  refine lp_scr K hi (j := 2) (by decide) (by decide) dL_law_579 rfl dL_law_580 rfl dL_law_582 rfl dL_law_583 rfl dL_law_584 rfl ?_
  refine lp_callM (st := [.int v]) [.int (xs (i + 1)), .int (xs (i + 2))] K (fun _ => rfl) (m9_way l ((xs (i + 1))) ((xs (i + 2)))) e2 rfl cal_RL_67 rfl rfl ⟨rfl, rfl⟩ ⟨Nat.le_of_ble_eq_true rfl, Nat.le_of_ble_eq_true rfl⟩ (Nat.le_of_ble_eq_true rfl) hCS dL_law_585 rfl ?_
  exact lp_eq K dL_law_588 (by decide) (kk _ _ w h100)
theorem lc_10 (K : LC p l s m meth c b L xs D cs) (hi : i + 6 ≤ L) (hCS : C ≤ 601024 ∧ S ≤ 7293034) (hB : B + 40 < 2 ^ 29) (h : WW B hx hm) (kk : ∀ hx' hm', WW (B + 40) hx' hm' → ix (hx'.1 100 0) = ix (hx.1 100 0) → LPt p l e s m below meth c b D cs xl i 1522 [] hx' hm' ov C S) : LPt p l e s m below meth c b D cs xl i 593 [] hx hm ov C S := by
  obtain ⟨v, e1, e2⟩ := h.seek ((xs (i + 1))) ((xs (i + 2)))
  have w := h.mono (show B ≤ B + 40 by omega)
  refine lp_al1 K dL_law_593 rfl ?_
  refine lp_scr K hi (j := 1) (by decide) (by decide) dL_law_594 rfl dL_law_595 rfl dL_law_597 rfl dL_law_598 rfl dL_law_599 rfl ?_
  refine lp_scr K hi (j := 2) (by decide) (by decide) dL_law_600 rfl dL_law_601 rfl dL_law_603 rfl dL_law_604 rfl dL_law_605 rfl ?_
  refine lp_callX (st := []) [.int (xs (i + 1)), .int (xs (i + 2))] K (fun _ => rfl) (m8_seek l ((xs (i + 1))) ((xs (i + 2)))) e1 rfl cal_RL_68 rfl rfl ⟨rfl, rfl⟩ ⟨Nat.le_of_ble_eq_true rfl, Nat.le_of_ble_eq_true rfl⟩ (Nat.le_of_ble_eq_true rfl) hCS dL_law_606 rfl (fun h100 => ?_)
  refine lp_al2 K dL_law_609 rfl ?_
  refine lp_scr K hi (j := 1) (by decide) (by decide) dL_law_610 rfl dL_law_611 rfl dL_law_613 rfl dL_law_614 rfl dL_law_615 rfl ?_
  refine lp_scr K hi (j := 2) (by decide) (by decide) dL_law_616 rfl dL_law_617 rfl dL_law_619 rfl dL_law_620 rfl dL_law_621 rfl ?_
  refine lp_callM (st := [.int v]) [.int (xs (i + 1)), .int (xs (i + 2))] K (fun _ => rfl) (m9_seek l ((xs (i + 1))) ((xs (i + 2)))) e2 rfl cal_RL_71 rfl rfl ⟨rfl, rfl⟩ ⟨Nat.le_of_ble_eq_true rfl, Nat.le_of_ble_eq_true rfl⟩ (Nat.le_of_ble_eq_true rfl) hCS dL_law_622 rfl ?_
  exact lp_eq K dL_law_625 (by decide) (kk _ _ w h100)
theorem lc_11 (K : LC p l s m meth c b L xs D cs) (hi : i + 6 ≤ L) (hCS : C ≤ 601024 ∧ S ≤ 7293034) (hB : B + 40 < 2 ^ 29) (h : WW B hx hm) (kk : ∀ hx' hm', WW (B + 40) hx' hm' → ix (hx'.1 100 0) = ix (hx.1 100 0) → LPt p l e s m below meth c b D cs xl i 1522 [] hx' hm' ov C S) : LPt p l e s m below meth c b D cs xl i 630 [] hx hm ov C S := by
  obtain ⟨v, e1, e2⟩ := h.path ((xs (i + 1))) ((xs (i + 2))) ((xs (i + 3)))
  have w := h.mono (show B ≤ B + 40 by omega)
  refine lp_al1 K dL_law_630 rfl ?_
  refine lp_scr K hi (j := 1) (by decide) (by decide) dL_law_631 rfl dL_law_632 rfl dL_law_634 rfl dL_law_635 rfl dL_law_636 rfl ?_
  refine lp_scr K hi (j := 2) (by decide) (by decide) dL_law_637 rfl dL_law_638 rfl dL_law_640 rfl dL_law_641 rfl dL_law_642 rfl ?_
  refine lp_scr K hi (j := 3) (by decide) (by decide) dL_law_643 rfl dL_law_644 rfl dL_law_646 rfl dL_law_647 rfl dL_law_648 rfl ?_
  refine lp_callX (st := []) [.int (xs (i + 1)), .int (xs (i + 2)), .int (xs (i + 3))] K (fun _ => rfl) (m8_path l ((xs (i + 1))) ((xs (i + 2))) ((xs (i + 3)))) e1 rfl cal_RL_72 rfl rfl ⟨rfl, rfl⟩ ⟨Nat.le_of_ble_eq_true rfl, Nat.le_of_ble_eq_true rfl⟩ (Nat.le_of_ble_eq_true rfl) hCS dL_law_649 rfl (fun h100 => ?_)
  refine lp_al2 K dL_law_652 rfl ?_
  refine lp_scr K hi (j := 1) (by decide) (by decide) dL_law_653 rfl dL_law_654 rfl dL_law_656 rfl dL_law_657 rfl dL_law_658 rfl ?_
  refine lp_scr K hi (j := 2) (by decide) (by decide) dL_law_659 rfl dL_law_660 rfl dL_law_662 rfl dL_law_663 rfl dL_law_664 rfl ?_
  refine lp_scr K hi (j := 3) (by decide) (by decide) dL_law_665 rfl dL_law_666 rfl dL_law_668 rfl dL_law_669 rfl dL_law_670 rfl ?_
  refine lp_callM (st := [.int v]) [.int (xs (i + 1)), .int (xs (i + 2)), .int (xs (i + 3))] K (fun _ => rfl) (m9_path l ((xs (i + 1))) ((xs (i + 2))) ((xs (i + 3)))) e2 rfl cal_RL_76 rfl rfl ⟨rfl, rfl⟩ ⟨Nat.le_of_ble_eq_true rfl, Nat.le_of_ble_eq_true rfl⟩ (Nat.le_of_ble_eq_true rfl) hCS dL_law_671 rfl ?_
  exact lp_eq K dL_law_674 (by decide) (kk _ _ w h100)
theorem lc_12 (K : LC p l s m meth c b L xs D cs) (hi : i + 6 ≤ L) (hCS : C ≤ 601024 ∧ S ≤ 7293034) (hB : B + 40 < 2 ^ 29) (h : WW B hx hm) (kk : ∀ hx' hm', WW (B + 40) hx' hm' → ix (hx'.1 100 0) = ix (hx.1 100 0) → LPt p l e s m below meth c b D cs xl i 1522 [] hx' hm' ov C S) : LPt p l e s m below meth c b D cs xl i 679 [] hx hm ov C S := by
  obtain ⟨v, hx', hm', e1, e2, w⟩ := h.ask hB ((xs (i + 1)))
  replace w := w.mono (show _ ≤ B + 40 by omega)
  refine lp_al1 K dL_law_679 rfl ?_
  refine lp_scr K hi (j := 1) (by decide) (by decide) dL_law_680 rfl dL_law_681 rfl dL_law_683 rfl dL_law_684 rfl dL_law_685 rfl ?_
  refine lp_callX (st := []) [.int (xs (i + 1))] K (fun _ => rfl) (m8_ask l ((xs (i + 1)))) e1 rfl cal_RL_77 rfl rfl ⟨rfl, rfl⟩ ⟨Nat.le_of_ble_eq_true rfl, Nat.le_of_ble_eq_true rfl⟩ (Nat.le_of_ble_eq_true rfl) hCS dL_law_686 rfl (fun h100 => ?_)
  refine lp_al2 K dL_law_689 rfl ?_
  refine lp_scr K hi (j := 1) (by decide) (by decide) dL_law_690 rfl dL_law_691 rfl dL_law_693 rfl dL_law_694 rfl dL_law_695 rfl ?_
  refine lp_callM (st := [.int v]) [.int (xs (i + 1))] K (fun _ => rfl) (m9_ask l ((xs (i + 1)))) e2 rfl cal_RL_80 rfl rfl ⟨rfl, rfl⟩ ⟨Nat.le_of_ble_eq_true rfl, Nat.le_of_ble_eq_true rfl⟩ (Nat.le_of_ble_eq_true rfl) hCS dL_law_696 rfl ?_
  exact lp_eq K dL_law_699 (by decide) (kk _ _ w h100)
theorem lc_13 (K : LC p l s m meth c b L xs D cs) (hi : i + 6 ≤ L) (hCS : C ≤ 601024 ∧ S ≤ 7293034) (hB : B + 40 < 2 ^ 29) (h : WW B hx hm) (kk : ∀ hx' hm', WW (B + 40) hx' hm' → ix (hx'.1 100 0) = ix (hx.1 100 0) → LPt p l e s m below meth c b D cs xl i 1522 [] hx' hm' ov C S) : LPt p l e s m below meth c b D cs xl i 704 [] hx hm ov C S := by
  obtain ⟨v, hx', hm', e1, e2, w⟩ := h.serve hB
  replace w := w.mono (show _ ≤ B + 40 by omega)
  refine lp_al1 K dL_law_704 rfl ?_
  refine lp_callX (st := []) [] K (fun _ => rfl) (m8_serve l) e1 rfl cal_RL_81 rfl rfl ⟨rfl, rfl⟩ ⟨Nat.le_of_ble_eq_true rfl, Nat.le_of_ble_eq_true rfl⟩ (Nat.le_of_ble_eq_true rfl) hCS dL_law_705 rfl (fun h100 => ?_)
  refine lp_al2 K dL_law_708 rfl ?_
  refine lp_callM (st := [.int v]) [] K (fun _ => rfl) (m9_serve l) e2 rfl cal_RL_84 rfl rfl ⟨rfl, rfl⟩ ⟨Nat.le_of_ble_eq_true rfl, Nat.le_of_ble_eq_true rfl⟩ (Nat.le_of_ble_eq_true rfl) hCS dL_law_709 rfl ?_
  exact lp_eq K dL_law_712 (by decide) (kk _ _ w h100)
theorem lc_14 (K : LC p l s m meth c b L xs D cs) (hi : i + 6 ≤ L) (hCS : C ≤ 601024 ∧ S ≤ 7293034) (hB : B + 40 < 2 ^ 29) (h : WW B hx hm) (kk : ∀ hx' hm', WW (B + 40) hx' hm' → ix (hx'.1 100 0) = ix (hx.1 100 0) → LPt p l e s m below meth c b D cs xl i 1522 [] hx' hm' ov C S) : LPt p l e s m below meth c b D cs xl i 717 [] hx hm ov C S := by
  obtain ⟨v, hx', hm', e1, e2, w⟩ := h.write hB ((xs (i + 1))) ((xs (i + 2)))
  replace w := w.mono (show _ ≤ B + 40 by omega)
  refine lp_al1 K dL_law_717 rfl ?_
  refine lp_scr K hi (j := 1) (by decide) (by decide) dL_law_718 rfl dL_law_719 rfl dL_law_721 rfl dL_law_722 rfl dL_law_723 rfl ?_
  refine lp_scr K hi (j := 2) (by decide) (by decide) dL_law_724 rfl dL_law_725 rfl dL_law_727 rfl dL_law_728 rfl dL_law_729 rfl ?_
  refine lp_callX (st := []) [.int (xs (i + 1)), .int (xs (i + 2))] K (fun _ => rfl) (m8_write l ((xs (i + 1))) ((xs (i + 2)))) e1 rfl cal_RL_85 rfl rfl ⟨rfl, rfl⟩ ⟨Nat.le_of_ble_eq_true rfl, Nat.le_of_ble_eq_true rfl⟩ (Nat.le_of_ble_eq_true rfl) hCS dL_law_730 rfl (fun h100 => ?_)
  refine lp_al2 K dL_law_733 rfl ?_
  refine lp_scr K hi (j := 1) (by decide) (by decide) dL_law_734 rfl dL_law_735 rfl dL_law_737 rfl dL_law_738 rfl dL_law_739 rfl ?_
  refine lp_scr K hi (j := 2) (by decide) (by decide) dL_law_740 rfl dL_law_741 rfl dL_law_743 rfl dL_law_744 rfl dL_law_745 rfl ?_
  refine lp_callM (st := [.int v]) [.int (xs (i + 1)), .int (xs (i + 2))] K (fun _ => rfl) (m9_write l ((xs (i + 1))) ((xs (i + 2)))) e2 rfl cal_RL_88 rfl rfl ⟨rfl, rfl⟩ ⟨Nat.le_of_ble_eq_true rfl, Nat.le_of_ble_eq_true rfl⟩ (Nat.le_of_ble_eq_true rfl) hCS dL_law_746 rfl ?_
  exact lp_eq K dL_law_749 (by decide) (kk _ _ w h100)
theorem lc_15 (K : LC p l s m meth c b L xs D cs) (hi : i + 6 ≤ L) (hCS : C ≤ 601024 ∧ S ≤ 7293034) (hB : B + 40 < 2 ^ 29) (h : WW B hx hm) (kk : ∀ hx' hm', WW (B + 40) hx' hm' → ix (hx'.1 100 0) = ix (hx.1 100 0) → LPt p l e s m below meth c b D cs xl i 1522 [] hx' hm' ov C S) : LPt p l e s m below meth c b D cs xl i 754 [] hx hm ov C S := by
  obtain ⟨v, hx', hm', e1, e2, w⟩ := h.drop hB ((xs (i + 1)))
  replace w := w.mono (show _ ≤ B + 40 by omega)
  refine lp_al1 K dL_law_754 rfl ?_
  refine lp_scr K hi (j := 1) (by decide) (by decide) dL_law_755 rfl dL_law_756 rfl dL_law_758 rfl dL_law_759 rfl dL_law_760 rfl ?_
  refine lp_callX (st := []) [.int (xs (i + 1))] K (fun _ => rfl) (m8_drop l ((xs (i + 1)))) e1 rfl cal_RL_89 rfl rfl ⟨rfl, rfl⟩ ⟨Nat.le_of_ble_eq_true rfl, Nat.le_of_ble_eq_true rfl⟩ (Nat.le_of_ble_eq_true rfl) hCS dL_law_761 rfl (fun h100 => ?_)
  refine lp_al2 K dL_law_764 rfl ?_
  refine lp_scr K hi (j := 1) (by decide) (by decide) dL_law_765 rfl dL_law_766 rfl dL_law_768 rfl dL_law_769 rfl dL_law_770 rfl ?_
  refine lp_callM (st := [.int v]) [.int (xs (i + 1))] K (fun _ => rfl) (m9_drop l ((xs (i + 1)))) e2 rfl cal_RL_92 rfl rfl ⟨rfl, rfl⟩ ⟨Nat.le_of_ble_eq_true rfl, Nat.le_of_ble_eq_true rfl⟩ (Nat.le_of_ble_eq_true rfl) hCS dL_law_771 rfl ?_
  exact lp_eq K dL_law_774 (by decide) (kk _ _ w h100)
theorem lc_16 (K : LC p l s m meth c b L xs D cs) (hi : i + 6 ≤ L) (hCS : C ≤ 601024 ∧ S ≤ 7293034) (hB : B + 40 < 2 ^ 29) (h : WW B hx hm) (kk : ∀ hx' hm', WW (B + 40) hx' hm' → ix (hx'.1 100 0) = ix (hx.1 100 0) → LPt p l e s m below meth c b D cs xl i 1522 [] hx' hm' ov C S) : LPt p l e s m below meth c b D cs xl i 779 [] hx hm ov C S := by
  obtain ⟨v, hx', hm', e1, e2, w⟩ := h.mount hB ((xs (i + 1)))
  replace w := w.mono (show _ ≤ B + 40 by omega)
  refine lp_al1 K dL_law_779 rfl ?_
  refine lp_scr K hi (j := 1) (by decide) (by decide) dL_law_780 rfl dL_law_781 rfl dL_law_783 rfl dL_law_784 rfl dL_law_785 rfl ?_
  refine lp_callX (st := []) [.int (xs (i + 1))] K (fun _ => rfl) (m8_mount l ((xs (i + 1)))) e1 rfl cal_RL_93 rfl rfl ⟨rfl, rfl⟩ ⟨Nat.le_of_ble_eq_true rfl, Nat.le_of_ble_eq_true rfl⟩ (Nat.le_of_ble_eq_true rfl) hCS dL_law_786 rfl (fun h100 => ?_)
  refine lp_al2 K dL_law_789 rfl ?_
  refine lp_scr K hi (j := 1) (by decide) (by decide) dL_law_790 rfl dL_law_791 rfl dL_law_793 rfl dL_law_794 rfl dL_law_795 rfl ?_
  refine lp_callM (st := [.int v]) [.int (xs (i + 1))] K (fun _ => rfl) (m9_mount l ((xs (i + 1)))) e2 rfl cal_RL_96 rfl rfl ⟨rfl, rfl⟩ ⟨Nat.le_of_ble_eq_true rfl, Nat.le_of_ble_eq_true rfl⟩ (Nat.le_of_ble_eq_true rfl) hCS dL_law_796 rfl ?_
  exact lp_eq K dL_law_799 (by decide) (kk _ _ w h100)
theorem lc_17 (K : LC p l s m meth c b L xs D cs) (hi : i + 6 ≤ L) (hCS : C ≤ 601024 ∧ S ≤ 7293034) (hB : B + 40 < 2 ^ 29) (h : WW B hx hm) (kk : ∀ hx' hm', WW (B + 40) hx' hm' → ix (hx'.1 100 0) = ix (hx.1 100 0) → LPt p l e s m below meth c b D cs xl i 1522 [] hx' hm' ov C S) : LPt p l e s m below meth c b D cs xl i 804 [] hx hm ov C S := by
  obtain ⟨v, hx', hm', e1, e2, w⟩ := h.unmount hB ((xs (i + 1)))
  replace w := w.mono (show _ ≤ B + 40 by omega)
  refine lp_al1 K dL_law_804 rfl ?_
  refine lp_scr K hi (j := 1) (by decide) (by decide) dL_law_805 rfl dL_law_806 rfl dL_law_808 rfl dL_law_809 rfl dL_law_810 rfl ?_
  refine lp_callX (st := []) [.int (xs (i + 1))] K (fun _ => rfl) (m8_unmount l ((xs (i + 1)))) e1 rfl cal_RL_97 rfl rfl ⟨rfl, rfl⟩ ⟨Nat.le_of_ble_eq_true rfl, Nat.le_of_ble_eq_true rfl⟩ (Nat.le_of_ble_eq_true rfl) hCS dL_law_811 rfl (fun h100 => ?_)
  refine lp_al2 K dL_law_814 rfl ?_
  refine lp_scr K hi (j := 1) (by decide) (by decide) dL_law_815 rfl dL_law_816 rfl dL_law_818 rfl dL_law_819 rfl dL_law_820 rfl ?_
  refine lp_callM (st := [.int v]) [.int (xs (i + 1))] K (fun _ => rfl) (m9_unmount l ((xs (i + 1)))) e2 rfl cal_RL_100 rfl rfl ⟨rfl, rfl⟩ ⟨Nat.le_of_ble_eq_true rfl, Nat.le_of_ble_eq_true rfl⟩ (Nat.le_of_ble_eq_true rfl) hCS dL_law_821 rfl ?_
  exact lp_eq K dL_law_824 (by decide) (kk _ _ w h100)
theorem lc_18 (K : LC p l s m meth c b L xs D cs) (hi : i + 6 ≤ L) (hCS : C ≤ 601024 ∧ S ≤ 7293034) (hB : B + 40 < 2 ^ 29) (h : WW B hx hm) (kk : ∀ hx' hm', WW (B + 40) hx' hm' → ix (hx'.1 100 0) = ix (hx.1 100 0) → LPt p l e s m below meth c b D cs xl i 1522 [] hx' hm' ov C S) : LPt p l e s m below meth c b D cs xl i 829 [] hx hm ov C S := by
  obtain ⟨v, hx', hm', e1, e2, w⟩ := h.copy hB ((xs (i + 1))) ((xs (i + 2)))
  replace w := w.mono (show _ ≤ B + 40 by omega)
  refine lp_al1 K dL_law_829 rfl ?_
  refine lp_scr K hi (j := 1) (by decide) (by decide) dL_law_830 rfl dL_law_831 rfl dL_law_833 rfl dL_law_834 rfl dL_law_835 rfl ?_
  refine lp_scr K hi (j := 2) (by decide) (by decide) dL_law_836 rfl dL_law_837 rfl dL_law_839 rfl dL_law_840 rfl dL_law_841 rfl ?_
  refine lp_callX (st := []) [.int (xs (i + 1)), .int (xs (i + 2))] K (fun _ => rfl) (m8_copy l ((xs (i + 1))) ((xs (i + 2)))) e1 rfl cal_RL_101 rfl rfl ⟨rfl, rfl⟩ ⟨Nat.le_of_ble_eq_true rfl, Nat.le_of_ble_eq_true rfl⟩ (Nat.le_of_ble_eq_true rfl) hCS dL_law_842 rfl (fun h100 => ?_)
  refine lp_al2 K dL_law_845 rfl ?_
  refine lp_scr K hi (j := 1) (by decide) (by decide) dL_law_846 rfl dL_law_847 rfl dL_law_849 rfl dL_law_850 rfl dL_law_851 rfl ?_
  refine lp_scr K hi (j := 2) (by decide) (by decide) dL_law_852 rfl dL_law_853 rfl dL_law_855 rfl dL_law_856 rfl dL_law_857 rfl ?_
  refine lp_callM (st := [.int v]) [.int (xs (i + 1)), .int (xs (i + 2))] K (fun _ => rfl) (m9_copy l ((xs (i + 1))) ((xs (i + 2)))) e2 rfl cal_RL_104 rfl rfl ⟨rfl, rfl⟩ ⟨Nat.le_of_ble_eq_true rfl, Nat.le_of_ble_eq_true rfl⟩ (Nat.le_of_ble_eq_true rfl) hCS dL_law_858 rfl ?_
  exact lp_eq K dL_law_861 (by decide) (kk _ _ w h100)
theorem lc_19 (K : LC p l s m meth c b L xs D cs) (hi : i + 6 ≤ L) (hCS : C ≤ 601024 ∧ S ≤ 7293034) (hB : B + 40 < 2 ^ 29) (h : WW B hx hm) (kk : ∀ hx' hm', WW (B + 40) hx' hm' → ix (hx'.1 100 0) = ix (hx.1 100 0) → LPt p l e s m below meth c b D cs xl i 1522 [] hx' hm' ov C S) : LPt p l e s m below meth c b D cs xl i 866 [] hx hm ov C S := by
  obtain ⟨v, hx', hm', e1, e2, w⟩ := h.lose hB
  replace w := w.mono (show _ ≤ B + 40 by omega)
  refine lp_al1 K dL_law_866 rfl ?_
  refine lp_callX (st := []) [] K (fun _ => rfl) (m8_lose l) e1 rfl cal_RL_105 rfl rfl ⟨rfl, rfl⟩ ⟨Nat.le_of_ble_eq_true rfl, Nat.le_of_ble_eq_true rfl⟩ (Nat.le_of_ble_eq_true rfl) hCS dL_law_867 rfl (fun h100 => ?_)
  refine lp_al2 K dL_law_870 rfl ?_
  refine lp_callM (st := [.int v]) [] K (fun _ => rfl) (m9_lose l) e2 rfl cal_RL_108 rfl rfl ⟨rfl, rfl⟩ ⟨Nat.le_of_ble_eq_true rfl, Nat.le_of_ble_eq_true rfl⟩ (Nat.le_of_ble_eq_true rfl) hCS dL_law_871 rfl ?_
  exact lp_eq K dL_law_874 (by decide) (kk _ _ w h100)
theorem lc_20 (K : LC p l s m meth c b L xs D cs) (hi : i + 6 ≤ L) (hCS : C ≤ 601024 ∧ S ≤ 7293034) (hB : B + 40 < 2 ^ 29) (h : WW B hx hm) (kk : ∀ hx' hm', WW (B + 40) hx' hm' → ix (hx'.1 100 0) = ix (hx.1 100 0) → LPt p l e s m below meth c b D cs xl i 1522 [] hx' hm' ov C S) : LPt p l e s m below meth c b D cs xl i 879 [] hx hm ov C S := by
  obtain ⟨v, hx', hm', e1, e2, w⟩ := h.scan hB ((xs (i + 1)))
  replace w := w.mono (show _ ≤ B + 40 by omega)
  refine lp_al1 K dL_law_879 rfl ?_
  refine lp_scr K hi (j := 1) (by decide) (by decide) dL_law_880 rfl dL_law_881 rfl dL_law_883 rfl dL_law_884 rfl dL_law_885 rfl ?_
  refine lp_callX (st := []) [.int (xs (i + 1))] K (fun _ => rfl) (m8_scan l ((xs (i + 1)))) e1 rfl cal_RL_109 rfl rfl ⟨rfl, rfl⟩ ⟨Nat.le_of_ble_eq_true rfl, Nat.le_of_ble_eq_true rfl⟩ (Nat.le_of_ble_eq_true rfl) hCS dL_law_886 rfl (fun h100 => ?_)
  refine lp_al2 K dL_law_889 rfl ?_
  refine lp_scr K hi (j := 1) (by decide) (by decide) dL_law_890 rfl dL_law_891 rfl dL_law_893 rfl dL_law_894 rfl dL_law_895 rfl ?_
  refine lp_callM (st := [.int v]) [.int (xs (i + 1))] K (fun _ => rfl) (m9_scan l ((xs (i + 1)))) e2 rfl cal_RL_112 rfl rfl ⟨rfl, rfl⟩ ⟨Nat.le_of_ble_eq_true rfl, Nat.le_of_ble_eq_true rfl⟩ (Nat.le_of_ble_eq_true rfl) hCS dL_law_896 rfl ?_
  exact lp_eq K dL_law_899 (by decide) (kk _ _ w h100)
theorem lc_21 (K : LC p l s m meth c b L xs D cs) (hi : i + 6 ≤ L) (hCS : C ≤ 601024 ∧ S ≤ 7293034) (hB : B + 40 < 2 ^ 29) (h : WW B hx hm) (kk : ∀ hx' hm', WW (B + 40) hx' hm' → ix (hx'.1 100 0) = ix (hx.1 100 0) → LPt p l e s m below meth c b D cs xl i 1522 [] hx' hm' ov C S) : LPt p l e s m below meth c b D cs xl i 904 [] hx hm ov C S := by
  obtain ⟨v, hx', hm', e1, e2, w⟩ := h.pause hB ((xs (i + 1)))
  replace w := w.mono (show _ ≤ B + 40 by omega)
  refine lp_al1 K dL_law_904 rfl ?_
  refine lp_scr K hi (j := 1) (by decide) (by decide) dL_law_905 rfl dL_law_906 rfl dL_law_908 rfl dL_law_909 rfl dL_law_910 rfl ?_
  refine lp_callX (st := []) [.int (xs (i + 1))] K (fun _ => rfl) (m8_pause l ((xs (i + 1)))) e1 rfl cal_RL_113 rfl rfl ⟨rfl, rfl⟩ ⟨Nat.le_of_ble_eq_true rfl, Nat.le_of_ble_eq_true rfl⟩ (Nat.le_of_ble_eq_true rfl) hCS dL_law_911 rfl (fun h100 => ?_)
  refine lp_al2 K dL_law_914 rfl ?_
  refine lp_scr K hi (j := 1) (by decide) (by decide) dL_law_915 rfl dL_law_916 rfl dL_law_918 rfl dL_law_919 rfl dL_law_920 rfl ?_
  refine lp_callM (st := [.int v]) [.int (xs (i + 1))] K (fun _ => rfl) (m9_pause l ((xs (i + 1)))) e2 rfl cal_RL_116 rfl rfl ⟨rfl, rfl⟩ ⟨Nat.le_of_ble_eq_true rfl, Nat.le_of_ble_eq_true rfl⟩ (Nat.le_of_ble_eq_true rfl) hCS dL_law_921 rfl ?_
  exact lp_eq K dL_law_924 (by decide) (kk _ _ w h100)
theorem lc_22 (K : LC p l s m meth c b L xs D cs) (hi : i + 6 ≤ L) (hCS : C ≤ 601024 ∧ S ≤ 7293034) (hB : B + 40 < 2 ^ 29) (h : WW B hx hm) (kk : ∀ hx' hm', WW (B + 40) hx' hm' → ix (hx'.1 100 0) = ix (hx.1 100 0) → LPt p l e s m below meth c b D cs xl i 1522 [] hx' hm' ov C S) : LPt p l e s m below meth c b D cs xl i 929 [] hx hm ov C S := by
  obtain ⟨v, hx', hm', e1, e2, w⟩ := h.rescue hB
  replace w := w.mono (show _ ≤ B + 40 by omega)
  refine lp_al1 K dL_law_929 rfl ?_
  refine lp_callX (st := []) [] K (fun _ => rfl) (m8_rescue l) e1 rfl cal_RL_117 rfl rfl ⟨rfl, rfl⟩ ⟨Nat.le_of_ble_eq_true rfl, Nat.le_of_ble_eq_true rfl⟩ (Nat.le_of_ble_eq_true rfl) hCS dL_law_930 rfl (fun h100 => ?_)
  refine lp_al2 K dL_law_933 rfl ?_
  refine lp_callM (st := [.int v]) [] K (fun _ => rfl) (m9_rescue l) e2 rfl cal_RL_120 rfl rfl ⟨rfl, rfl⟩ ⟨Nat.le_of_ble_eq_true rfl, Nat.le_of_ble_eq_true rfl⟩ (Nat.le_of_ble_eq_true rfl) hCS dL_law_934 rfl ?_
  exact lp_eq K dL_law_937 (by decide) (kk _ _ w h100)
theorem lc_23 (K : LC p l s m meth c b L xs D cs) (hi : i + 6 ≤ L) (hCS : C ≤ 601024 ∧ S ≤ 7293034) (hB : B + 40 < 2 ^ 29) (h : WW B hx hm) (kk : ∀ hx' hm', WW (B + 40) hx' hm' → ix (hx'.1 100 0) = ix (hx.1 100 0) → LPt p l e s m below meth c b D cs xl i 1522 [] hx' hm' ov C S) : LPt p l e s m below meth c b D cs xl i 942 [] hx hm ov C S := by
  obtain ⟨v, hx', hm', e1, e2, w⟩ := h.years hB ((xs (i + 1))) ((((xs (i + 2)).toInt64 <<< ((32 : Int32).toInt64 &&& 63)) ||| ((xs (i + 3)).toInt64 &&& 4294967295)))
  replace w := w.mono (show _ ≤ B + 40 by omega)
  refine lp_al1 K dL_law_942 rfl ?_
  refine lp_scr K hi (j := 1) (by decide) (by decide) dL_law_943 rfl dL_law_944 rfl dL_law_946 rfl dL_law_947 rfl dL_law_948 rfl ?_
  refine lp_scr K hi (j := 2) (by decide) (by decide) dL_law_949 rfl dL_law_950 rfl dL_law_952 rfl dL_law_953 rfl dL_law_954 rfl ?_
  refine lp_i2l K dL_law_955 rfl ?_
  refine lp_bipush K (v := 32) (by decide) dL_law_956 rfl ?_
  refine lp_lshl K dL_law_958 rfl ?_
  refine lp_scr K hi (j := 3) (by decide) (by decide) dL_law_959 rfl dL_law_960 rfl dL_law_962 rfl dL_law_963 rfl dL_law_964 rfl ?_
  refine lp_i2l K dL_law_965 rfl ?_
  refine lp_ldc2 K (v := 4294967295) (qTT_in 1949 (by decide +kernel) rfl) dL_law_966 rfl ?_
  refine lp_land K dL_law_969 rfl ?_
  refine lp_lor K dL_law_970 rfl ?_
  refine lp_callX (st := []) [.int (xs (i + 1)), .long (((xs (i + 2)).toInt64 <<< ((32 : Int32).toInt64 &&& 63)) ||| ((xs (i + 3)).toInt64 &&& 4294967295))] K (fun _ => rfl) (m8_years l ((xs (i + 1))) ((((xs (i + 2)).toInt64 <<< ((32 : Int32).toInt64 &&& 63)) ||| ((xs (i + 3)).toInt64 &&& 4294967295)))) e1 rfl cal_RL_123 rfl rfl ⟨rfl, rfl⟩ ⟨Nat.le_of_ble_eq_true rfl, Nat.le_of_ble_eq_true rfl⟩ (Nat.le_of_ble_eq_true rfl) hCS dL_law_971 rfl (fun h100 => ?_)
  refine lp_al2 K dL_law_974 rfl ?_
  refine lp_scr K hi (j := 1) (by decide) (by decide) dL_law_975 rfl dL_law_976 rfl dL_law_978 rfl dL_law_979 rfl dL_law_980 rfl ?_
  refine lp_scr K hi (j := 2) (by decide) (by decide) dL_law_981 rfl dL_law_982 rfl dL_law_984 rfl dL_law_985 rfl dL_law_986 rfl ?_
  refine lp_i2l K dL_law_987 rfl ?_
  refine lp_bipush K (v := 32) (by decide) dL_law_988 rfl ?_
  refine lp_lshl K dL_law_990 rfl ?_
  refine lp_scr K hi (j := 3) (by decide) (by decide) dL_law_991 rfl dL_law_992 rfl dL_law_994 rfl dL_law_995 rfl dL_law_996 rfl ?_
  refine lp_i2l K dL_law_997 rfl ?_
  refine lp_ldc2 K (v := 4294967295) (qTT_in 1949 (by decide +kernel) rfl) dL_law_998 rfl ?_
  refine lp_land K dL_law_1001 rfl ?_
  refine lp_lor K dL_law_1002 rfl ?_
  refine lp_callM (st := [.int v]) [.int (xs (i + 1)), .long (((xs (i + 2)).toInt64 <<< ((32 : Int32).toInt64 &&& 63)) ||| ((xs (i + 3)).toInt64 &&& 4294967295))] K (fun _ => rfl) (m9_years l ((xs (i + 1))) ((((xs (i + 2)).toInt64 <<< ((32 : Int32).toInt64 &&& 63)) ||| ((xs (i + 3)).toInt64 &&& 4294967295)))) e2 rfl cal_RL_127 rfl rfl ⟨rfl, rfl⟩ ⟨Nat.le_of_ble_eq_true rfl, Nat.le_of_ble_eq_true rfl⟩ (Nat.le_of_ble_eq_true rfl) hCS dL_law_1003 rfl ?_
  exact lp_eq K dL_law_1006 (by decide) (kk _ _ w h100)
theorem lc_24 (K : LC p l s m meth c b L xs D cs) (hi : i + 6 ≤ L) (hCS : C ≤ 601024 ∧ S ≤ 7293034) (hB : B + 40 < 2 ^ 29) (h : WW B hx hm) (kk : ∀ hx' hm', WW (B + 40) hx' hm' → ix (hx'.1 100 0) = ix (hx.1 100 0) → LPt p l e s m below meth c b D cs xl i 1522 [] hx' hm' ov C S) : LPt p l e s m below meth c b D cs xl i 1011 [] hx hm ov C S := by
  obtain ⟨v, e1, e2⟩ := h.status ((xs (i + 1)))
  have w := h.mono (show B ≤ B + 40 by omega)
  refine lp_al1 K dL_law_1011 rfl ?_
  refine lp_scr K hi (j := 1) (by decide) (by decide) dL_law_1012 rfl dL_law_1013 rfl dL_law_1015 rfl dL_law_1016 rfl dL_law_1017 rfl ?_
  refine lp_callX (st := []) [.int (xs (i + 1))] K (fun _ => rfl) (m8_status l ((xs (i + 1)))) e1 rfl cal_RL_128 rfl rfl ⟨rfl, rfl⟩ ⟨Nat.le_of_ble_eq_true rfl, Nat.le_of_ble_eq_true rfl⟩ (Nat.le_of_ble_eq_true rfl) hCS dL_law_1018 rfl (fun h100 => ?_)
  refine lp_al2 K dL_law_1021 rfl ?_
  refine lp_scr K hi (j := 1) (by decide) (by decide) dL_law_1022 rfl dL_law_1023 rfl dL_law_1025 rfl dL_law_1026 rfl dL_law_1027 rfl ?_
  refine lp_callM (st := [.int v]) [.int (xs (i + 1))] K (fun _ => rfl) (m9_status l ((xs (i + 1)))) e2 rfl cal_RL_131 rfl rfl ⟨rfl, rfl⟩ ⟨Nat.le_of_ble_eq_true rfl, Nat.le_of_ble_eq_true rfl⟩ (Nat.le_of_ble_eq_true rfl) hCS dL_law_1028 rfl ?_
  exact lp_eq K dL_law_1031 (by decide) (kk _ _ w h100)
theorem lc_25 (K : LC p l s m meth c b L xs D cs) (hi : i + 6 ≤ L) (hCS : C ≤ 601024 ∧ S ≤ 7293034) (hB : B + 40 < 2 ^ 29) (h : WW B hx hm) (kk : ∀ hx' hm', WW (B + 40) hx' hm' → ix (hx'.1 100 0) = ix (hx.1 100 0) → LPt p l e s m below meth c b D cs xl i 1522 [] hx' hm' ov C S) : LPt p l e s m below meth c b D cs xl i 1036 [] hx hm ov C S := by
  obtain ⟨v, hx', hm', e1, e2, w⟩ := h.undo hB
  replace w := w.mono (show _ ≤ B + 40 by omega)
  refine lp_al1 K dL_law_1036 rfl ?_
  refine lp_callX (st := []) [] K (fun _ => rfl) (m8_undo l) e1 rfl cal_RL_132 rfl rfl ⟨rfl, rfl⟩ ⟨Nat.le_of_ble_eq_true rfl, Nat.le_of_ble_eq_true rfl⟩ (Nat.le_of_ble_eq_true rfl) hCS dL_law_1037 rfl (fun h100 => ?_)
  refine lp_al2 K dL_law_1040 rfl ?_
  refine lp_callM (st := [.int v]) [] K (fun _ => rfl) (m9_undo l) e2 rfl cal_RL_135 rfl rfl ⟨rfl, rfl⟩ ⟨Nat.le_of_ble_eq_true rfl, Nat.le_of_ble_eq_true rfl⟩ (Nat.le_of_ble_eq_true rfl) hCS dL_law_1041 rfl ?_
  exact lp_eq K dL_law_1044 (by decide) (kk _ _ w h100)
theorem lc_26 (K : LC p l s m meth c b L xs D cs) (hi : i + 6 ≤ L) (hCS : C ≤ 601024 ∧ S ≤ 7293034) (hB : B + 40 < 2 ^ 29) (h : WW B hx hm) (kk : ∀ hx' hm', WW (B + 40) hx' hm' → ix (hx'.1 100 0) = ix (hx.1 100 0) → LPt p l e s m below meth c b D cs xl i 1522 [] hx' hm' ov C S) : LPt p l e s m below meth c b D cs xl i 1049 [] hx hm ov C S := by
  obtain ⟨v, e1, e2⟩ := h.log hB ((xs (i + 1))) ((xs (i + 2)))
  have w := h.mono (show B ≤ B + 40 by omega)
  refine lp_al1 K dL_law_1049 rfl ?_
  refine lp_scr K hi (j := 1) (by decide) (by decide) dL_law_1050 rfl dL_law_1051 rfl dL_law_1053 rfl dL_law_1054 rfl dL_law_1055 rfl ?_
  refine lp_scr K hi (j := 2) (by decide) (by decide) dL_law_1056 rfl dL_law_1057 rfl dL_law_1059 rfl dL_law_1060 rfl dL_law_1061 rfl ?_
  refine lp_callX (st := []) [.int (xs (i + 1)), .int (xs (i + 2))] K (fun _ => rfl) (m8_log l ((xs (i + 1))) ((xs (i + 2)))) e1 rfl cal_RL_136 rfl rfl ⟨rfl, rfl⟩ ⟨Nat.le_of_ble_eq_true rfl, Nat.le_of_ble_eq_true rfl⟩ (Nat.le_of_ble_eq_true rfl) hCS dL_law_1062 rfl (fun h100 => ?_)
  refine lp_al2 K dL_law_1065 rfl ?_
  refine lp_scr K hi (j := 1) (by decide) (by decide) dL_law_1066 rfl dL_law_1067 rfl dL_law_1069 rfl dL_law_1070 rfl dL_law_1071 rfl ?_
  refine lp_scr K hi (j := 2) (by decide) (by decide) dL_law_1072 rfl dL_law_1073 rfl dL_law_1075 rfl dL_law_1076 rfl dL_law_1077 rfl ?_
  refine lp_callM (st := [.int v]) [.int (xs (i + 1)), .int (xs (i + 2))] K (fun _ => rfl) (m9_log l ((xs (i + 1))) ((xs (i + 2)))) e2 rfl cal_RL_139 rfl rfl ⟨rfl, rfl⟩ ⟨Nat.le_of_ble_eq_true rfl, Nat.le_of_ble_eq_true rfl⟩ (Nat.le_of_ble_eq_true rfl) hCS dL_law_1078 rfl ?_
  exact lp_eq K dL_law_1081 (by decide) (kk _ _ w h100)
theorem lc_27 (K : LC p l s m meth c b L xs D cs) (hi : i + 6 ≤ L) (hCS : C ≤ 601024 ∧ S ≤ 7293034) (hB : B + 40 < 2 ^ 29) (h : WW B hx hm) (kk : ∀ hx' hm', WW (B + 40) hx' hm' → ix (hx'.1 100 0) = ix (hx.1 100 0) → LPt p l e s m below meth c b D cs xl i 1522 [] hx' hm' ov C S) : LPt p l e s m below meth c b D cs xl i 1086 [] hx hm ov C S := by
  obtain ⟨v, hx', hm', e1, e2, w⟩ := h.takes ((xs (i + 1))) ((xs (i + 2)))
  replace w := w.mono (show _ ≤ B + 40 by omega)
  refine lp_al1 K dL_law_1086 rfl ?_
  refine lp_scr K hi (j := 1) (by decide) (by decide) dL_law_1087 rfl dL_law_1088 rfl dL_law_1090 rfl dL_law_1091 rfl dL_law_1092 rfl ?_
  refine lp_scr K hi (j := 2) (by decide) (by decide) dL_law_1093 rfl dL_law_1094 rfl dL_law_1096 rfl dL_law_1097 rfl dL_law_1098 rfl ?_
  refine lp_callX (st := []) [.int (xs (i + 1)), .int (xs (i + 2))] K (fun _ => rfl) (m8_takes l ((xs (i + 1))) ((xs (i + 2)))) e1 rfl cal_RL_140 rfl rfl ⟨rfl, rfl⟩ ⟨Nat.le_of_ble_eq_true rfl, Nat.le_of_ble_eq_true rfl⟩ (Nat.le_of_ble_eq_true rfl) hCS dL_law_1099 rfl (fun h100 => ?_)
  refine lp_al2 K dL_law_1102 rfl ?_
  refine lp_scr K hi (j := 1) (by decide) (by decide) dL_law_1103 rfl dL_law_1104 rfl dL_law_1106 rfl dL_law_1107 rfl dL_law_1108 rfl ?_
  refine lp_scr K hi (j := 2) (by decide) (by decide) dL_law_1109 rfl dL_law_1110 rfl dL_law_1112 rfl dL_law_1113 rfl dL_law_1114 rfl ?_
  refine lp_callM (st := [.int v]) [.int (xs (i + 1)), .int (xs (i + 2))] K (fun _ => rfl) (m9_takes l ((xs (i + 1))) ((xs (i + 2)))) e2 rfl cal_RL_143 rfl rfl ⟨rfl, rfl⟩ ⟨Nat.le_of_ble_eq_true rfl, Nat.le_of_ble_eq_true rfl⟩ (Nat.le_of_ble_eq_true rfl) hCS dL_law_1115 rfl ?_
  exact lp_eq K dL_law_1118 (by decide) (kk _ _ w h100)
theorem lc_29 (K : LC p l s m meth c b L xs D cs) (hi : i + 6 ≤ L) (hCS : C ≤ 601024 ∧ S ≤ 7293034) (hB : B + 40 < 2 ^ 29) (h : WW B hx hm) (kk : ∀ hx' hm', WW (B + 40) hx' hm' → ix (hx'.1 100 0) = ix (hx.1 100 0) → LPt p l e s m below meth c b D cs xl i 1522 [] hx' hm' ov C S) : LPt p l e s m below meth c b D cs xl i 1148 [] hx hm ov C S := by
  obtain ⟨v, hx', hm', e1, e2, w⟩ := h.all ((xs (i + 1)))
  replace w := w.mono (show _ ≤ B + 40 by omega)
  refine lp_al1 K dL_law_1148 rfl ?_
  refine lp_scr K hi (j := 1) (by decide) (by decide) dL_law_1149 rfl dL_law_1150 rfl dL_law_1152 rfl dL_law_1153 rfl dL_law_1154 rfl ?_
  refine lp_callX (st := []) [.int (xs (i + 1))] K (fun _ => rfl) (m8_all l ((xs (i + 1)))) e1 rfl cal_RL_148 rfl rfl ⟨rfl, rfl⟩ ⟨Nat.le_of_ble_eq_true rfl, Nat.le_of_ble_eq_true rfl⟩ (Nat.le_of_ble_eq_true rfl) hCS dL_law_1155 rfl (fun h100 => ?_)
  refine lp_al2 K dL_law_1158 rfl ?_
  refine lp_scr K hi (j := 1) (by decide) (by decide) dL_law_1159 rfl dL_law_1160 rfl dL_law_1162 rfl dL_law_1163 rfl dL_law_1164 rfl ?_
  refine lp_callM (st := [.int v]) [.int (xs (i + 1))] K (fun _ => rfl) (m9_all l ((xs (i + 1)))) e2 rfl cal_RL_151 rfl rfl ⟨rfl, rfl⟩ ⟨Nat.le_of_ble_eq_true rfl, Nat.le_of_ble_eq_true rfl⟩ (Nat.le_of_ble_eq_true rfl) hCS dL_law_1165 rfl ?_
  exact lp_eq K dL_law_1168 (by decide) (kk _ _ w h100)
theorem lc_30 (K : LC p l s m meth c b L xs D cs) (hi : i + 6 ≤ L) (hCS : C ≤ 601024 ∧ S ≤ 7293034) (hB : B + 40 < 2 ^ 29) (h : WW B hx hm) (kk : ∀ hx' hm', WW (B + 40) hx' hm' → ix (hx'.1 100 0) = ix (hx.1 100 0) → LPt p l e s m below meth c b D cs xl i 1522 [] hx' hm' ov C S) : LPt p l e s m below meth c b D cs xl i 1173 [] hx hm ov C S := by
  obtain ⟨v, hx', hm', e1, e2, w⟩ := h.served ((xs (i + 1)))
  replace w := w.mono (show _ ≤ B + 40 by omega)
  refine lp_al1 K dL_law_1173 rfl ?_
  refine lp_scr K hi (j := 1) (by decide) (by decide) dL_law_1174 rfl dL_law_1175 rfl dL_law_1177 rfl dL_law_1178 rfl dL_law_1179 rfl ?_
  refine lp_callX (st := []) [.int (xs (i + 1))] K (fun _ => rfl) (m8_served l ((xs (i + 1)))) e1 rfl cal_RL_152 rfl rfl ⟨rfl, rfl⟩ ⟨Nat.le_of_ble_eq_true rfl, Nat.le_of_ble_eq_true rfl⟩ (Nat.le_of_ble_eq_true rfl) hCS dL_law_1180 rfl (fun h100 => ?_)
  refine lp_al2 K dL_law_1183 rfl ?_
  refine lp_scr K hi (j := 1) (by decide) (by decide) dL_law_1184 rfl dL_law_1185 rfl dL_law_1187 rfl dL_law_1188 rfl dL_law_1189 rfl ?_
  refine lp_callM (st := [.int v]) [.int (xs (i + 1))] K (fun _ => rfl) (m9_served l ((xs (i + 1)))) e2 rfl cal_RL_155 rfl rfl ⟨rfl, rfl⟩ ⟨Nat.le_of_ble_eq_true rfl, Nat.le_of_ble_eq_true rfl⟩ (Nat.le_of_ble_eq_true rfl) hCS dL_law_1190 rfl ?_
  exact lp_eq K dL_law_1193 (by decide) (kk _ _ w h100)
theorem lc_31 (K : LC p l s m meth c b L xs D cs) (hi : i + 6 ≤ L) (hCS : C ≤ 601024 ∧ S ≤ 7293034) (hB : B + 40 < 2 ^ 29) (h : WW B hx hm) (kk : ∀ hx' hm', WW (B + 40) hx' hm' → ix (hx'.1 100 0) = ix (hx.1 100 0) → LPt p l e s m below meth c b D cs xl i 1522 [] hx' hm' ov C S) : LPt p l e s m below meth c b D cs xl i 1198 [] hx hm ov C S := by
  obtain ⟨v, hx', hm', e1, e2, w⟩ := h.soon ((xs (i + 1)))
  replace w := w.mono (show _ ≤ B + 40 by omega)
  refine lp_al1 K dL_law_1198 rfl ?_
  refine lp_scr K hi (j := 1) (by decide) (by decide) dL_law_1199 rfl dL_law_1200 rfl dL_law_1202 rfl dL_law_1203 rfl dL_law_1204 rfl ?_
  refine lp_callX (st := []) [.int (xs (i + 1))] K (fun _ => rfl) (m8_soon l ((xs (i + 1)))) e1 rfl cal_RL_156 rfl rfl ⟨rfl, rfl⟩ ⟨Nat.le_of_ble_eq_true rfl, Nat.le_of_ble_eq_true rfl⟩ (Nat.le_of_ble_eq_true rfl) hCS dL_law_1205 rfl (fun h100 => ?_)
  refine lp_al2 K dL_law_1208 rfl ?_
  refine lp_scr K hi (j := 1) (by decide) (by decide) dL_law_1209 rfl dL_law_1210 rfl dL_law_1212 rfl dL_law_1213 rfl dL_law_1214 rfl ?_
  refine lp_callM (st := [.int v]) [.int (xs (i + 1))] K (fun _ => rfl) (m9_soon l ((xs (i + 1)))) e2 rfl cal_RL_159 rfl rfl ⟨rfl, rfl⟩ ⟨Nat.le_of_ble_eq_true rfl, Nat.le_of_ble_eq_true rfl⟩ (Nat.le_of_ble_eq_true rfl) hCS dL_law_1215 rfl ?_
  exact lp_eq K dL_law_1218 (by decide) (kk _ _ w h100)
theorem lc_32 (K : LC p l s m meth c b L xs D cs) (hi : i + 6 ≤ L) (hCS : C ≤ 601024 ∧ S ≤ 7293034) (hB : B + 40 < 2 ^ 29) (h : WW B hx hm) (kk : ∀ hx' hm', WW (B + 40) hx' hm' → ix (hx'.1 100 0) = ix (hx.1 100 0) → LPt p l e s m below meth c b D cs xl i 1522 [] hx' hm' ov C S) : LPt p l e s m below meth c b D cs xl i 1223 [] hx hm ov C S := by
  obtain ⟨v, e1, e2⟩ := h.target ((xs (i + 1)))
  have w := h.mono (show B ≤ B + 40 by omega)
  refine lp_al1 K dL_law_1223 rfl ?_
  refine lp_scr K hi (j := 1) (by decide) (by decide) dL_law_1224 rfl dL_law_1225 rfl dL_law_1227 rfl dL_law_1228 rfl dL_law_1229 rfl ?_
  refine lp_callX (st := []) [.int (xs (i + 1))] K (fun _ => rfl) (m8_target l ((xs (i + 1)))) e1 rfl cal_RL_160 rfl rfl ⟨rfl, rfl⟩ ⟨Nat.le_of_ble_eq_true rfl, Nat.le_of_ble_eq_true rfl⟩ (Nat.le_of_ble_eq_true rfl) hCS dL_law_1230 rfl (fun h100 => ?_)
  refine lp_al2 K dL_law_1233 rfl ?_
  refine lp_scr K hi (j := 1) (by decide) (by decide) dL_law_1234 rfl dL_law_1235 rfl dL_law_1237 rfl dL_law_1238 rfl dL_law_1239 rfl ?_
  refine lp_callM (st := [.int v]) [.int (xs (i + 1))] K (fun _ => rfl) (m9_target l ((xs (i + 1)))) e2 rfl cal_RL_163 rfl rfl ⟨rfl, rfl⟩ ⟨Nat.le_of_ble_eq_true rfl, Nat.le_of_ble_eq_true rfl⟩ (Nat.le_of_ble_eq_true rfl) hCS dL_law_1240 rfl ?_
  exact lp_eq K dL_law_1243 (by decide) (kk _ _ w h100)
theorem lc_33 (K : LC p l s m meth c b L xs D cs) (hi : i + 6 ≤ L) (hCS : C ≤ 601024 ∧ S ≤ 7293034) (hB : B + 40 < 2 ^ 29) (h : WW B hx hm) (kk : ∀ hx' hm', WW (B + 40) hx' hm' → ix (hx'.1 100 0) = ix (hx.1 100 0) → LPt p l e s m below meth c b D cs xl i 1522 [] hx' hm' ov C S) : LPt p l e s m below meth c b D cs xl i 1248 [] hx hm ov C S := by
  obtain ⟨v, hx', hm', e1, e2, w⟩ := h.cheap ((xs (i + 1)))
  replace w := w.mono (show _ ≤ B + 40 by omega)
  refine lp_al1 K dL_law_1248 rfl ?_
  refine lp_scr K hi (j := 1) (by decide) (by decide) dL_law_1249 rfl dL_law_1250 rfl dL_law_1252 rfl dL_law_1253 rfl dL_law_1254 rfl ?_
  refine lp_callX (st := []) [.int (xs (i + 1))] K (fun _ => rfl) (m8_cheap l ((xs (i + 1)))) e1 rfl cal_RL_164 rfl rfl ⟨rfl, rfl⟩ ⟨Nat.le_of_ble_eq_true rfl, Nat.le_of_ble_eq_true rfl⟩ (Nat.le_of_ble_eq_true rfl) hCS dL_law_1255 rfl (fun h100 => ?_)
  refine lp_al2 K dL_law_1258 rfl ?_
  refine lp_scr K hi (j := 1) (by decide) (by decide) dL_law_1259 rfl dL_law_1260 rfl dL_law_1262 rfl dL_law_1263 rfl dL_law_1264 rfl ?_
  refine lp_callM (st := [.int v]) [.int (xs (i + 1))] K (fun _ => rfl) (m9_cheap l ((xs (i + 1)))) e2 rfl cal_RL_167 rfl rfl ⟨rfl, rfl⟩ ⟨Nat.le_of_ble_eq_true rfl, Nat.le_of_ble_eq_true rfl⟩ (Nat.le_of_ble_eq_true rfl) hCS dL_law_1265 rfl ?_
  exact lp_eq K dL_law_1268 (by decide) (kk _ _ w h100)
theorem lc_34 (K : LC p l s m meth c b L xs D cs) (hi : i + 6 ≤ L) (hCS : C ≤ 601024 ∧ S ≤ 7293034) (hB : B + 40 < 2 ^ 29) (h : WW B hx hm) (kk : ∀ hx' hm', WW (B + 40) hx' hm' → ix (hx'.1 100 0) = ix (hx.1 100 0) → LPt p l e s m below meth c b D cs xl i 1522 [] hx' hm' ov C S) : LPt p l e s m below meth c b D cs xl i 1273 [] hx hm ov C S := by
  obtain ⟨v, e1, e2⟩ := h.idle ((xs (i + 1)))
  have w := h.mono (show B ≤ B + 40 by omega)
  refine lp_al1 K dL_law_1273 rfl ?_
  refine lp_scr K hi (j := 1) (by decide) (by decide) dL_law_1274 rfl dL_law_1275 rfl dL_law_1277 rfl dL_law_1278 rfl dL_law_1279 rfl ?_
  refine lp_callX (st := []) [.int (xs (i + 1))] K (fun _ => rfl) (m8_idle l ((xs (i + 1)))) e1 rfl cal_RL_168 rfl rfl ⟨rfl, rfl⟩ ⟨Nat.le_of_ble_eq_true rfl, Nat.le_of_ble_eq_true rfl⟩ (Nat.le_of_ble_eq_true rfl) hCS dL_law_1280 rfl (fun h100 => ?_)
  refine lp_al2 K dL_law_1283 rfl ?_
  refine lp_scr K hi (j := 1) (by decide) (by decide) dL_law_1284 rfl dL_law_1285 rfl dL_law_1287 rfl dL_law_1288 rfl dL_law_1289 rfl ?_
  refine lp_callM (st := [.int v]) [.int (xs (i + 1))] K (fun _ => rfl) (m9_idle l ((xs (i + 1)))) e2 rfl cal_RL_171 rfl rfl ⟨rfl, rfl⟩ ⟨Nat.le_of_ble_eq_true rfl, Nat.le_of_ble_eq_true rfl⟩ (Nat.le_of_ble_eq_true rfl) hCS dL_law_1290 rfl ?_
  exact lp_eq K dL_law_1293 (by decide) (kk _ _ w h100)
theorem lc_35 (K : LC p l s m meth c b L xs D cs) (hi : i + 6 ≤ L) (hCS : C ≤ 601024 ∧ S ≤ 7293034) (hB : B + 40 < 2 ^ 29) (h : WW B hx hm) (kk : ∀ hx' hm', WW (B + 40) hx' hm' → ix (hx'.1 100 0) = ix (hx.1 100 0) → LPt p l e s m below meth c b D cs xl i 1522 [] hx' hm' ov C S) : LPt p l e s m below meth c b D cs xl i 1298 [] hx hm ov C S := by
  obtain ⟨v, e1, e2⟩ := h.shares ((xs (i + 1))) ((xs (i + 2)))
  have w := h.mono (show B ≤ B + 40 by omega)
  refine lp_al1 K dL_law_1298 rfl ?_
  refine lp_scr K hi (j := 1) (by decide) (by decide) dL_law_1299 rfl dL_law_1300 rfl dL_law_1302 rfl dL_law_1303 rfl dL_law_1304 rfl ?_
  refine lp_scr K hi (j := 2) (by decide) (by decide) dL_law_1305 rfl dL_law_1306 rfl dL_law_1308 rfl dL_law_1309 rfl dL_law_1310 rfl ?_
  refine lp_callX (st := []) [.int (xs (i + 1)), .int (xs (i + 2))] K (fun _ => rfl) (m8_shares l ((xs (i + 1))) ((xs (i + 2)))) e1 rfl cal_RL_172 rfl rfl ⟨rfl, rfl⟩ ⟨Nat.le_of_ble_eq_true rfl, Nat.le_of_ble_eq_true rfl⟩ (Nat.le_of_ble_eq_true rfl) hCS dL_law_1311 rfl (fun h100 => ?_)
  refine lp_al2 K dL_law_1314 rfl ?_
  refine lp_scr K hi (j := 1) (by decide) (by decide) dL_law_1315 rfl dL_law_1316 rfl dL_law_1318 rfl dL_law_1319 rfl dL_law_1320 rfl ?_
  refine lp_scr K hi (j := 2) (by decide) (by decide) dL_law_1321 rfl dL_law_1322 rfl dL_law_1324 rfl dL_law_1325 rfl dL_law_1326 rfl ?_
  refine lp_callM (st := [.int v]) [.int (xs (i + 1)), .int (xs (i + 2))] K (fun _ => rfl) (m9_shares l ((xs (i + 1))) ((xs (i + 2)))) e2 rfl cal_RL_175 rfl rfl ⟨rfl, rfl⟩ ⟨Nat.le_of_ble_eq_true rfl, Nat.le_of_ble_eq_true rfl⟩ (Nat.le_of_ble_eq_true rfl) hCS dL_law_1327 rfl ?_
  exact lp_eq K dL_law_1330 (by decide) (kk _ _ w h100)
theorem lc_36 (K : LC p l s m meth c b L xs D cs) (hi : i + 6 ≤ L) (hCS : C ≤ 601024 ∧ S ≤ 7293034) (hB : B + 40 < 2 ^ 29) (h : WW B hx hm) (kk : ∀ hx' hm', WW (B + 40) hx' hm' → ix (hx'.1 100 0) = ix (hx.1 100 0) → LPt p l e s m below meth c b D cs xl i 1522 [] hx' hm' ov C S) : LPt p l e s m below meth c b D cs xl i 1335 [] hx hm ov C S := by
  obtain ⟨v, e1, e2⟩ := h.step ((xs (i + 1))) ((xs (i + 2))) ((xs (i + 3)))
  have w := h.mono (show B ≤ B + 40 by omega)
  refine lp_al1 K dL_law_1335 rfl ?_
  refine lp_scr K hi (j := 1) (by decide) (by decide) dL_law_1336 rfl dL_law_1337 rfl dL_law_1339 rfl dL_law_1340 rfl dL_law_1341 rfl ?_
  refine lp_scr K hi (j := 2) (by decide) (by decide) dL_law_1342 rfl dL_law_1343 rfl dL_law_1345 rfl dL_law_1346 rfl dL_law_1347 rfl ?_
  refine lp_scr K hi (j := 3) (by decide) (by decide) dL_law_1348 rfl dL_law_1349 rfl dL_law_1351 rfl dL_law_1352 rfl dL_law_1353 rfl ?_
  refine lp_callX (st := []) [.int (xs (i + 1)), .int (xs (i + 2)), .int (xs (i + 3))] K (fun _ => rfl) (m8_step l ((xs (i + 1))) ((xs (i + 2))) ((xs (i + 3)))) e1 rfl cal_RL_176 rfl rfl ⟨rfl, rfl⟩ ⟨Nat.le_of_ble_eq_true rfl, Nat.le_of_ble_eq_true rfl⟩ (Nat.le_of_ble_eq_true rfl) hCS dL_law_1354 rfl (fun h100 => ?_)
  refine lp_al2 K dL_law_1357 rfl ?_
  refine lp_scr K hi (j := 1) (by decide) (by decide) dL_law_1358 rfl dL_law_1359 rfl dL_law_1361 rfl dL_law_1362 rfl dL_law_1363 rfl ?_
  refine lp_scr K hi (j := 2) (by decide) (by decide) dL_law_1364 rfl dL_law_1365 rfl dL_law_1367 rfl dL_law_1368 rfl dL_law_1369 rfl ?_
  refine lp_scr K hi (j := 3) (by decide) (by decide) dL_law_1370 rfl dL_law_1371 rfl dL_law_1373 rfl dL_law_1374 rfl dL_law_1375 rfl ?_
  refine lp_callM (st := [.int v]) [.int (xs (i + 1)), .int (xs (i + 2)), .int (xs (i + 3))] K (fun _ => rfl) (m9_step l ((xs (i + 1))) ((xs (i + 2))) ((xs (i + 3)))) e2 rfl cal_RL_179 rfl rfl ⟨rfl, rfl⟩ ⟨Nat.le_of_ble_eq_true rfl, Nat.le_of_ble_eq_true rfl⟩ (Nat.le_of_ble_eq_true rfl) hCS dL_law_1376 rfl ?_
  exact lp_eq K dL_law_1379 (by decide) (kk _ _ w h100)
theorem lc_37 (K : LC p l s m meth c b L xs D cs) (hi : i + 6 ≤ L) (hCS : C ≤ 601024 ∧ S ≤ 7293034) (hB : B + 40 < 2 ^ 29) (h : WW B hx hm) (kk : ∀ hx' hm', WW (B + 40) hx' hm' → ix (hx'.1 100 0) = ix (hx.1 100 0) → LPt p l e s m below meth c b D cs xl i 1522 [] hx' hm' ov C S) : LPt p l e s m below meth c b D cs xl i 1384 [] hx hm ov C S := by
  obtain ⟨v, hx', hm', e1, e2, w⟩ := h.run hB ((xs (i + 1))) ((xs (i + 2)))
  replace w := w.mono (show _ ≤ B + 40 by omega)
  refine lp_al1 K dL_law_1384 rfl ?_
  refine lp_scr K hi (j := 1) (by decide) (by decide) dL_law_1385 rfl dL_law_1386 rfl dL_law_1388 rfl dL_law_1389 rfl dL_law_1390 rfl ?_
  refine lp_scr K hi (j := 2) (by decide) (by decide) dL_law_1391 rfl dL_law_1392 rfl dL_law_1394 rfl dL_law_1395 rfl dL_law_1396 rfl ?_
  refine lp_callX (st := []) [.int (xs (i + 1)), .int (xs (i + 2))] K (fun _ => rfl) (m8_run l ((xs (i + 1))) ((xs (i + 2)))) e1 rfl cal_RL_180 rfl rfl ⟨rfl, rfl⟩ ⟨Nat.le_of_ble_eq_true rfl, Nat.le_of_ble_eq_true rfl⟩ (Nat.le_of_ble_eq_true rfl) hCS dL_law_1397 rfl (fun h100 => ?_)
  refine lp_al2 K dL_law_1400 rfl ?_
  refine lp_scr K hi (j := 1) (by decide) (by decide) dL_law_1401 rfl dL_law_1402 rfl dL_law_1404 rfl dL_law_1405 rfl dL_law_1406 rfl ?_
  refine lp_scr K hi (j := 2) (by decide) (by decide) dL_law_1407 rfl dL_law_1408 rfl dL_law_1410 rfl dL_law_1411 rfl dL_law_1412 rfl ?_
  refine lp_callM (st := [.int v]) [.int (xs (i + 1)), .int (xs (i + 2))] K (fun _ => rfl) (m9_run l ((xs (i + 1))) ((xs (i + 2)))) e2 rfl cal_RL_183 rfl rfl ⟨rfl, rfl⟩ ⟨Nat.le_of_ble_eq_true rfl, Nat.le_of_ble_eq_true rfl⟩ (Nat.le_of_ble_eq_true rfl) hCS dL_law_1413 rfl ?_
  exact lp_eq K dL_law_1416 (by decide) (kk _ _ w h100)
theorem lc_38 (K : LC p l s m meth c b L xs D cs) (hi : i + 6 ≤ L) (hCS : C ≤ 601024 ∧ S ≤ 7293034) (hB : B + 40 < 2 ^ 29) (h : WW B hx hm) (kk : ∀ hx' hm', WW (B + 40) hx' hm' → ix (hx'.1 100 0) = ix (hx.1 100 0) → LPt p l e s m below meth c b D cs xl i 1522 [] hx' hm' ov C S) : LPt p l e s m below meth c b D cs xl i 1421 [] hx hm ov C S := by
  obtain ⟨v, hx', hm', e1, e2, w⟩ := h.perform hB ((xs (i + 1)))
  replace w := w.mono (show _ ≤ B + 40 by omega)
  refine lp_al1 K dL_law_1421 rfl ?_
  refine lp_scr K hi (j := 1) (by decide) (by decide) dL_law_1422 rfl dL_law_1423 rfl dL_law_1425 rfl dL_law_1426 rfl dL_law_1427 rfl ?_
  refine lp_callX (st := []) [.int (xs (i + 1))] K (fun _ => rfl) (m8_perform l ((xs (i + 1)))) e1 rfl cal_RL_184 rfl rfl ⟨rfl, rfl⟩ ⟨Nat.le_of_ble_eq_true rfl, Nat.le_of_ble_eq_true rfl⟩ (Nat.le_of_ble_eq_true rfl) hCS dL_law_1428 rfl (fun h100 => ?_)
  refine lp_al2 K dL_law_1431 rfl ?_
  refine lp_scr K hi (j := 1) (by decide) (by decide) dL_law_1432 rfl dL_law_1433 rfl dL_law_1435 rfl dL_law_1436 rfl dL_law_1437 rfl ?_
  refine lp_callM (st := [.int v]) [.int (xs (i + 1))] K (fun _ => rfl) (m9_perform l ((xs (i + 1)))) e2 rfl cal_RL_187 rfl rfl ⟨rfl, rfl⟩ ⟨Nat.le_of_ble_eq_true rfl, Nat.le_of_ble_eq_true rfl⟩ (Nat.le_of_ble_eq_true rfl) hCS dL_law_1438 rfl ?_
  exact lp_eq K dL_law_1441 (by decide) (kk _ _ w h100)
theorem lc_39 (K : LC p l s m meth c b L xs D cs) (hi : i + 6 ≤ L) (hCS : C ≤ 601024 ∧ S ≤ 7293034) (hB : B + 40 < 2 ^ 29) (h : WW B hx hm) (kk : ∀ hx' hm', WW (B + 40) hx' hm' → ix (hx'.1 100 0) = ix (hx.1 100 0) → LPt p l e s m below meth c b D cs xl i 1522 [] hx' hm' ov C S) : LPt p l e s m below meth c b D cs xl i 1446 [] hx hm ov C S := by
  obtain ⟨v, e1, e2⟩ := h.most ((xs (i + 1)))
  have w := h.mono (show B ≤ B + 40 by omega)
  refine lp_al1 K dL_law_1446 rfl ?_
  refine lp_scr K hi (j := 1) (by decide) (by decide) dL_law_1447 rfl dL_law_1448 rfl dL_law_1450 rfl dL_law_1451 rfl dL_law_1452 rfl ?_
  refine lp_callX (st := []) [.int (xs (i + 1))] K (fun _ => rfl) (m8_most l ((xs (i + 1)))) e1 rfl cal_RL_188 rfl rfl ⟨rfl, rfl⟩ ⟨Nat.le_of_ble_eq_true rfl, Nat.le_of_ble_eq_true rfl⟩ (Nat.le_of_ble_eq_true rfl) hCS dL_law_1453 rfl (fun h100 => ?_)
  refine lp_al2 K dL_law_1456 rfl ?_
  refine lp_scr K hi (j := 1) (by decide) (by decide) dL_law_1457 rfl dL_law_1458 rfl dL_law_1460 rfl dL_law_1461 rfl dL_law_1462 rfl ?_
  refine lp_callM (st := [.int v]) [.int (xs (i + 1))] K (fun _ => rfl) (m9_most l ((xs (i + 1)))) e2 rfl cal_RL_191 rfl rfl ⟨rfl, rfl⟩ ⟨Nat.le_of_ble_eq_true rfl, Nat.le_of_ble_eq_true rfl⟩ (Nat.le_of_ble_eq_true rfl) hCS dL_law_1463 rfl ?_
  exact lp_eq K dL_law_1466 (by decide) (kk _ _ w h100)
theorem lc_40 (K : LC p l s m meth c b L xs D cs) (hi : i + 6 ≤ L) (hCS : C ≤ 601024 ∧ S ≤ 7293034) (hB : B + 40 < 2 ^ 29) (h : WW B hx hm) (kk : ∀ hx' hm', WW (B + 40) hx' hm' → ix (hx'.1 100 0) = ix (hx.1 100 0) → LPt p l e s m below meth c b D cs xl i 1522 [] hx' hm' ov C S) : LPt p l e s m below meth c b D cs xl i 1471 [] hx hm ov C S := by
  obtain ⟨v, hx', hm', e1, e2, w⟩ := h.image
  replace w := w.mono (show _ ≤ B + 40 by omega)
  refine lp_al1 K dL_law_1471 rfl ?_
  refine lp_callX (st := []) [] K (fun _ => rfl) (m8_image l) e1 rfl cal_RL_192 rfl rfl ⟨rfl, rfl⟩ ⟨Nat.le_of_ble_eq_true rfl, Nat.le_of_ble_eq_true rfl⟩ (Nat.le_of_ble_eq_true rfl) hCS dL_law_1472 rfl (fun h100 => ?_)
  refine lp_al2 K dL_law_1475 rfl ?_
  refine lp_callM (st := [.int v]) [] K (fun _ => rfl) (m9_image l) e2 rfl cal_RL_195 rfl rfl ⟨rfl, rfl⟩ ⟨Nat.le_of_ble_eq_true rfl, Nat.le_of_ble_eq_true rfl⟩ (Nat.le_of_ble_eq_true rfl) hCS dL_law_1476 rfl ?_
  exact lp_eq K dL_law_1479 (by decide) (kk _ _ w h100)
theorem lc_41 (K : LC p l s m meth c b L xs D cs) (hi : i + 6 ≤ L) (hCS : C ≤ 601024 ∧ S ≤ 7293034) (hB : B + 40 < 2 ^ 29) (h : WW B hx hm) (kk : ∀ hx' hm', WW (B + 40) hx' hm' → ix (hx'.1 100 0) = ix (hx.1 100 0) → LPt p l e s m below meth c b D cs xl i 1522 [] hx' hm' ov C S) : LPt p l e s m below meth c b D cs xl i 1484 [] hx hm ov C S := by
  obtain ⟨v, hx', hm', e1, e2, w⟩ := h.back
  replace w := w.mono (show _ ≤ B + 40 by omega)
  refine lp_al1 K dL_law_1484 rfl ?_
  refine lp_callX (st := []) [] K (fun _ => rfl) (m8_back l) e1 rfl cal_RL_196 rfl rfl ⟨rfl, rfl⟩ ⟨Nat.le_of_ble_eq_true rfl, Nat.le_of_ble_eq_true rfl⟩ (Nat.le_of_ble_eq_true rfl) hCS dL_law_1485 rfl (fun h100 => ?_)
  refine lp_al2 K dL_law_1488 rfl ?_
  refine lp_callM (st := [.int v]) [] K (fun _ => rfl) (m9_back l) e2 rfl cal_RL_199 rfl rfl ⟨rfl, rfl⟩ ⟨Nat.le_of_ble_eq_true rfl, Nat.le_of_ble_eq_true rfl⟩ (Nat.le_of_ble_eq_true rfl) hCS dL_law_1489 rfl ?_
  exact lp_eq K dL_law_1492 (by decide) (kk _ _ w h100)
theorem lc_42 (K : LC p l s m meth c b L xs D cs) (hi : i + 6 ≤ L) (hCS : C ≤ 601024 ∧ S ≤ 7293034) (hB : B + 40 < 2 ^ 29) (h : WW B hx hm) (kk : ∀ hx' hm', WW (B + 40) hx' hm' → ix (hx'.1 100 0) = ix (hx.1 100 0) → LPt p l e s m below meth c b D cs xl i 1522 [] hx' hm' ov C S) : LPt p l e s m below meth c b D cs xl i 1497 [] hx hm ov C S := by
  obtain ⟨v, e1, e2⟩ := h.count hB ((xs (i + 1)))
  have w := h.mono (show B ≤ B + 40 by omega)
  refine lp_al1 K dL_law_1497 rfl ?_
  refine lp_scr K hi (j := 1) (by decide) (by decide) dL_law_1498 rfl dL_law_1499 rfl dL_law_1501 rfl dL_law_1502 rfl dL_law_1503 rfl ?_
  refine lp_callX (st := []) [.int (xs (i + 1))] K (fun _ => rfl) (m8_count l ((xs (i + 1)))) e1 rfl cal_RL_200 rfl rfl ⟨rfl, rfl⟩ ⟨Nat.le_of_ble_eq_true rfl, Nat.le_of_ble_eq_true rfl⟩ (Nat.le_of_ble_eq_true rfl) hCS dL_law_1504 rfl (fun h100 => ?_)
  refine lp_al2 K dL_law_1507 rfl ?_
  refine lp_scr K hi (j := 1) (by decide) (by decide) dL_law_1508 rfl dL_law_1509 rfl dL_law_1511 rfl dL_law_1512 rfl dL_law_1513 rfl ?_
  refine lp_callM (st := [.int v]) [.int (xs (i + 1))] K (fun _ => rfl) (m9_count l ((xs (i + 1)))) e2 rfl cal_RL_203 rfl rfl ⟨rfl, rfl⟩ ⟨Nat.le_of_ble_eq_true rfl, Nat.le_of_ble_eq_true rfl⟩ (Nat.le_of_ble_eq_true rfl) hCS dL_law_1514 rfl ?_
  exact lp_eq K dL_law_1517 (by decide) (kk _ _ w h100)
end LB
