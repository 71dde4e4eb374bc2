theorem ml_L_21 : Cond.methodLink RL 21 yX7_feed ∈ zT := zw_of _ 602 (by decide +kernel) (by decide +kernel)
theorem cd_X7_feed : Cond.code yX7_feed cX7_feed 6 (some .int) ∈ zT := zw_of _ 605 (by decide +kernel) (by decide +kernel)
theorem cw_L_21 : zCw RL 21 yX7_feed cX7_feed 6 (some .int) 5 := ⟨ml_L_21, ni_X7, cd_X7_feed, by decide, by decide, by decide +kernel⟩
theorem wi_X7_feed : Cond.instanceMethod yX7_feed ∈ zT := zw_of _ 603 (by decide +kernel) (by decide +kernel)
theorem ws_X7_feed : Cond.selects RX7 yX7_feed yX7_feed ∈ zT := zw_of _ 604 (by decide +kernel) (by decide +kernel)
theorem ml_L_25 : Cond.methodLink RL 25 yX8_feed ∈ zT := zw_of _ 1568 (by decide +kernel) (by decide +kernel)
theorem cd_X8_feed : Cond.code yX8_feed cX8_feed 8 (some .int) ∈ zT := zw_of _ 1571 (by decide +kernel) (by decide +kernel)
theorem cw_L_25 : zCw RL 25 yX8_feed cX8_feed 8 (some .int) 5 := ⟨ml_L_25, ni_X8, cd_X8_feed, by decide, by decide, by decide +kernel⟩
theorem wi_X8_feed : Cond.instanceMethod yX8_feed ∈ zT := zw_of _ 1569 (by decide +kernel) (by decide +kernel)
theorem ws_X8_feed : Cond.selects RX8 yX8_feed yX8_feed ∈ zT := zw_of _ 1570 (by decide +kernel) (by decide +kernel)
theorem ml_L_26 : Cond.methodLink RL 26 yX7_text ∈ zT := zw_of _ 610 (by decide +kernel) (by decide +kernel)
theorem cd_X7_text : Cond.code yX7_text cX7_text 3 (some .int) ∈ zT := zw_of _ 613 (by decide +kernel) (by decide +kernel)
theorem cw_L_26 : zCw RL 26 yX7_text cX7_text 3 (some .int) 1 := ⟨ml_L_26, ni_X7, cd_X7_text, by decide, by decide, by decide +kernel⟩
theorem wi_X7_text : Cond.instanceMethod yX7_text ∈ zT := zw_of _ 611 (by decide +kernel) (by decide +kernel)
theorem ws_X7_text : Cond.selects RX7 yX7_text yX7_text ∈ zT := zw_of _ 612 (by decide +kernel) (by decide +kernel)
theorem ml_L_30 : Cond.methodLink RL 30 yX8_text ∈ zT := zw_of _ 1572 (by decide +kernel) (by decide +kernel)
theorem cd_X8_text : Cond.code yX8_text cX8_text 3 (some .int) ∈ zT := zw_of _ 1575 (by decide +kernel) (by decide +kernel)
theorem cw_L_30 : zCw RL 30 yX8_text cX8_text 3 (some .int) 1 := ⟨ml_L_30, ni_X8, cd_X8_text, by decide, by decide, by decide +kernel⟩
theorem wi_X8_text : Cond.instanceMethod yX8_text ∈ zT := zw_of _ 1573 (by decide +kernel) (by decide +kernel)
theorem ws_X8_text : Cond.selects RX8 yX8_text yX8_text ∈ zT := zw_of _ 1574 (by decide +kernel) (by decide +kernel)
theorem ml_L_31 : Cond.methodLink RL 31 yX7_fault ∈ zT := zw_of _ 801 (by decide +kernel) (by decide +kernel)
theorem cd_X7_fault : Cond.code yX7_fault cX7_fault 2 (some .int) ∈ zT := zw_of _ 804 (by decide +kernel) (by decide +kernel)
theorem cw_L_31 : zCw RL 31 yX7_fault cX7_fault 2 (some .int) 1 := ⟨ml_L_31, ni_X7, cd_X7_fault, by decide, by decide, by decide +kernel⟩
theorem wi_X7_fault : Cond.instanceMethod yX7_fault ∈ zT := zw_of _ 802 (by decide +kernel) (by decide +kernel)
theorem ws_X7_fault : Cond.selects RX7 yX7_fault yX7_fault ∈ zT := zw_of _ 803 (by decide +kernel) (by decide +kernel)
theorem ml_L_34 : Cond.methodLink RL 34 yX8_fault ∈ zT := zw_of _ 1703 (by decide +kernel) (by decide +kernel)
theorem cd_X8_fault : Cond.code yX8_fault cX8_fault 2 (some .int) ∈ zT := zw_of _ 1706 (by decide +kernel) (by decide +kernel)
theorem cw_L_34 : zCw RL 34 yX8_fault cX8_fault 2 (some .int) 1 := ⟨ml_L_34, ni_X8, cd_X8_fault, by decide, by decide, by decide +kernel⟩
theorem wi_X8_fault : Cond.instanceMethod yX8_fault ∈ zT := zw_of _ 1704 (by decide +kernel) (by decide +kernel)
theorem ws_X8_fault : Cond.selects RX8 yX8_fault yX8_fault ∈ zT := zw_of _ 1705 (by decide +kernel) (by decide +kernel)
theorem ml_L_35 : Cond.methodLink RL 35 yX7_named ∈ zT := zw_of _ 805 (by decide +kernel) (by decide +kernel)
theorem cd_X7_named : Cond.code yX7_named cX7_named 3 (some .int) ∈ zT := zw_of _ 808 (by decide +kernel) (by decide +kernel)
theorem cw_L_35 : zCw RL 35 yX7_named cX7_named 3 (some .int) 2 := ⟨ml_L_35, ni_X7, cd_X7_named, by decide, by decide, by decide +kernel⟩
theorem wi_X7_named : Cond.instanceMethod yX7_named ∈ zT := zw_of _ 806 (by decide +kernel) (by decide +kernel)
theorem ws_X7_named : Cond.selects RX7 yX7_named yX7_named ∈ zT := zw_of _ 807 (by decide +kernel) (by decide +kernel)
theorem ml_L_38 : Cond.methodLink RL 38 yX8_named ∈ zT := zw_of _ 1707 (by decide +kernel) (by decide +kernel)
theorem cd_X8_named : Cond.code yX8_named cX8_named 3 (some .int) ∈ zT := zw_of _ 1710 (by decide +kernel) (by decide +kernel)
theorem cw_L_38 : zCw RL 38 yX8_named cX8_named 3 (some .int) 2 := ⟨ml_L_38, ni_X8, cd_X8_named, by decide, by decide, by decide +kernel⟩
theorem wi_X8_named : Cond.instanceMethod yX8_named ∈ zT := zw_of _ 1708 (by decide +kernel) (by decide +kernel)
theorem ws_X8_named : Cond.selects RX8 yX8_named yX8_named ∈ zT := zw_of _ 1709 (by decide +kernel) (by decide +kernel)
theorem ml_L_49 : Cond.methodLink RL 49 yX7_child ∈ zT := zw_of _ 810 (by decide +kernel) (by decide +kernel)
theorem cd_X7_child : Cond.code yX7_child cX7_child 3 (some .int) ∈ zT := zw_of _ 813 (by decide +kernel) (by decide +kernel)
theorem cw_L_49 : zCw RL 49 yX7_child cX7_child 3 (some .int) 2 := ⟨ml_L_49, ni_X7, cd_X7_child, by decide, by decide, by decide +kernel⟩
theorem wi_X7_child : Cond.instanceMethod yX7_child ∈ zT := zw_of _ 811 (by decide +kernel) (by decide +kernel)
theorem ws_X7_child : Cond.selects RX7 yX7_child yX7_child ∈ zT := zw_of _ 812 (by decide +kernel) (by decide +kernel)
theorem ml_L_52 : Cond.methodLink RL 52 yX8_child ∈ zT := zw_of _ 1719 (by decide +kernel) (by decide +kernel)
theorem cd_X8_child : Cond.code yX8_child cX8_child 3 (some .int) ∈ zT := zw_of _ 1722 (by decide +kernel) (by decide +kernel)
theorem cw_L_52 : zCw RL 52 yX8_child cX8_child 3 (some .int) 2 := ⟨ml_L_52, ni_X8, cd_X8_child, by decide, by decide, by decide +kernel⟩
theorem wi_X8_child : Cond.instanceMethod yX8_child ∈ zT := zw_of _ 1720 (by decide +kernel) (by decide +kernel)
theorem ws_X8_child : Cond.selects RX8 yX8_child yX8_child ∈ zT := zw_of _ 1721 (by decide +kernel) (by decide +kernel)
theorem ml_L_53 : Cond.methodLink RL 53 yX7_field ∈ zT := zw_of _ 830 (by decide +kernel) (by decide +kernel)
theorem cd_X7_field : Cond.code yX7_field cX7_field 3 (some .int) ∈ zT := zw_of _ 833 (by decide +kernel) (by decide +kernel)
theorem cw_L_53 : zCw RL 53 yX7_field cX7_field 3 (some .int) 2 := ⟨ml_L_53, ni_X7, cd_X7_field, by decide, by decide, by decide +kernel⟩
theorem wi_X7_field : Cond.instanceMethod yX7_field ∈ zT := zw_of _ 831 (by decide +kernel) (by decide +kernel)
theorem ws_X7_field : Cond.selects RX7 yX7_field yX7_field ∈ zT := zw_of _ 832 (by decide +kernel) (by decide +kernel)
theorem ml_L_56 : Cond.methodLink RL 56 yX8_field ∈ zT := zw_of _ 1739 (by decide +kernel) (by decide +kernel)
theorem cd_X8_field : Cond.code yX8_field cX8_field 3 (some .int) ∈ zT := zw_of _ 1742 (by decide +kernel) (by decide +kernel)
theorem cw_L_56 : zCw RL 56 yX8_field cX8_field 3 (some .int) 2 := ⟨ml_L_56, ni_X8, cd_X8_field, by decide, by decide, by decide +kernel⟩
theorem wi_X8_field : Cond.instanceMethod yX8_field ∈ zT := zw_of _ 1740 (by decide +kernel) (by decide +kernel)
theorem ws_X8_field : Cond.selects RX8 yX8_field yX8_field ∈ zT := zw_of _ 1741 (by decide +kernel) (by decide +kernel)
theorem ml_L_57 : Cond.methodLink RL 57 yX7_ground ∈ zT := zw_of _ 838 (by decide +kernel) (by decide +kernel)
theorem cd_X7_ground : Cond.code yX7_ground cX7_ground 3 (some .int) ∈ zT := zw_of _ 841 (by decide +kernel) (by decide +kernel)
theorem cw_L_57 : zCw RL 57 yX7_ground cX7_ground 3 (some .int) 2 := ⟨ml_L_57, ni_X7, cd_X7_ground, by decide, by decide, by decide +kernel⟩
theorem wi_X7_ground : Cond.instanceMethod yX7_ground ∈ zT := zw_of _ 839 (by decide +kernel) (by decide +kernel)
theorem ws_X7_ground : Cond.selects RX7 yX7_ground yX7_ground ∈ zT := zw_of _ 840 (by decide +kernel) (by decide +kernel)
theorem ml_L_60 : Cond.methodLink RL 60 yX8_ground ∈ zT := zw_of _ 1747 (by decide +kernel) (by decide +kernel)
theorem cd_X8_ground : Cond.code yX8_ground cX8_ground 3 (some .int) ∈ zT := zw_of _ 1750 (by decide +kernel) (by decide +kernel)
theorem cw_L_60 : zCw RL 60 yX8_ground cX8_ground 3 (some .int) 2 := ⟨ml_L_60, ni_X8, cd_X8_ground, by decide, by decide, by decide +kernel⟩
theorem wi_X8_ground : Cond.instanceMethod yX8_ground ∈ zT := zw_of _ 1748 (by decide +kernel) (by decide +kernel)
theorem ws_X8_ground : Cond.selects RX8 yX8_ground yX8_ground ∈ zT := zw_of _ 1749 (by decide +kernel) (by decide +kernel)
theorem ml_L_61 : Cond.methodLink RL 61 yX7_sees ∈ zT := zw_of _ 849 (by decide +kernel) (by decide +kernel)
theorem cd_X7_sees : Cond.code yX7_sees cX7_sees 2 (some .int) ∈ zT := zw_of _ 852 (by decide +kernel) (by decide +kernel)
theorem cw_L_61 : zCw RL 61 yX7_sees cX7_sees 2 (some .int) 1 := ⟨ml_L_61, ni_X7, cd_X7_sees, by decide, by decide, by decide +kernel⟩
theorem wi_X7_sees : Cond.instanceMethod yX7_sees ∈ zT := zw_of _ 850 (by decide +kernel) (by decide +kernel)
theorem ws_X7_sees : Cond.selects RX7 yX7_sees yX7_sees ∈ zT := zw_of _ 851 (by decide +kernel) (by decide +kernel)
theorem ml_L_64 : Cond.methodLink RL 64 yX8_sees ∈ zT := zw_of _ 1754 (by decide +kernel) (by decide +kernel)
theorem cd_X8_sees : Cond.code yX8_sees cX8_sees 4 (some .int) ∈ zT := zw_of _ 1757 (by decide +kernel) (by decide +kernel)
theorem cw_L_64 : zCw RL 64 yX8_sees cX8_sees 4 (some .int) 1 := ⟨ml_L_64, ni_X8, cd_X8_sees, by decide, by decide, by decide +kernel⟩
theorem wi_X8_sees : Cond.instanceMethod yX8_sees ∈ zT := zw_of _ 1755 (by decide +kernel) (by decide +kernel)
theorem ws_X8_sees : Cond.selects RX8 yX8_sees yX8_sees ∈ zT := zw_of _ 1756 (by decide +kernel) (by decide +kernel)
theorem ml_L_65 : Cond.methodLink RL 65 yX7_in ∈ zT := zw_of _ 864 (by decide +kernel) (by decide +kernel)
theorem cd_X7_in : Cond.code yX7_in cX7_in 3 (some .int) ∈ zT := zw_of _ 867 (by decide +kernel) (by decide +kernel)
theorem cw_L_65 : zCw RL 65 yX7_in cX7_in 3 (some .int) 2 := ⟨ml_L_65, ni_X7, cd_X7_in, by decide, by decide, by decide +kernel⟩
theorem wi_X7_in : Cond.instanceMethod yX7_in ∈ zT := zw_of _ 865 (by decide +kernel) (by decide +kernel)
theorem ws_X7_in : Cond.selects RX7 yX7_in yX7_in ∈ zT := zw_of _ 866 (by decide +kernel) (by decide +kernel)
theorem ml_L_68 : Cond.methodLink RL 68 yX8_in ∈ zT := zw_of _ 1767 (by decide +kernel) (by decide +kernel)
theorem cd_X8_in : Cond.code yX8_in cX8_in 3 (some .int) ∈ zT := zw_of _ 1770 (by decide +kernel) (by decide +kernel)
theorem cw_L_68 : zCw RL 68 yX8_in cX8_in 3 (some .int) 2 := ⟨ml_L_68, ni_X8, cd_X8_in, by decide, by decide, by decide +kernel⟩
theorem wi_X8_in : Cond.instanceMethod yX8_in ∈ zT := zw_of _ 1768 (by decide +kernel) (by decide +kernel)
theorem ws_X8_in : Cond.selects RX8 yX8_in yX8_in ∈ zT := zw_of _ 1769 (by decide +kernel) (by decide +kernel)
theorem ml_L_69 : Cond.methodLink RL 69 yX7_law ∈ zT := zw_of _ 872 (by decide +kernel) (by decide +kernel)
theorem cd_X7_law : Cond.code yX7_law cX7_law 3 (some .long) ∈ zT := zw_of _ 875 (by decide +kernel) (by decide +kernel)
theorem cw_L_69 : zCw RL 69 yX7_law cX7_law 3 (some .long) 2 := ⟨ml_L_69, ni_X7, cd_X7_law, by decide, by decide, by decide +kernel⟩
theorem wi_X7_law : Cond.instanceMethod yX7_law ∈ zT := zw_of _ 873 (by decide +kernel) (by decide +kernel)
theorem ws_X7_law : Cond.selects RX7 yX7_law yX7_law ∈ zT := zw_of _ 874 (by decide +kernel) (by decide +kernel)
theorem ml_L_73 : Cond.methodLink RL 73 yX8_law ∈ zT := zw_of _ 1775 (by decide +kernel) (by decide +kernel)
theorem cd_X8_law : Cond.code yX8_law cX8_law 3 (some .long) ∈ zT := zw_of _ 1778 (by decide +kernel) (by decide +kernel)
theorem cw_L_73 : zCw RL 73 yX8_law cX8_law 3 (some .long) 2 := ⟨ml_L_73, ni_X8, cd_X8_law, by decide, by decide, by decide +kernel⟩
theorem wi_X8_law : Cond.instanceMethod yX8_law ∈ zT := zw_of _ 1776 (by decide +kernel) (by decide +kernel)
theorem ws_X8_law : Cond.selects RX8 yX8_law yX8_law ∈ zT := zw_of _ 1777 (by decide +kernel) (by decide +kernel)
theorem ml_L_74 : Cond.methodLink RL 74 yX7_push ∈ zT := zw_of _ 909 (by decide +kernel) (by decide +kernel)
theorem cd_X7_push : Cond.code yX7_push cX7_push 4 (some .int) ∈ zT := zw_of _ 912 (by decide +kernel) (by decide +kernel)
theorem cw_L_74 : zCw RL 74 yX7_push cX7_push 4 (some .int) 2 := ⟨ml_L_74, ni_X7, cd_X7_push, by decide, by decide, by decide +kernel⟩
theorem wi_X7_push : Cond.instanceMethod yX7_push ∈ zT := zw_of _ 910 (by decide +kernel) (by decide +kernel)
theorem ws_X7_push : Cond.selects RX7 yX7_push yX7_push ∈ zT := zw_of _ 911 (by decide +kernel) (by decide +kernel)
theorem ml_L_77 : Cond.methodLink RL 77 yX8_push ∈ zT := zw_of _ 1813 (by decide +kernel) (by decide +kernel)
theorem cd_X8_push : Cond.code yX8_push cX8_push 4 (some .int) ∈ zT := zw_of _ 1816 (by decide +kernel) (by decide +kernel)
theorem cw_L_77 : zCw RL 77 yX8_push cX8_push 4 (some .int) 2 := ⟨ml_L_77, ni_X8, cd_X8_push, by decide, by decide, by decide +kernel⟩
theorem wi_X8_push : Cond.instanceMethod yX8_push ∈ zT := zw_of _ 1814 (by decide +kernel) (by decide +kernel)
theorem ws_X8_push : Cond.selects RX8 yX8_push yX8_push ∈ zT := zw_of _ 1815 (by decide +kernel) (by decide +kernel)
theorem ml_L_78 : Cond.methodLink RL 78 yX7_give ∈ zT := zw_of _ 937 (by decide +kernel) (by decide +kernel)
theorem cd_X7_give : Cond.code yX7_give cX7_give 3 (some .boolean) ∈ zT := zw_of _ 940 (by decide +kernel) (by decide +kernel)
theorem cw_L_78 : zCw RL 78 yX7_give cX7_give 3 (some .boolean) 2 := ⟨ml_L_78, ni_X7, cd_X7_give, by decide, by decide, by decide +kernel⟩
theorem wi_X7_give : Cond.instanceMethod yX7_give ∈ zT := zw_of _ 938 (by decide +kernel) (by decide +kernel)
theorem ws_X7_give : Cond.selects RX7 yX7_give yX7_give ∈ zT := zw_of _ 939 (by decide +kernel) (by decide +kernel)
theorem ml_L_82 : Cond.methodLink RL 82 yX8_give ∈ zT := zw_of _ 1837 (by decide +kernel) (by decide +kernel)
theorem cd_X8_give : Cond.code yX8_give cX8_give 3 (some .boolean) ∈ zT := zw_of _ 1840 (by decide +kernel) (by decide +kernel)
theorem cw_L_82 : zCw RL 82 yX8_give cX8_give 3 (some .boolean) 2 := ⟨ml_L_82, ni_X8, cd_X8_give, by decide, by decide, by decide +kernel⟩
theorem wi_X8_give : Cond.instanceMethod yX8_give ∈ zT := zw_of _ 1838 (by decide +kernel) (by decide +kernel)
theorem ws_X8_give : Cond.selects RX8 yX8_give yX8_give ∈ zT := zw_of _ 1839 (by decide +kernel) (by decide +kernel)
theorem ml_L_83 : Cond.methodLink RL 83 yX7_stand ∈ zT := zw_of _ 941 (by decide +kernel) (by decide +kernel)
theorem cd_X7_stand : Cond.code yX7_stand cX7_stand 4 (some .boolean) ∈ zT := zw_of _ 944 (by decide +kernel) (by decide +kernel)
theorem cw_L_83 : zCw RL 83 yX7_stand cX7_stand 4 (some .boolean) 3 := ⟨ml_L_83, ni_X7, cd_X7_stand, by decide, by decide, by decide +kernel⟩
theorem wi_X7_stand : Cond.instanceMethod yX7_stand ∈ zT := zw_of _ 942 (by decide +kernel) (by decide +kernel)
theorem ws_X7_stand : Cond.selects RX7 yX7_stand yX7_stand ∈ zT := zw_of _ 943 (by decide +kernel) (by decide +kernel)
theorem ml_L_87 : Cond.methodLink RL 87 yX8_stand ∈ zT := zw_of _ 1841 (by decide +kernel) (by decide +kernel)
theorem cd_X8_stand : Cond.code yX8_stand cX8_stand 4 (some .boolean) ∈ zT := zw_of _ 1844 (by decide +kernel) (by decide +kernel)
theorem cw_L_87 : zCw RL 87 yX8_stand cX8_stand 4 (some .boolean) 3 := ⟨ml_L_87, ni_X8, cd_X8_stand, by decide, by decide, by decide +kernel⟩
theorem wi_X8_stand : Cond.instanceMethod yX8_stand ∈ zT := zw_of _ 1842 (by decide +kernel) (by decide +kernel)
theorem ws_X8_stand : Cond.selects RX8 yX8_stand yX8_stand ∈ zT := zw_of _ 1843 (by decide +kernel) (by decide +kernel)
theorem ml_L_88 : Cond.methodLink RL 88 yX7_blow ∈ zT := zw_of _ 945 (by decide +kernel) (by decide +kernel)
theorem cd_X7_blow : Cond.code yX7_blow cX7_blow 2 (some .boolean) ∈ zT := zw_of _ 948 (by decide +kernel) (by decide +kernel)
theorem cw_L_88 : zCw RL 88 yX7_blow cX7_blow 2 (some .boolean) 1 := ⟨ml_L_88, ni_X7, cd_X7_blow, by decide, by decide, by decide +kernel⟩
theorem wi_X7_blow : Cond.instanceMethod yX7_blow ∈ zT := zw_of _ 946 (by decide +kernel) (by decide +kernel)
theorem ws_X7_blow : Cond.selects RX7 yX7_blow yX7_blow ∈ zT := zw_of _ 947 (by decide +kernel) (by decide +kernel)
theorem ml_L_92 : Cond.methodLink RL 92 yX8_blow ∈ zT := zw_of _ 1845 (by decide +kernel) (by decide +kernel)
theorem cd_X8_blow : Cond.code yX8_blow cX8_blow 2 (some .boolean) ∈ zT := zw_of _ 1848 (by decide +kernel) (by decide +kernel)
theorem cw_L_92 : zCw RL 92 yX8_blow cX8_blow 2 (some .boolean) 1 := ⟨ml_L_92, ni_X8, cd_X8_blow, by decide, by decide, by decide +kernel⟩
theorem wi_X8_blow : Cond.instanceMethod yX8_blow ∈ zT := zw_of _ 1846 (by decide +kernel) (by decide +kernel)
theorem ws_X8_blow : Cond.selects RX8 yX8_blow yX8_blow ∈ zT := zw_of _ 1847 (by decide +kernel) (by decide +kernel)
theorem ml_L_93 : Cond.methodLink RL 93 yX7_go ∈ zT := zw_of _ 949 (by decide +kernel) (by decide +kernel)
theorem cd_X7_go : Cond.code yX7_go cX7_go 3 (some .int) ∈ zT := zw_of _ 952 (by decide +kernel) (by decide +kernel)
theorem cw_L_93 : zCw RL 93 yX7_go cX7_go 3 (some .int) 1 := ⟨ml_L_93, ni_X7, cd_X7_go, by decide, by decide, by decide +kernel⟩
theorem wi_X7_go : Cond.instanceMethod yX7_go ∈ zT := zw_of _ 950 (by decide +kernel) (by decide +kernel)
theorem ws_X7_go : Cond.selects RX7 yX7_go yX7_go ∈ zT := zw_of _ 951 (by decide +kernel) (by decide +kernel)
theorem ml_L_96 : Cond.methodLink RL 96 yX8_go ∈ zT := zw_of _ 1849 (by decide +kernel) (by decide +kernel)
theorem cd_X8_go : Cond.code yX8_go cX8_go 3 (some .int) ∈ zT := zw_of _ 1852 (by decide +kernel) (by decide +kernel)
theorem cw_L_96 : zCw RL 96 yX8_go cX8_go 3 (some .int) 1 := ⟨ml_L_96, ni_X8, cd_X8_go, by decide, by decide, by decide +kernel⟩
theorem wi_X8_go : Cond.instanceMethod yX8_go ∈ zT := zw_of _ 1850 (by decide +kernel) (by decide +kernel)
theorem ws_X8_go : Cond.selects RX8 yX8_go yX8_go ∈ zT := zw_of _ 1851 (by decide +kernel) (by decide +kernel)
theorem ml_L_97 : Cond.methodLink RL 97 yX7_ahead ∈ zT := zw_of _ 1015 (by decide +kernel) (by decide +kernel)
theorem cd_X7_ahead : Cond.code yX7_ahead cX7_ahead 4 (some .int) ∈ zT := zw_of _ 1018 (by decide +kernel) (by decide +kernel)
theorem cw_L_97 : zCw RL 97 yX7_ahead cX7_ahead 4 (some .int) 2 := ⟨ml_L_97, ni_X7, cd_X7_ahead, by decide, by decide, by decide +kernel⟩
theorem wi_X7_ahead : Cond.instanceMethod yX7_ahead ∈ zT := zw_of _ 1016 (by decide +kernel) (by decide +kernel)
theorem ws_X7_ahead : Cond.selects RX7 yX7_ahead yX7_ahead ∈ zT := zw_of _ 1017 (by decide +kernel) (by decide +kernel)
theorem ml_L_100 : Cond.methodLink RL 100 yX8_ahead ∈ zT := zw_of _ 1884 (by decide +kernel) (by decide +kernel)
theorem cd_X8_ahead : Cond.code yX8_ahead cX8_ahead 3 (some .int) ∈ zT := zw_of _ 1887 (by decide +kernel) (by decide +kernel)
theorem cw_L_100 : zCw RL 100 yX8_ahead cX8_ahead 3 (some .int) 2 := ⟨ml_L_100, ni_X8, cd_X8_ahead, by decide, by decide, by decide +kernel⟩
theorem wi_X8_ahead : Cond.instanceMethod yX8_ahead ∈ zT := zw_of _ 1885 (by decide +kernel) (by decide +kernel)
theorem ws_X8_ahead : Cond.selects RX8 yX8_ahead yX8_ahead ∈ zT := zw_of _ 1886 (by decide +kernel) (by decide +kernel)
theorem ml_L_101 : Cond.methodLink RL 101 yX7_could ∈ zT := zw_of _ 1039 (by decide +kernel) (by decide +kernel)
theorem cd_X7_could : Cond.code yX7_could cX7_could 5 (some .int) ∈ zT := zw_of _ 1042 (by decide +kernel) (by decide +kernel)
theorem cw_L_101 : zCw RL 101 yX7_could cX7_could 5 (some .int) 0 := ⟨ml_L_101, ni_X7, cd_X7_could, by decide, by decide, by decide +kernel⟩
theorem wi_X7_could : Cond.instanceMethod yX7_could ∈ zT := zw_of _ 1040 (by decide +kernel) (by decide +kernel)
theorem ws_X7_could : Cond.selects RX7 yX7_could yX7_could ∈ zT := zw_of _ 1041 (by decide +kernel) (by decide +kernel)
theorem ml_L_104 : Cond.methodLink RL 104 yX8_could ∈ zT := zw_of _ 1904 (by decide +kernel) (by decide +kernel)
theorem cd_X8_could : Cond.code yX8_could cX8_could 3 (some .int) ∈ zT := zw_of _ 1907 (by decide +kernel) (by decide +kernel)
theorem cw_L_104 : zCw RL 104 yX8_could cX8_could 3 (some .int) 0 := ⟨ml_L_104, ni_X8, cd_X8_could, by decide, by decide, by decide +kernel⟩
theorem wi_X8_could : Cond.instanceMethod yX8_could ∈ zT := zw_of _ 1905 (by decide +kernel) (by decide +kernel)
theorem ws_X8_could : Cond.selects RX8 yX8_could yX8_could ∈ zT := zw_of _ 1906 (by decide +kernel) (by decide +kernel)
theorem ml_L_105 : Cond.methodLink RL 105 yX7_station ∈ zT := zw_of _ 1050 (by decide +kernel) (by decide +kernel)
theorem cd_X7_station : Cond.code yX7_station cX7_station 5 (some .int) ∈ zT := zw_of _ 1053 (by decide +kernel) (by decide +kernel)
theorem cw_L_105 : zCw RL 105 yX7_station cX7_station 5 (some .int) 3 := ⟨ml_L_105, ni_X7, cd_X7_station, by decide, by decide, by decide +kernel⟩
theorem wi_X7_station : Cond.instanceMethod yX7_station ∈ zT := zw_of _ 1051 (by decide +kernel) (by decide +kernel)
theorem ws_X7_station : Cond.selects RX7 yX7_station yX7_station ∈ zT := zw_of _ 1052 (by decide +kernel) (by decide +kernel)
theorem ml_L_109 : Cond.methodLink RL 109 yX8_station ∈ zT := zw_of _ 1916 (by decide +kernel) (by decide +kernel)
theorem cd_X8_station : Cond.code yX8_station cX8_station 7 (some .int) ∈ zT := zw_of _ 1919 (by decide +kernel) (by decide +kernel)
theorem cw_L_109 : zCw RL 109 yX8_station cX8_station 7 (some .int) 3 := ⟨ml_L_109, ni_X8, cd_X8_station, by decide, by decide, by decide +kernel⟩
theorem wi_X8_station : Cond.instanceMethod yX8_station ∈ zT := zw_of _ 1917 (by decide +kernel) (by decide +kernel)
theorem ws_X8_station : Cond.selects RX8 yX8_station yX8_station ∈ zT := zw_of _ 1918 (by decide +kernel) (by decide +kernel)
theorem ml_L_110 : Cond.methodLink RL 110 yX7_lacks ∈ zT := zw_of _ 1064 (by decide +kernel) (by decide +kernel)
theorem cd_X7_lacks : Cond.code yX7_lacks cX7_lacks 3 (some .int) ∈ zT := zw_of _ 1067 (by decide +kernel) (by decide +kernel)
theorem cw_L_110 : zCw RL 110 yX7_lacks cX7_lacks 3 (some .int) 0 := ⟨ml_L_110, ni_X7, cd_X7_lacks, by decide, by decide, by decide +kernel⟩
theorem wi_X7_lacks : Cond.instanceMethod yX7_lacks ∈ zT := zw_of _ 1065 (by decide +kernel) (by decide +kernel)
theorem ws_X7_lacks : Cond.selects RX7 yX7_lacks yX7_lacks ∈ zT := zw_of _ 1066 (by decide +kernel) (by decide +kernel)
theorem ml_L_113 : Cond.methodLink RL 113 yX8_lacks ∈ zT := zw_of _ 1920 (by decide +kernel) (by decide +kernel)
theorem cd_X8_lacks : Cond.code yX8_lacks cX8_lacks 3 (some .int) ∈ zT := zw_of _ 1923 (by decide +kernel) (by decide +kernel)
theorem cw_L_113 : zCw RL 113 yX8_lacks cX8_lacks 3 (some .int) 0 := ⟨ml_L_113, ni_X8, cd_X8_lacks, by decide, by decide, by decide +kernel⟩
theorem wi_X8_lacks : Cond.instanceMethod yX8_lacks ∈ zT := zw_of _ 1921 (by decide +kernel) (by decide +kernel)
theorem ws_X8_lacks : Cond.selects RX8 yX8_lacks yX8_lacks ∈ zT := zw_of _ 1922 (by decide +kernel) (by decide +kernel)
theorem ml_L_114 : Cond.methodLink RL 114 yX7_enough ∈ zT := zw_of _ 1072 (by decide +kernel) (by decide +kernel)
theorem cd_X7_enough : Cond.code yX7_enough cX7_enough 2 (some .int) ∈ zT := zw_of _ 1075 (by decide +kernel) (by decide +kernel)
theorem cw_L_114 : zCw RL 114 yX7_enough cX7_enough 2 (some .int) 1 := ⟨ml_L_114, ni_X7, cd_X7_enough, by decide, by decide, by decide +kernel⟩
theorem wi_X7_enough : Cond.instanceMethod yX7_enough ∈ zT := zw_of _ 1073 (by decide +kernel) (by decide +kernel)
theorem ws_X7_enough : Cond.selects RX7 yX7_enough yX7_enough ∈ zT := zw_of _ 1074 (by decide +kernel) (by decide +kernel)
theorem ml_L_117 : Cond.methodLink RL 117 yX8_enough ∈ zT := zw_of _ 1924 (by decide +kernel) (by decide +kernel)
theorem cd_X8_enough : Cond.code yX8_enough cX8_enough 3 (some .int) ∈ zT := zw_of _ 1927 (by decide +kernel) (by decide +kernel)
theorem cw_L_117 : zCw RL 117 yX8_enough cX8_enough 3 (some .int) 1 := ⟨ml_L_117, ni_X8, cd_X8_enough, by decide, by decide, by decide +kernel⟩
theorem wi_X8_enough : Cond.instanceMethod yX8_enough ∈ zT := zw_of _ 1925 (by decide +kernel) (by decide +kernel)
theorem ws_X8_enough : Cond.selects RX8 yX8_enough yX8_enough ∈ zT := zw_of _ 1926 (by decide +kernel) (by decide +kernel)
theorem ml_L_118 : Cond.methodLink RL 118 yX7_whose ∈ zT := zw_of _ 1081 (by decide +kernel) (by decide +kernel)
theorem cd_X7_whose : Cond.code yX7_whose cX7_whose 5 (some .int) ∈ zT := zw_of _ 1084 (by decide +kernel) (by decide +kernel)
theorem cw_L_118 : zCw RL 118 yX7_whose cX7_whose 5 (some .int) 1 := ⟨ml_L_118, ni_X7, cd_X7_whose, by decide, by decide, by decide +kernel⟩
theorem wi_X7_whose : Cond.instanceMethod yX7_whose ∈ zT := zw_of _ 1082 (by decide +kernel) (by decide +kernel)
theorem ws_X7_whose : Cond.selects RX7 yX7_whose yX7_whose ∈ zT := zw_of _ 1083 (by decide +kernel) (by decide +kernel)
theorem ml_L_121 : Cond.methodLink RL 121 yX8_whose ∈ zT := zw_of _ 1928 (by decide +kernel) (by decide +kernel)
theorem cd_X8_whose : Cond.code yX8_whose cX8_whose 5 (some .int) ∈ zT := zw_of _ 1931 (by decide +kernel) (by decide +kernel)
theorem cw_L_121 : zCw RL 121 yX8_whose cX8_whose 5 (some .int) 1 := ⟨ml_L_121, ni_X8, cd_X8_whose, by decide, by decide, by decide +kernel⟩
theorem wi_X8_whose : Cond.instanceMethod yX8_whose ∈ zT := zw_of _ 1929 (by decide +kernel) (by decide +kernel)
theorem ws_X8_whose : Cond.selects RX8 yX8_whose yX8_whose ∈ zT := zw_of _ 1930 (by decide +kernel) (by decide +kernel)
theorem ml_L_122 : Cond.methodLink RL 122 yX7_swaps ∈ zT := zw_of _ 1085 (by decide +kernel) (by decide +kernel)
theorem cd_X7_swaps : Cond.code yX7_swaps cX7_swaps 4 (some .int) ∈ zT := zw_of _ 1088 (by decide +kernel) (by decide +kernel)
theorem cw_L_122 : zCw RL 122 yX7_swaps cX7_swaps 4 (some .int) 0 := ⟨ml_L_122, ni_X7, cd_X7_swaps, by decide, by decide, by decide +kernel⟩
theorem wi_X7_swaps : Cond.instanceMethod yX7_swaps ∈ zT := zw_of _ 1086 (by decide +kernel) (by decide +kernel)
theorem ws_X7_swaps : Cond.selects RX7 yX7_swaps yX7_swaps ∈ zT := zw_of _ 1087 (by decide +kernel) (by decide +kernel)
theorem ml_L_125 : Cond.methodLink RL 125 yX8_swaps ∈ zT := zw_of _ 1932 (by decide +kernel) (by decide +kernel)
theorem cd_X8_swaps : Cond.code yX8_swaps cX8_swaps 1 (some .int) ∈ zT := zw_of _ 1935 (by decide +kernel) (by decide +kernel)
theorem cw_L_125 : zCw RL 125 yX8_swaps cX8_swaps 1 (some .int) 0 := ⟨ml_L_125, ni_X8, cd_X8_swaps, by decide, by decide, by decide +kernel⟩
theorem wi_X8_swaps : Cond.instanceMethod yX8_swaps ∈ zT := zw_of _ 1933 (by decide +kernel) (by decide +kernel)
theorem ws_X8_swaps : Cond.selects RX8 yX8_swaps yX8_swaps ∈ zT := zw_of _ 1934 (by decide +kernel) (by decide +kernel)
theorem ml_L_126 : Cond.methodLink RL 126 yX7_swap ∈ zT := zw_of _ 1093 (by decide +kernel) (by decide +kernel)
theorem cd_X7_swap : Cond.code yX7_swap cX7_swap 5 (some .int) ∈ zT := zw_of _ 1096 (by decide +kernel) (by decide +kernel)
theorem cw_L_126 : zCw RL 126 yX7_swap cX7_swap 5 (some .int) 1 := ⟨ml_L_126, ni_X7, cd_X7_swap, by decide, by decide, by decide +kernel⟩
theorem wi_X7_swap : Cond.instanceMethod yX7_swap ∈ zT := zw_of _ 1094 (by decide +kernel) (by decide +kernel)
theorem ws_X7_swap : Cond.selects RX7 yX7_swap yX7_swap ∈ zT := zw_of _ 1095 (by decide +kernel) (by decide +kernel)
theorem ml_L_129 : Cond.methodLink RL 129 yX8_swap ∈ zT := zw_of _ 1944 (by decide +kernel) (by decide +kernel)
theorem cd_X8_swap : Cond.code yX8_swap cX8_swap 2 (some .int) ∈ zT := zw_of _ 1947 (by decide +kernel) (by decide +kernel)
theorem cw_L_129 : zCw RL 129 yX8_swap cX8_swap 2 (some .int) 1 := ⟨ml_L_129, ni_X8, cd_X8_swap, by decide, by decide, by decide +kernel⟩
theorem wi_X8_swap : Cond.instanceMethod yX8_swap ∈ zT := zw_of _ 1945 (by decide +kernel) (by decide +kernel)
theorem ws_X8_swap : Cond.selects RX8 yX8_swap yX8_swap ∈ zT := zw_of _ 1946 (by decide +kernel) (by decide +kernel)
theorem ml_L_130 : Cond.methodLink RL 130 yX7_likely ∈ zT := zw_of _ 1097 (by decide +kernel) (by decide +kernel)
theorem cd_X7_likely : Cond.code yX7_likely cX7_likely 7 (some .int) ∈ zT := zw_of _ 1100 (by decide +kernel) (by decide +kernel)
theorem cw_L_130 : zCw RL 130 yX7_likely cX7_likely 7 (some .int) 3 := ⟨ml_L_130, ni_X7, cd_X7_likely, by decide, by decide, by decide +kernel⟩
theorem wi_X7_likely : Cond.instanceMethod yX7_likely ∈ zT := zw_of _ 1098 (by decide +kernel) (by decide +kernel)
theorem ws_X7_likely : Cond.selects RX7 yX7_likely yX7_likely ∈ zT := zw_of _ 1099 (by decide +kernel) (by decide +kernel)
theorem ml_L_133 : Cond.methodLink RL 133 yX8_likely ∈ zT := zw_of _ 1948 (by decide +kernel) (by decide +kernel)
theorem cd_X8_likely : Cond.code yX8_likely cX8_likely 9 (some .int) ∈ zT := zw_of _ 1951 (by decide +kernel) (by decide +kernel)
theorem cw_L_133 : zCw RL 133 yX8_likely cX8_likely 9 (some .int) 3 := ⟨ml_L_133, ni_X8, cd_X8_likely, by decide, by decide, by decide +kernel⟩
theorem wi_X8_likely : Cond.instanceMethod yX8_likely ∈ zT := zw_of _ 1949 (by decide +kernel) (by decide +kernel)
theorem ws_X8_likely : Cond.selects RX8 yX8_likely yX8_likely ∈ zT := zw_of _ 1950 (by decide +kernel) (by decide +kernel)
theorem ml_L_134 : Cond.methodLink RL 134 yX7_plan ∈ zT := zw_of _ 1114 (by decide +kernel) (by decide +kernel)
theorem cd_X7_plan : Cond.code yX7_plan cX7_plan 4 (some .int) ∈ zT := zw_of _ 1117 (by decide +kernel) (by decide +kernel)
theorem cw_L_134 : zCw RL 134 yX7_plan cX7_plan 4 (some .int) 3 := ⟨ml_L_134, ni_X7, cd_X7_plan, by decide, by decide, by decide +kernel⟩
theorem wi_X7_plan : Cond.instanceMethod yX7_plan ∈ zT := zw_of _ 1115 (by decide +kernel) (by decide +kernel)
theorem ws_X7_plan : Cond.selects RX7 yX7_plan yX7_plan ∈ zT := zw_of _ 1116 (by decide +kernel) (by decide +kernel)
theorem ml_L_137 : Cond.methodLink RL 137 yX8_plan ∈ zT := zw_of _ 1958 (by decide +kernel) (by decide +kernel)
theorem cd_X8_plan : Cond.code yX8_plan cX8_plan 4 (some .int) ∈ zT := zw_of _ 1961 (by decide +kernel) (by decide +kernel)
theorem cw_L_137 : zCw RL 137 yX8_plan cX8_plan 4 (some .int) 3 := ⟨ml_L_137, ni_X8, cd_X8_plan, by decide, by decide, by decide +kernel⟩
theorem wi_X8_plan : Cond.instanceMethod yX8_plan ∈ zT := zw_of _ 1959 (by decide +kernel) (by decide +kernel)
theorem ws_X8_plan : Cond.selects RX8 yX8_plan yX8_plan ∈ zT := zw_of _ 1960 (by decide +kernel) (by decide +kernel)
theorem ml_L_138 : Cond.methodLink RL 138 yX7_step ∈ zT := zw_of _ 1133 (by decide +kernel) (by decide +kernel)
theorem cd_X7_step : Cond.code yX7_step cX7_step 5 (some .int) ∈ zT := zw_of _ 1136 (by decide +kernel) (by decide +kernel)
theorem cw_L_138 : zCw RL 138 yX7_step cX7_step 5 (some .int) 4 := ⟨ml_L_138, ni_X7, cd_X7_step, by decide, by decide, by decide +kernel⟩
theorem wi_X7_step : Cond.instanceMethod yX7_step ∈ zT := zw_of _ 1134 (by decide +kernel) (by decide +kernel)
theorem ws_X7_step : Cond.selects RX7 yX7_step yX7_step ∈ zT := zw_of _ 1135 (by decide +kernel) (by decide +kernel)
theorem ml_L_142 : Cond.methodLink RL 142 yX8_step ∈ zT := zw_of _ 1970 (by decide +kernel) (by decide +kernel)
theorem cd_X8_step : Cond.code yX8_step cX8_step 5 (some .int) ∈ zT := zw_of _ 1973 (by decide +kernel) (by decide +kernel)
theorem cw_L_142 : zCw RL 142 yX8_step cX8_step 5 (some .int) 4 := ⟨ml_L_142, ni_X8, cd_X8_step, by decide, by decide, by decide +kernel⟩
theorem wi_X8_step : Cond.instanceMethod yX8_step ∈ zT := zw_of _ 1971 (by decide +kernel) (by decide +kernel)
theorem ws_X8_step : Cond.selects RX8 yX8_step yX8_step ∈ zT := zw_of _ 1972 (by decide +kernel) (by decide +kernel)
theorem ml_L_143 : Cond.methodLink RL 143 yX7_rests ∈ zT := zw_of _ 1141 (by decide +kernel) (by decide +kernel)
theorem cd_X7_rests : Cond.code yX7_rests cX7_rests 5 (some .int) ∈ zT := zw_of _ 1144 (by decide +kernel) (by decide +kernel)
theorem cw_L_143 : zCw RL 143 yX7_rests cX7_rests 5 (some .int) 2 := ⟨ml_L_143, ni_X7, cd_X7_rests, by decide, by decide, by decide +kernel⟩
theorem wi_X7_rests : Cond.instanceMethod yX7_rests ∈ zT := zw_of _ 1142 (by decide +kernel) (by decide +kernel)
theorem ws_X7_rests : Cond.selects RX7 yX7_rests yX7_rests ∈ zT := zw_of _ 1143 (by decide +kernel) (by decide +kernel)
theorem ml_L_146 : Cond.methodLink RL 146 yX8_rests ∈ zT := zw_of _ 1974 (by decide +kernel) (by decide +kernel)
theorem cd_X8_rests : Cond.code yX8_rests cX8_rests 3 (some .int) ∈ zT := zw_of _ 1977 (by decide +kernel) (by decide +kernel)
theorem cw_L_146 : zCw RL 146 yX8_rests cX8_rests 3 (some .int) 2 := ⟨ml_L_146, ni_X8, cd_X8_rests, by decide, by decide, by decide +kernel⟩
theorem wi_X8_rests : Cond.instanceMethod yX8_rests ∈ zT := zw_of _ 1975 (by decide +kernel) (by decide +kernel)
theorem ws_X8_rests : Cond.selects RX8 yX8_rests yX8_rests ∈ zT := zw_of _ 1976 (by decide +kernel) (by decide +kernel)
theorem ml_L_147 : Cond.methodLink RL 147 yX7_rest ∈ zT := zw_of _ 1154 (by decide +kernel) (by decide +kernel)
theorem cd_X7_rest : Cond.code yX7_rest cX7_rest 6 (some .int) ∈ zT := zw_of _ 1157 (by decide +kernel) (by decide +kernel)
theorem cw_L_147 : zCw RL 147 yX7_rest cX7_rest 6 (some .int) 3 := ⟨ml_L_147, ni_X7, cd_X7_rest, by decide, by decide, by decide +kernel⟩
theorem wi_X7_rest : Cond.instanceMethod yX7_rest ∈ zT := zw_of _ 1155 (by decide +kernel) (by decide +kernel)
theorem ws_X7_rest : Cond.selects RX7 yX7_rest yX7_rest ∈ zT := zw_of _ 1156 (by decide +kernel) (by decide +kernel)
theorem ml_L_150 : Cond.methodLink RL 150 yX8_rest ∈ zT := zw_of _ 1994 (by decide +kernel) (by decide +kernel)
theorem cd_X8_rest : Cond.code yX8_rest cX8_rest 4 (some .int) ∈ zT := zw_of _ 1997 (by decide +kernel) (by decide +kernel)
theorem cw_L_150 : zCw RL 150 yX8_rest cX8_rest 4 (some .int) 3 := ⟨ml_L_150, ni_X8, cd_X8_rest, by decide, by decide, by decide +kernel⟩
theorem wi_X8_rest : Cond.instanceMethod yX8_rest ∈ zT := zw_of _ 1995 (by decide +kernel) (by decide +kernel)
theorem ws_X8_rest : Cond.selects RX8 yX8_rest yX8_rest ∈ zT := zw_of _ 1996 (by decide +kernel) (by decide +kernel)
theorem ml_L_151 : Cond.methodLink RL 151 yX7_note ∈ zT := zw_of _ 1158 (by decide +kernel) (by decide +kernel)
theorem cd_X7_note : Cond.code yX7_note cX7_note 5 (some .int) ∈ zT := zw_of _ 1161 (by decide +kernel) (by decide +kernel)
theorem cw_L_151 : zCw RL 151 yX7_note cX7_note 5 (some .int) 4 := ⟨ml_L_151, ni_X7, cd_X7_note, by decide, by decide, by decide +kernel⟩
theorem wi_X7_note : Cond.instanceMethod yX7_note ∈ zT := zw_of _ 1159 (by decide +kernel) (by decide +kernel)
theorem ws_X7_note : Cond.selects RX7 yX7_note yX7_note ∈ zT := zw_of _ 1160 (by decide +kernel) (by decide +kernel)
theorem ml_L_155 : Cond.methodLink RL 155 yX8_note ∈ zT := zw_of _ 1998 (by decide +kernel) (by decide +kernel)
theorem cd_X8_note : Cond.code yX8_note cX8_note 5 (some .int) ∈ zT := zw_of _ 2001 (by decide +kernel) (by decide +kernel)
theorem cw_L_155 : zCw RL 155 yX8_note cX8_note 5 (some .int) 4 := ⟨ml_L_155, ni_X8, cd_X8_note, by decide, by decide, by decide +kernel⟩
theorem wi_X8_note : Cond.instanceMethod yX8_note ∈ zT := zw_of _ 1999 (by decide +kernel) (by decide +kernel)
theorem ws_X8_note : Cond.selects RX8 yX8_note yX8_note ∈ zT := zw_of _ 2000 (by decide +kernel) (by decide +kernel)
theorem ml_L_156 : Cond.methodLink RL 156 yX7_out ∈ zT := zw_of _ 1166 (by decide +kernel) (by decide +kernel)
theorem cd_X7_out : Cond.code yX7_out cX7_out 2 (some .int) ∈ zT := zw_of _ 1169 (by decide +kernel) (by decide +kernel)
theorem cw_L_156 : zCw RL 156 yX7_out cX7_out 2 (some .int) 1 := ⟨ml_L_156, ni_X7, cd_X7_out, by decide, by decide, by decide +kernel⟩
theorem wi_X7_out : Cond.instanceMethod yX7_out ∈ zT := zw_of _ 1167 (by decide +kernel) (by decide +kernel)
theorem ws_X7_out : Cond.selects RX7 yX7_out yX7_out ∈ zT := zw_of _ 1168 (by decide +kernel) (by decide +kernel)
theorem ml_L_159 : Cond.methodLink RL 159 yX8_out ∈ zT := zw_of _ 2002 (by decide +kernel) (by decide +kernel)
theorem cd_X8_out : Cond.code yX8_out cX8_out 2 (some .int) ∈ zT := zw_of _ 2005 (by decide +kernel) (by decide +kernel)
theorem cw_L_159 : zCw RL 159 yX8_out cX8_out 2 (some .int) 1 := ⟨ml_L_159, ni_X8, cd_X8_out, by decide, by decide, by decide +kernel⟩
theorem wi_X8_out : Cond.instanceMethod yX8_out ∈ zT := zw_of _ 2003 (by decide +kernel) (by decide +kernel)
theorem ws_X8_out : Cond.selects RX8 yX8_out yX8_out ∈ zT := zw_of _ 2004 (by decide +kernel) (by decide +kernel)
theorem ml_L_160 : Cond.methodLink RL 160 yX7_known ∈ zT := zw_of _ 1175 (by decide +kernel) (by decide +kernel)
theorem cd_X7_known : Cond.code yX7_known cX7_known 2 (some .boolean) ∈ zT := zw_of _ 1178 (by decide +kernel) (by decide +kernel)
theorem cw_L_160 : zCw RL 160 yX7_known cX7_known 2 (some .boolean) 1 := ⟨ml_L_160, ni_X7, cd_X7_known, by decide, by decide, by decide +kernel⟩
theorem wi_X7_known : Cond.instanceMethod yX7_known ∈ zT := zw_of _ 1176 (by decide +kernel) (by decide +kernel)
theorem ws_X7_known : Cond.selects RX7 yX7_known yX7_known ∈ zT := zw_of _ 1177 (by decide +kernel) (by decide +kernel)
theorem ml_L_163 : Cond.methodLink RL 163 yX8_known ∈ zT := zw_of _ 2006 (by decide +kernel) (by decide +kernel)
theorem cd_X8_known : Cond.code yX8_known cX8_known 2 (some .boolean) ∈ zT := zw_of _ 2009 (by decide +kernel) (by decide +kernel)
theorem cw_L_163 : zCw RL 163 yX8_known cX8_known 2 (some .boolean) 1 := ⟨ml_L_163, ni_X8, cd_X8_known, by decide, by decide, by decide +kernel⟩
theorem wi_X8_known : Cond.instanceMethod yX8_known ∈ zT := zw_of _ 2007 (by decide +kernel) (by decide +kernel)
theorem ws_X8_known : Cond.selects RX8 yX8_known yX8_known ∈ zT := zw_of _ 2008 (by decide +kernel) (by decide +kernel)
theorem ml_L_164 : Cond.methodLink RL 164 yX7_sizes ∈ zT := zw_of _ 1179 (by decide +kernel) (by decide +kernel)
theorem cd_X7_sizes : Cond.code yX7_sizes cX7_sizes 4 (some .int) ∈ zT := zw_of _ 1182 (by decide +kernel) (by decide +kernel)
theorem cw_L_164 : zCw RL 164 yX7_sizes cX7_sizes 4 (some .int) 1 := ⟨ml_L_164, ni_X7, cd_X7_sizes, by decide, by decide, by decide +kernel⟩
theorem wi_X7_sizes : Cond.instanceMethod yX7_sizes ∈ zT := zw_of _ 1180 (by decide +kernel) (by decide +kernel)
theorem ws_X7_sizes : Cond.selects RX7 yX7_sizes yX7_sizes ∈ zT := zw_of _ 1181 (by decide +kernel) (by decide +kernel)
theorem ml_L_167 : Cond.methodLink RL 167 yX8_sizes ∈ zT := zw_of _ 2010 (by decide +kernel) (by decide +kernel)
theorem cd_X8_sizes : Cond.code yX8_sizes cX8_sizes 5 (some .int) ∈ zT := zw_of _ 2013 (by decide +kernel) (by decide +kernel)
theorem cw_L_167 : zCw RL 167 yX8_sizes cX8_sizes 5 (some .int) 1 := ⟨ml_L_167, ni_X8, cd_X8_sizes, by decide, by decide, by decide +kernel⟩
theorem wi_X8_sizes : Cond.instanceMethod yX8_sizes ∈ zT := zw_of _ 2011 (by decide +kernel) (by decide +kernel)
theorem ws_X8_sizes : Cond.selects RX8 yX8_sizes yX8_sizes ∈ zT := zw_of _ 2012 (by decide +kernel) (by decide +kernel)
theorem ml_L_168 : Cond.methodLink RL 168 yX7_chance ∈ zT := zw_of _ 1210 (by decide +kernel) (by decide +kernel)
theorem cd_X7_chance : Cond.code yX7_chance cX7_chance 7 (some .int) ∈ zT := zw_of _ 1213 (by decide +kernel) (by decide +kernel)
theorem cw_L_168 : zCw RL 168 yX7_chance cX7_chance 7 (some .int) 4 := ⟨ml_L_168, ni_X7, cd_X7_chance, by decide, by decide, by decide +kernel⟩
theorem wi_X7_chance : Cond.instanceMethod yX7_chance ∈ zT := zw_of _ 1211 (by decide +kernel) (by decide +kernel)
theorem ws_X7_chance : Cond.selects RX7 yX7_chance yX7_chance ∈ zT := zw_of _ 1212 (by decide +kernel) (by decide +kernel)
theorem ml_L_171 : Cond.methodLink RL 171 yX8_chance ∈ zT := zw_of _ 2026 (by decide +kernel) (by decide +kernel)
theorem cd_X8_chance : Cond.code yX8_chance cX8_chance 9 (some .int) ∈ zT := zw_of _ 2029 (by decide +kernel) (by decide +kernel)
theorem cw_L_171 : zCw RL 171 yX8_chance cX8_chance 9 (some .int) 4 := ⟨ml_L_171, ni_X8, cd_X8_chance, by decide, by decide, by decide +kernel⟩
theorem wi_X8_chance : Cond.instanceMethod yX8_chance ∈ zT := zw_of _ 2027 (by decide +kernel) (by decide +kernel)
theorem ws_X8_chance : Cond.selects RX8 yX8_chance yX8_chance ∈ zT := zw_of _ 2028 (by decide +kernel) (by decide +kernel)
theorem ml_L_172 : Cond.methodLink RL 172 yX7_tried ∈ zT := zw_of _ 1229 (by decide +kernel) (by decide +kernel)
theorem cd_X7_tried : Cond.code yX7_tried cX7_tried 4 (some .int) ∈ zT := zw_of _ 1232 (by decide +kernel) (by decide +kernel)
theorem cw_L_172 : zCw RL 172 yX7_tried cX7_tried 4 (some .int) 3 := ⟨ml_L_172, ni_X7, cd_X7_tried, by decide, by decide, by decide +kernel⟩
theorem wi_X7_tried : Cond.instanceMethod yX7_tried ∈ zT := zw_of _ 1230 (by decide +kernel) (by decide +kernel)
theorem ws_X7_tried : Cond.selects RX7 yX7_tried yX7_tried ∈ zT := zw_of _ 1231 (by decide +kernel) (by decide +kernel)
theorem ml_L_175 : Cond.methodLink RL 175 yX8_tried ∈ zT := zw_of _ 2032 (by decide +kernel) (by decide +kernel)
theorem cd_X8_tried : Cond.code yX8_tried cX8_tried 5 (some .int) ∈ zT := zw_of _ 2035 (by decide +kernel) (by decide +kernel)
theorem cw_L_175 : zCw RL 175 yX8_tried cX8_tried 5 (some .int) 3 := ⟨ml_L_175, ni_X8, cd_X8_tried, by decide, by decide, by decide +kernel⟩
theorem wi_X8_tried : Cond.instanceMethod yX8_tried ∈ zT := zw_of _ 2033 (by decide +kernel) (by decide +kernel)
theorem ws_X8_tried : Cond.selects RX8 yX8_tried yX8_tried ∈ zT := zw_of _ 2034 (by decide +kernel) (by decide +kernel)
theorem ml_L_176 : Cond.methodLink RL 176 yX7_undo ∈ zT := zw_of _ 1233 (by decide +kernel) (by decide +kernel)
theorem cd_X7_undo : Cond.code yX7_undo cX7_undo 1 (some .int) ∈ zT := zw_of _ 1236 (by decide +kernel) (by decide +kernel)
theorem cw_L_176 : zCw RL 176 yX7_undo cX7_undo 1 (some .int) 0 := ⟨ml_L_176, ni_X7, cd_X7_undo, by decide, by decide, by decide +kernel⟩
theorem wi_X7_undo : Cond.instanceMethod yX7_undo ∈ zT := zw_of _ 1234 (by decide +kernel) (by decide +kernel)
theorem ws_X7_undo : Cond.selects RX7 yX7_undo yX7_undo ∈ zT := zw_of _ 1235 (by decide +kernel) (by decide +kernel)
theorem ml_L_179 : Cond.methodLink RL 179 yX8_undo ∈ zT := zw_of _ 2036 (by decide +kernel) (by decide +kernel)
theorem cd_X8_undo : Cond.code yX8_undo cX8_undo 1 (some .int) ∈ zT := zw_of _ 2039 (by decide +kernel) (by decide +kernel)
theorem cw_L_179 : zCw RL 179 yX8_undo cX8_undo 1 (some .int) 0 := ⟨ml_L_179, ni_X8, cd_X8_undo, by decide, by decide, by decide +kernel⟩
theorem wi_X8_undo : Cond.instanceMethod yX8_undo ∈ zT := zw_of _ 2037 (by decide +kernel) (by decide +kernel)
theorem ws_X8_undo : Cond.selects RX8 yX8_undo yX8_undo ∈ zT := zw_of _ 2038 (by decide +kernel) (by decide +kernel)
theorem ml_L_180 : Cond.methodLink RL 180 yX7_keep ∈ zT := zw_of _ 1241 (by decide +kernel) (by decide +kernel)
theorem cd_X7_keep : Cond.code yX7_keep cX7_keep 1 (some .int) ∈ zT := zw_of _ 1244 (by decide +kernel) (by decide +kernel)
theorem cw_L_180 : zCw RL 180 yX7_keep cX7_keep 1 (some .int) 0 := ⟨ml_L_180, ni_X7, cd_X7_keep, by decide, by decide, by decide +kernel⟩
theorem wi_X7_keep : Cond.instanceMethod yX7_keep ∈ zT := zw_of _ 1242 (by decide +kernel) (by decide +kernel)
theorem ws_X7_keep : Cond.selects RX7 yX7_keep yX7_keep ∈ zT := zw_of _ 1243 (by decide +kernel) (by decide +kernel)
theorem ml_L_183 : Cond.methodLink RL 183 yX8_keep ∈ zT := zw_of _ 2040 (by decide +kernel) (by decide +kernel)
theorem cd_X8_keep : Cond.code yX8_keep cX8_keep 1 (some .int) ∈ zT := zw_of _ 2043 (by decide +kernel) (by decide +kernel)
theorem cw_L_183 : zCw RL 183 yX8_keep cX8_keep 1 (some .int) 0 := ⟨ml_L_183, ni_X8, cd_X8_keep, by decide, by decide, by decide +kernel⟩
theorem wi_X8_keep : Cond.instanceMethod yX8_keep ∈ zT := zw_of _ 2041 (by decide +kernel) (by decide +kernel)
theorem ws_X8_keep : Cond.selects RX8 yX8_keep yX8_keep ∈ zT := zw_of _ 2042 (by decide +kernel) (by decide +kernel)
theorem ml_L_184 : Cond.methodLink RL 184 yX7_back ∈ zT := zw_of _ 1246 (by decide +kernel) (by decide +kernel)
theorem cd_X7_back : Cond.code yX7_back cX7_back 1 (some .int) ∈ zT := zw_of _ 1249 (by decide +kernel) (by decide +kernel)
theorem cw_L_184 : zCw RL 184 yX7_back cX7_back 1 (some .int) 0 := ⟨ml_L_184, ni_X7, cd_X7_back, by decide, by decide, by decide +kernel⟩
theorem wi_X7_back : Cond.instanceMethod yX7_back ∈ zT := zw_of _ 1247 (by decide +kernel) (by decide +kernel)
theorem ws_X7_back : Cond.selects RX7 yX7_back yX7_back ∈ zT := zw_of _ 1248 (by decide +kernel) (by decide +kernel)
theorem ml_L_187 : Cond.methodLink RL 187 yX8_back ∈ zT := zw_of _ 2044 (by decide +kernel) (by decide +kernel)
theorem cd_X8_back : Cond.code yX8_back cX8_back 1 (some .int) ∈ zT := zw_of _ 2047 (by decide +kernel) (by decide +kernel)
theorem cw_L_187 : zCw RL 187 yX8_back cX8_back 1 (some .int) 0 := ⟨ml_L_187, ni_X8, cd_X8_back, by decide, by decide, by decide +kernel⟩
theorem wi_X8_back : Cond.instanceMethod yX8_back ∈ zT := zw_of _ 2045 (by decide +kernel) (by decide +kernel)
theorem ws_X8_back : Cond.selects RX8 yX8_back yX8_back ∈ zT := zw_of _ 2046 (by decide +kernel) (by decide +kernel)
theorem ml_L_188 : Cond.methodLink RL 188 yX7_count ∈ zT := zw_of _ 1250 (by decide +kernel) (by decide +kernel)
theorem cd_X7_count : Cond.code yX7_count cX7_count 2 (some .int) ∈ zT := zw_of _ 1253 (by decide +kernel) (by decide +kernel)
theorem cw_L_188 : zCw RL 188 yX7_count cX7_count 2 (some .int) 1 := ⟨ml_L_188, ni_X7, cd_X7_count, by decide, by decide, by decide +kernel⟩
theorem wi_X7_count : Cond.instanceMethod yX7_count ∈ zT := zw_of _ 1251 (by decide +kernel) (by decide +kernel)
theorem ws_X7_count : Cond.selects RX7 yX7_count yX7_count ∈ zT := zw_of _ 1252 (by decide +kernel) (by decide +kernel)
theorem ml_L_191 : Cond.methodLink RL 191 yX8_count ∈ zT := zw_of _ 2048 (by decide +kernel) (by decide +kernel)
theorem cd_X8_count : Cond.code yX8_count cX8_count 2 (some .int) ∈ zT := zw_of _ 2051 (by decide +kernel) (by decide +kernel)
theorem cw_L_191 : zCw RL 191 yX8_count cX8_count 2 (some .int) 1 := ⟨ml_L_191, ni_X8, cd_X8_count, by decide, by decide, by decide +kernel⟩
theorem wi_X8_count : Cond.instanceMethod yX8_count ∈ zT := zw_of _ 2049 (by decide +kernel) (by decide +kernel)
theorem ws_X8_count : Cond.selects RX8 yX8_count yX8_count ∈ zT := zw_of _ 2050 (by decide +kernel) (by decide +kernel)
abbrev M_L_law : zMt := (RL, cL_law, 7, 2048, 84000, (some .boolean), "law", 601024, 7293034)
def zsc (L : Nat) (xs : Nat → Int32) (i : Int32) : Option Int32 := if i < 0 ∨ L ≤ i.toNatClampNeg then none else some (xs i.toNatClampNeg)
def zScr (X : zCx) (b L : Nat) (xs : Nat → Int32) : Prop := match X with
  | (_, _, _, _, s, _, _, _, _, _, g, _) => va_X b L xs s s.heap ∧ b < s.heap.size ∧ b < g.2.2.1
theorem zg_sld {α : Type} {X : zCx} {M : zMt} {cs : Nat × Nat} {pc pc' : Nat} {lv : List (Nat × Value)} {st : List Value} {h : zHp} {K : α → zHp → Prop} {b L : Nat} {xs : Nat → Int32} {i : Int32} {f : Int32 → Option (α × zHp)} (hX : zScr X b L xs) (hd : zDc M pc .iaload 1 pc') (k : ∀ v : Int32, zG X M cs pc' lv (.int v :: st) h (f v) K) : zG X M cs pc lv (.int i :: .ref b :: st) h (zob (zsc L xs i) f) K := by
  obtain ⟨hd, rfl⟩ := hd
  obtain ⟨p, l, e, R, s, m, args, below, meth, cd, g, Qc⟩ := X
  intro a h' hc hK hok ls H locs hv hR hS
  by_cases hin : i < 0 ∨ L ≤ i.toNatClampNeg
  · rw [show zsc L xs i = none by simp only [zsc]; rw [if_pos hin]] at hc
    cases hc
  · rw [show zsc L xs i = some (xs i.toNatClampNeg) by simp only [zsc]; rw [if_neg hin]] at hc
    obtain ⟨hx, hbc, hml, hown, hts, hE, -⟩ := id hok
    exact va_sld hx hbc hX.1 hX.2.1 (Nat.not_le.mpr hX.2.2) hS hin hd (k _ a h' hc hK hok ls H locs hv hR hS)
theorem d_L_law_212 : zDc M_L_law 212 (.aload_n 1) 1 213 := ⟨by decide +kernel, rfl⟩
theorem d_L_law_213 : zDc M_L_law 213 (.aload_n 0) 1 214 := ⟨by decide +kernel, rfl⟩
theorem d_L_law_214 : zDc M_L_law 214 (.iload 4) 2 216 := ⟨by decide +kernel, rfl⟩
theorem d_L_law_216 : zDc M_L_law 216 (.iconst 1) 1 217 := ⟨by decide +kernel, rfl⟩
theorem d_L_law_217 : zDc M_L_law 217 (.iadd) 1 218 := ⟨by decide +kernel, rfl⟩
theorem d_L_law_218 : zDc M_L_law 218 (.iaload) 1 219 := ⟨by decide +kernel, rfl⟩
theorem d_L_law_219 : zDc M_L_law 219 (.aload_n 0) 1 220 := ⟨by decide +kernel, rfl⟩
theorem d_L_law_220 : zDc M_L_law 220 (.iload 4) 2 222 := ⟨by decide +kernel, rfl⟩
theorem d_L_law_222 : zDc M_L_law 222 (.iconst 2) 1 223 := ⟨by decide +kernel, rfl⟩
theorem d_L_law_223 : zDc M_L_law 223 (.iadd) 1 224 := ⟨by decide +kernel, rfl⟩
theorem d_L_law_224 : zDc M_L_law 224 (.iaload) 1 225 := ⟨by decide +kernel, rfl⟩
theorem d_L_law_225 : zDc M_L_law 225 (.aload_n 0) 1 226 := ⟨by decide +kernel, rfl⟩
theorem d_L_law_226 : zDc M_L_law 226 (.iload 4) 2 228 := ⟨by decide +kernel, rfl⟩
theorem d_L_law_228 : zDc M_L_law 228 (.iconst 3) 1 229 := ⟨by decide +kernel, rfl⟩
theorem d_L_law_229 : zDc M_L_law 229 (.iadd) 1 230 := ⟨by decide +kernel, rfl⟩
theorem d_L_law_230 : zDc M_L_law 230 (.iaload) 1 231 := ⟨by decide +kernel, rfl⟩
theorem d_L_law_231 : zDc M_L_law 231 (.aload_n 0) 1 232 := ⟨by decide +kernel, rfl⟩
theorem d_L_law_232 : zDc M_L_law 232 (.iload 4) 2 234 := ⟨by decide +kernel, rfl⟩
theorem d_L_law_234 : zDc M_L_law 234 (.iconst 4) 1 235 := ⟨by decide +kernel, rfl⟩
theorem d_L_law_235 : zDc M_L_law 235 (.iadd) 1 236 := ⟨by decide +kernel, rfl⟩
theorem d_L_law_236 : zDc M_L_law 236 (.iaload) 1 237 := ⟨by decide +kernel, rfl⟩
theorem d_L_law_237 : zDc M_L_law 237 (.aload_n 0) 1 238 := ⟨by decide +kernel, rfl⟩
theorem d_L_law_238 : zDc M_L_law 238 (.iload 4) 2 240 := ⟨by decide +kernel, rfl⟩
theorem d_L_law_240 : zDc M_L_law 240 (.iconst 5) 1 241 := ⟨by decide +kernel, rfl⟩
theorem d_L_law_241 : zDc M_L_law 241 (.iadd) 1 242 := ⟨by decide +kernel, rfl⟩
theorem d_L_law_242 : zDc M_L_law 242 (.iaload) 1 243 := ⟨by decide +kernel, rfl⟩
theorem d_L_law_243 : zDc M_L_law 243 (.invokevirtual 21) 3 246 := ⟨by decide +kernel, rfl⟩
theorem d_L_law_246 : zDc M_L_law 246 (.aload_n 2) 1 247 := ⟨by decide +kernel, rfl⟩
theorem d_L_law_247 : zDc M_L_law 247 (.aload_n 0) 1 248 := ⟨by decide +kernel, rfl⟩
theorem d_L_law_248 : zDc M_L_law 248 (.iload 4) 2 250 := ⟨by decide +kernel, rfl⟩
theorem d_L_law_250 : zDc M_L_law 250 (.iconst 1) 1 251 := ⟨by decide +kernel, rfl⟩
theorem d_L_law_251 : zDc M_L_law 251 (.iadd) 1 252 := ⟨by decide +kernel, rfl⟩
theorem d_L_law_252 : zDc M_L_law 252 (.iaload) 1 253 := ⟨by decide +kernel, rfl⟩
theorem d_L_law_253 : zDc M_L_law 253 (.aload_n 0) 1 254 := ⟨by decide +kernel, rfl⟩
theorem d_L_law_254 : zDc M_L_law 254 (.iload 4) 2 256 := ⟨by decide +kernel, rfl⟩
theorem d_L_law_256 : zDc M_L_law 256 (.iconst 2) 1 257 := ⟨by decide +kernel, rfl⟩
theorem d_L_law_257 : zDc M_L_law 257 (.iadd) 1 258 := ⟨by decide +kernel, rfl⟩
theorem d_L_law_258 : zDc M_L_law 258 (.iaload) 1 259 := ⟨by decide +kernel, rfl⟩
theorem d_L_law_259 : zDc M_L_law 259 (.aload_n 0) 1 260 := ⟨by decide +kernel, rfl⟩
theorem d_L_law_260 : zDc M_L_law 260 (.iload 4) 2 262 := ⟨by decide +kernel, rfl⟩
theorem d_L_law_262 : zDc M_L_law 262 (.iconst 3) 1 263 := ⟨by decide +kernel, rfl⟩
theorem d_L_law_263 : zDc M_L_law 263 (.iadd) 1 264 := ⟨by decide +kernel, rfl⟩
theorem d_L_law_264 : zDc M_L_law 264 (.iaload) 1 265 := ⟨by decide +kernel, rfl⟩
theorem d_L_law_265 : zDc M_L_law 265 (.aload_n 0) 1 266 := ⟨by decide +kernel, rfl⟩
theorem d_L_law_266 : zDc M_L_law 266 (.iload 4) 2 268 := ⟨by decide +kernel, rfl⟩
theorem d_L_law_268 : zDc M_L_law 268 (.iconst 4) 1 269 := ⟨by decide +kernel, rfl⟩
theorem d_L_law_269 : zDc M_L_law 269 (.iadd) 1 270 := ⟨by decide +kernel, rfl⟩
theorem d_L_law_270 : zDc M_L_law 270 (.iaload) 1 271 := ⟨by decide +kernel, rfl⟩
theorem d_L_law_271 : zDc M_L_law 271 (.aload_n 0) 1 272 := ⟨by decide +kernel, rfl⟩
theorem d_L_law_272 : zDc M_L_law 272 (.iload 4) 2 274 := ⟨by decide +kernel, rfl⟩
theorem d_L_law_274 : zDc M_L_law 274 (.iconst 5) 1 275 := ⟨by decide +kernel, rfl⟩
theorem d_L_law_275 : zDc M_L_law 275 (.iadd) 1 276 := ⟨by decide +kernel, rfl⟩
theorem d_L_law_276 : zDc M_L_law 276 (.iaload) 1 277 := ⟨by decide +kernel, rfl⟩
theorem d_L_law_277 : zDc M_L_law 277 (.invokevirtual 25) 3 280 := ⟨by decide +kernel, rfl⟩
theorem d_L_law_280 : zDj M_L_law 280 (.if_icmp .eq 1315) 1315 283 1595 := ⟨by decide +kernel, rfl, by decide⟩
theorem d_L_law_283 : zDc M_L_law 283 (.iconst 0) 1 284 := ⟨by decide +kernel, rfl⟩
theorem d_L_law_284 : zDc M_L_law 284 (.ireturn) 1 285 := ⟨by decide +kernel, rfl⟩
theorem d_L_law_285 : zDc M_L_law 285 (.aload_n 1) 1 286 := ⟨by decide +kernel, rfl⟩
theorem d_L_law_286 : zDc M_L_law 286 (.aload_n 0) 1 287 := ⟨by decide +kernel, rfl⟩
theorem d_L_law_287 : zDc M_L_law 287 (.iload 4) 2 289 := ⟨by decide +kernel, rfl⟩
theorem d_L_law_289 : zDc M_L_law 289 (.iconst 1) 1 290 := ⟨by decide +kernel, rfl⟩
theorem d_L_law_290 : zDc M_L_law 290 (.iadd) 1 291 := ⟨by decide +kernel, rfl⟩
theorem d_L_law_291 : zDc M_L_law 291 (.iaload) 1 292 := ⟨by decide +kernel, rfl⟩
theorem d_L_law_292 : zDc M_L_law 292 (.invokevirtual 26) 3 295 := ⟨by decide +kernel, rfl⟩
theorem d_L_law_295 : zDc M_L_law 295 (.aload_n 2) 1 296 := ⟨by decide +kernel, rfl⟩
theorem d_L_law_296 : zDc M_L_law 296 (.aload_n 0) 1 297 := ⟨by decide +kernel, rfl⟩
theorem d_L_law_297 : zDc M_L_law 297 (.iload 4) 2 299 := ⟨by decide +kernel, rfl⟩
theorem d_L_law_299 : zDc M_L_law 299 (.iconst 1) 1 300 := ⟨by decide +kernel, rfl⟩
theorem d_L_law_300 : zDc M_L_law 300 (.iadd) 1 301 := ⟨by decide +kernel, rfl⟩
theorem d_L_law_301 : zDc M_L_law 301 (.iaload) 1 302 := ⟨by decide +kernel, rfl⟩
theorem d_L_law_302 : zDc M_L_law 302 (.invokevirtual 30) 3 305 := ⟨by decide +kernel, rfl⟩
theorem d_L_law_305 : zDj M_L_law 305 (.if_icmp .eq 1290) 1290 308 1595 := ⟨by decide +kernel, rfl, by decide⟩
theorem d_L_law_308 : zDc M_L_law 308 (.iconst 0) 1 309 := ⟨by decide +kernel, rfl⟩
theorem d_L_law_309 : zDc M_L_law 309 (.ireturn) 1 310 := ⟨by decide +kernel, rfl⟩
theorem d_L_law_310 : zDc M_L_law 310 (.aload_n 1) 1 311 := ⟨by decide +kernel, rfl⟩
theorem d_L_law_311 : zDc M_L_law 311 (.aload_n 0) 1 312 := ⟨by decide +kernel, rfl⟩
theorem d_L_law_312 : zDc M_L_law 312 (.iload 4) 2 314 := ⟨by decide +kernel, rfl⟩
theorem d_L_law_314 : zDc M_L_law 314 (.iconst 1) 1 315 := ⟨by decide +kernel, rfl⟩
theorem d_L_law_315 : zDc M_L_law 315 (.iadd) 1 316 := ⟨by decide +kernel, rfl⟩
theorem d_L_law_316 : zDc M_L_law 316 (.iaload) 1 317 := ⟨by decide +kernel, rfl⟩
theorem d_L_law_317 : zDc M_L_law 317 (.invokevirtual 31) 3 320 := ⟨by decide +kernel, rfl⟩
theorem d_L_law_320 : zDc M_L_law 320 (.aload_n 2) 1 321 := ⟨by decide +kernel, rfl⟩
theorem d_L_law_321 : zDc M_L_law 321 (.aload_n 0) 1 322 := ⟨by decide +kernel, rfl⟩
theorem d_L_law_322 : zDc M_L_law 322 (.iload 4) 2 324 := ⟨by decide +kernel, rfl⟩
theorem d_L_law_324 : zDc M_L_law 324 (.iconst 1) 1 325 := ⟨by decide +kernel, rfl⟩
theorem d_L_law_325 : zDc M_L_law 325 (.iadd) 1 326 := ⟨by decide +kernel, rfl⟩
theorem d_L_law_326 : zDc M_L_law 326 (.iaload) 1 327 := ⟨by decide +kernel, rfl⟩
theorem d_L_law_327 : zDc M_L_law 327 (.invokevirtual 34) 3 330 := ⟨by decide +kernel, rfl⟩
theorem d_L_law_330 : zDj M_L_law 330 (.if_icmp .eq 1265) 1265 333 1595 := ⟨by decide +kernel, rfl, by decide⟩
theorem d_L_law_333 : zDc M_L_law 333 (.iconst 0) 1 334 := ⟨by decide +kernel, rfl⟩
theorem d_L_law_334 : zDc M_L_law 334 (.ireturn) 1 335 := ⟨by decide +kernel, rfl⟩
theorem d_L_law_335 : zDc M_L_law 335 (.aload_n 1) 1 336 := ⟨by decide +kernel, rfl⟩
theorem d_L_law_336 : zDc M_L_law 336 (.aload_n 0) 1 337 := ⟨by decide +kernel, rfl⟩
theorem d_L_law_337 : zDc M_L_law 337 (.iload 4) 2 339 := ⟨by decide +kernel, rfl⟩
theorem d_L_law_339 : zDc M_L_law 339 (.iconst 1) 1 340 := ⟨by decide +kernel, rfl⟩
theorem d_L_law_340 : zDc M_L_law 340 (.iadd) 1 341 := ⟨by decide +kernel, rfl⟩
theorem d_L_law_341 : zDc M_L_law 341 (.iaload) 1 342 := ⟨by decide +kernel, rfl⟩
theorem d_L_law_342 : zDc M_L_law 342 (.aload_n 0) 1 343 := ⟨by decide +kernel, rfl⟩
theorem d_L_law_343 : zDc M_L_law 343 (.iload 4) 2 345 := ⟨by decide +kernel, rfl⟩
theorem d_L_law_345 : zDc M_L_law 345 (.iconst 2) 1 346 := ⟨by decide +kernel, rfl⟩
theorem d_L_law_346 : zDc M_L_law 346 (.iadd) 1 347 := ⟨by decide +kernel, rfl⟩
theorem d_L_law_347 : zDc M_L_law 347 (.iaload) 1 348 := ⟨by decide +kernel, rfl⟩
theorem d_L_law_348 : zDc M_L_law 348 (.invokevirtual 35) 3 351 := ⟨by decide +kernel, rfl⟩
theorem d_L_law_351 : zDc M_L_law 351 (.aload_n 2) 1 352 := ⟨by decide +kernel, rfl⟩
theorem d_L_law_352 : zDc M_L_law 352 (.aload_n 0) 1 353 := ⟨by decide +kernel, rfl⟩
theorem d_L_law_353 : zDc M_L_law 353 (.iload 4) 2 355 := ⟨by decide +kernel, rfl⟩
theorem d_L_law_355 : zDc M_L_law 355 (.iconst 1) 1 356 := ⟨by decide +kernel, rfl⟩
theorem d_L_law_356 : zDc M_L_law 356 (.iadd) 1 357 := ⟨by decide +kernel, rfl⟩
theorem d_L_law_357 : zDc M_L_law 357 (.iaload) 1 358 := ⟨by decide +kernel, rfl⟩
theorem d_L_law_358 : zDc M_L_law 358 (.aload_n 0) 1 359 := ⟨by decide +kernel, rfl⟩
theorem d_L_law_359 : zDc M_L_law 359 (.iload 4) 2 361 := ⟨by decide +kernel, rfl⟩
theorem d_L_law_361 : zDc M_L_law 361 (.iconst 2) 1 362 := ⟨by decide +kernel, rfl⟩
theorem d_L_law_362 : zDc M_L_law 362 (.iadd) 1 363 := ⟨by decide +kernel, rfl⟩
theorem d_L_law_363 : zDc M_L_law 363 (.iaload) 1 364 := ⟨by decide +kernel, rfl⟩
theorem d_L_law_364 : zDc M_L_law 364 (.invokevirtual 38) 3 367 := ⟨by decide +kernel, rfl⟩
theorem d_L_law_367 : zDj M_L_law 367 (.if_icmp .eq 1228) 1228 370 1595 := ⟨by decide +kernel, rfl, by decide⟩
theorem d_L_law_370 : zDc M_L_law 370 (.iconst 0) 1 371 := ⟨by decide +kernel, rfl⟩
theorem d_L_law_371 : zDc M_L_law 371 (.ireturn) 1 372 := ⟨by decide +kernel, rfl⟩
theorem d_L_law_440 : zDc M_L_law 440 (.aload_n 1) 1 441 := ⟨by decide +kernel, rfl⟩
theorem d_L_law_441 : zDc M_L_law 441 (.aload_n 0) 1 442 := ⟨by decide +kernel, rfl⟩
theorem d_L_law_442 : zDc M_L_law 442 (.iload 4) 2 444 := ⟨by decide +kernel, rfl⟩
theorem d_L_law_444 : zDc M_L_law 444 (.iconst 1) 1 445 := ⟨by decide +kernel, rfl⟩
theorem d_L_law_445 : zDc M_L_law 445 (.iadd) 1 446 := ⟨by decide +kernel, rfl⟩
theorem d_L_law_446 : zDc M_L_law 446 (.iaload) 1 447 := ⟨by decide +kernel, rfl⟩
theorem d_L_law_447 : zDc M_L_law 447 (.aload_n 0) 1 448 := ⟨by decide +kernel, rfl⟩
theorem d_L_law_448 : zDc M_L_law 448 (.iload 4) 2 450 := ⟨by decide +kernel, rfl⟩
theorem d_L_law_450 : zDc M_L_law 450 (.iconst 2) 1 451 := ⟨by decide +kernel, rfl⟩
theorem d_L_law_451 : zDc M_L_law 451 (.iadd) 1 452 := ⟨by decide +kernel, rfl⟩
theorem d_L_law_452 : zDc M_L_law 452 (.iaload) 1 453 := ⟨by decide +kernel, rfl⟩
theorem d_L_law_453 : zDc M_L_law 453 (.invokevirtual 49) 3 456 := ⟨by decide +kernel, rfl⟩
theorem d_L_law_456 : zDc M_L_law 456 (.aload_n 2) 1 457 := ⟨by decide +kernel, rfl⟩
theorem d_L_law_457 : zDc M_L_law 457 (.aload_n 0) 1 458 := ⟨by decide +kernel, rfl⟩
theorem d_L_law_458 : zDc M_L_law 458 (.iload 4) 2 460 := ⟨by decide +kernel, rfl⟩
theorem d_L_law_460 : zDc M_L_law 460 (.iconst 1) 1 461 := ⟨by decide +kernel, rfl⟩
theorem d_L_law_461 : zDc M_L_law 461 (.iadd) 1 462 := ⟨by decide +kernel, rfl⟩
theorem d_L_law_462 : zDc M_L_law 462 (.iaload) 1 463 := ⟨by decide +kernel, rfl⟩
theorem d_L_law_463 : zDc M_L_law 463 (.aload_n 0) 1 464 := ⟨by decide +kernel, rfl⟩
theorem d_L_law_464 : zDc M_L_law 464 (.iload 4) 2 466 := ⟨by decide +kernel, rfl⟩
theorem d_L_law_466 : zDc M_L_law 466 (.iconst 2) 1 467 := ⟨by decide +kernel, rfl⟩
theorem d_L_law_467 : zDc M_L_law 467 (.iadd) 1 468 := ⟨by decide +kernel, rfl⟩
theorem d_L_law_468 : zDc M_L_law 468 (.iaload) 1 469 := ⟨by decide +kernel, rfl⟩
theorem d_L_law_469 : zDc M_L_law 469 (.invokevirtual 52) 3 472 := ⟨by decide +kernel, rfl⟩
theorem d_L_law_472 : zDj M_L_law 472 (.if_icmp .eq 1123) 1123 475 1595 := ⟨by decide +kernel, rfl, by decide⟩
theorem d_L_law_475 : zDc M_L_law 475 (.iconst 0) 1 476 := ⟨by decide +kernel, rfl⟩
theorem d_L_law_476 : zDc M_L_law 476 (.ireturn) 1 477 := ⟨by decide +kernel, rfl⟩
theorem d_L_law_477 : zDc M_L_law 477 (.aload_n 1) 1 478 := ⟨by decide +kernel, rfl⟩
theorem d_L_law_478 : zDc M_L_law 478 (.aload_n 0) 1 479 := ⟨by decide +kernel, rfl⟩
theorem d_L_law_479 : zDc M_L_law 479 (.iload 4) 2 481 := ⟨by decide +kernel, rfl⟩
theorem d_L_law_481 : zDc M_L_law 481 (.iconst 1) 1 482 := ⟨by decide +kernel, rfl⟩
theorem d_L_law_482 : zDc M_L_law 482 (.iadd) 1 483 := ⟨by decide +kernel, rfl⟩
theorem d_L_law_483 : zDc M_L_law 483 (.iaload) 1 484 := ⟨by decide +kernel, rfl⟩
theorem d_L_law_484 : zDc M_L_law 484 (.aload_n 0) 1 485 := ⟨by decide +kernel, rfl⟩
theorem d_L_law_485 : zDc M_L_law 485 (.iload 4) 2 487 := ⟨by decide +kernel, rfl⟩
theorem d_L_law_487 : zDc M_L_law 487 (.iconst 2) 1 488 := ⟨by decide +kernel, rfl⟩
theorem d_L_law_488 : zDc M_L_law 488 (.iadd) 1 489 := ⟨by decide +kernel, rfl⟩
theorem d_L_law_489 : zDc M_L_law 489 (.iaload) 1 490 := ⟨by decide +kernel, rfl⟩
theorem d_L_law_490 : zDc M_L_law 490 (.invokevirtual 53) 3 493 := ⟨by decide +kernel, rfl⟩
theorem d_L_law_493 : zDc M_L_law 493 (.aload_n 2) 1 494 := ⟨by decide +kernel, rfl⟩
theorem d_L_law_494 : zDc M_L_law 494 (.aload_n 0) 1 495 := ⟨by decide +kernel, rfl⟩
theorem d_L_law_495 : zDc M_L_law 495 (.iload 4) 2 497 := ⟨by decide +kernel, rfl⟩
theorem d_L_law_497 : zDc M_L_law 497 (.iconst 1) 1 498 := ⟨by decide +kernel, rfl⟩
theorem d_L_law_498 : zDc M_L_law 498 (.iadd) 1 499 := ⟨by decide +kernel, rfl⟩
theorem d_L_law_499 : zDc M_L_law 499 (.iaload) 1 500 := ⟨by decide +kernel, rfl⟩
theorem d_L_law_500 : zDc M_L_law 500 (.aload_n 0) 1 501 := ⟨by decide +kernel, rfl⟩
theorem d_L_law_501 : zDc M_L_law 501 (.iload 4) 2 503 := ⟨by decide +kernel, rfl⟩
theorem d_L_law_503 : zDc M_L_law 503 (.iconst 2) 1 504 := ⟨by decide +kernel, rfl⟩
theorem d_L_law_504 : zDc M_L_law 504 (.iadd) 1 505 := ⟨by decide +kernel, rfl⟩
theorem d_L_law_505 : zDc M_L_law 505 (.iaload) 1 506 := ⟨by decide +kernel, rfl⟩
theorem d_L_law_506 : zDc M_L_law 506 (.invokevirtual 56) 3 509 := ⟨by decide +kernel, rfl⟩
theorem d_L_law_509 : zDj M_L_law 509 (.if_icmp .eq 1086) 1086 512 1595 := ⟨by decide +kernel, rfl, by decide⟩
theorem d_L_law_512 : zDc M_L_law 512 (.iconst 0) 1 513 := ⟨by decide +kernel, rfl⟩
theorem d_L_law_513 : zDc M_L_law 513 (.ireturn) 1 514 := ⟨by decide +kernel, rfl⟩
theorem d_L_law_514 : zDc M_L_law 514 (.aload_n 1) 1 515 := ⟨by decide +kernel, rfl⟩
theorem d_L_law_515 : zDc M_L_law 515 (.aload_n 0) 1 516 := ⟨by decide +kernel, rfl⟩
theorem d_L_law_516 : zDc M_L_law 516 (.iload 4) 2 518 := ⟨by decide +kernel, rfl⟩
theorem d_L_law_518 : zDc M_L_law 518 (.iconst 1) 1 519 := ⟨by decide +kernel, rfl⟩
theorem d_L_law_519 : zDc M_L_law 519 (.iadd) 1 520 := ⟨by decide +kernel, rfl⟩
theorem d_L_law_520 : zDc M_L_law 520 (.iaload) 1 521 := ⟨by decide +kernel, rfl⟩
theorem d_L_law_521 : zDc M_L_law 521 (.aload_n 0) 1 522 := ⟨by decide +kernel, rfl⟩
theorem d_L_law_522 : zDc M_L_law 522 (.iload 4) 2 524 := ⟨by decide +kernel, rfl⟩
theorem d_L_law_524 : zDc M_L_law 524 (.iconst 2) 1 525 := ⟨by decide +kernel, rfl⟩
theorem d_L_law_525 : zDc M_L_law 525 (.iadd) 1 526 := ⟨by decide +kernel, rfl⟩
theorem d_L_law_526 : zDc M_L_law 526 (.iaload) 1 527 := ⟨by decide +kernel, rfl⟩
theorem d_L_law_527 : zDc M_L_law 527 (.invokevirtual 57) 3 530 := ⟨by decide +kernel, rfl⟩
theorem d_L_law_530 : zDc M_L_law 530 (.aload_n 2) 1 531 := ⟨by decide +kernel, rfl⟩
theorem d_L_law_531 : zDc M_L_law 531 (.aload_n 0) 1 532 := ⟨by decide +kernel, rfl⟩
theorem d_L_law_532 : zDc M_L_law 532 (.iload 4) 2 534 := ⟨by decide +kernel, rfl⟩
theorem d_L_law_534 : zDc M_L_law 534 (.iconst 1) 1 535 := ⟨by decide +kernel, rfl⟩
theorem d_L_law_535 : zDc M_L_law 535 (.iadd) 1 536 := ⟨by decide +kernel, rfl⟩
theorem d_L_law_536 : zDc M_L_law 536 (.iaload) 1 537 := ⟨by decide +kernel, rfl⟩
theorem d_L_law_537 : zDc M_L_law 537 (.aload_n 0) 1 538 := ⟨by decide +kernel, rfl⟩
theorem d_L_law_538 : zDc M_L_law 538 (.iload 4) 2 540 := ⟨by decide +kernel, rfl⟩
theorem d_L_law_540 : zDc M_L_law 540 (.iconst 2) 1 541 := ⟨by decide +kernel, rfl⟩
theorem d_L_law_541 : zDc M_L_law 541 (.iadd) 1 542 := ⟨by decide +kernel, rfl⟩
theorem d_L_law_542 : zDc M_L_law 542 (.iaload) 1 543 := ⟨by decide +kernel, rfl⟩
theorem d_L_law_543 : zDc M_L_law 543 (.invokevirtual 60) 3 546 := ⟨by decide +kernel, rfl⟩
theorem d_L_law_546 : zDj M_L_law 546 (.if_icmp .eq 1049) 1049 549 1595 := ⟨by decide +kernel, rfl, by decide⟩
theorem d_L_law_549 : zDc M_L_law 549 (.iconst 0) 1 550 := ⟨by decide +kernel, rfl⟩
theorem d_L_law_550 : zDc M_L_law 550 (.ireturn) 1 551 := ⟨by decide +kernel, rfl⟩
theorem d_L_law_551 : zDc M_L_law 551 (.aload_n 1) 1 552 := ⟨by decide +kernel, rfl⟩
theorem d_L_law_552 : zDc M_L_law 552 (.aload_n 0) 1 553 := ⟨by decide +kernel, rfl⟩
theorem d_L_law_553 : zDc M_L_law 553 (.iload 4) 2 555 := ⟨by decide +kernel, rfl⟩
theorem d_L_law_555 : zDc M_L_law 555 (.iconst 1) 1 556 := ⟨by decide +kernel, rfl⟩
theorem d_L_law_556 : zDc M_L_law 556 (.iadd) 1 557 := ⟨by decide +kernel, rfl⟩
theorem d_L_law_557 : zDc M_L_law 557 (.iaload) 1 558 := ⟨by decide +kernel, rfl⟩
theorem d_L_law_558 : zDc M_L_law 558 (.invokevirtual 61) 3 561 := ⟨by decide +kernel, rfl⟩
theorem d_L_law_561 : zDc M_L_law 561 (.aload_n 2) 1 562 := ⟨by decide +kernel, rfl⟩
theorem d_L_law_562 : zDc M_L_law 562 (.aload_n 0) 1 563 := ⟨by decide +kernel, rfl⟩
theorem d_L_law_563 : zDc M_L_law 563 (.iload 4) 2 565 := ⟨by decide +kernel, rfl⟩
theorem d_L_law_565 : zDc M_L_law 565 (.iconst 1) 1 566 := ⟨by decide +kernel, rfl⟩
theorem d_L_law_566 : zDc M_L_law 566 (.iadd) 1 567 := ⟨by decide +kernel, rfl⟩
theorem d_L_law_567 : zDc M_L_law 567 (.iaload) 1 568 := ⟨by decide +kernel, rfl⟩
theorem d_L_law_568 : zDc M_L_law 568 (.invokevirtual 64) 3 571 := ⟨by decide +kernel, rfl⟩
theorem d_L_law_571 : zDj M_L_law 571 (.if_icmp .eq 1024) 1024 574 1595 := ⟨by decide +kernel, rfl, by decide⟩
theorem d_L_law_574 : zDc M_L_law 574 (.iconst 0) 1 575 := ⟨by decide +kernel, rfl⟩
theorem d_L_law_575 : zDc M_L_law 575 (.ireturn) 1 576 := ⟨by decide +kernel, rfl⟩
theorem d_L_law_576 : zDc M_L_law 576 (.aload_n 1) 1 577 := ⟨by decide +kernel, rfl⟩
theorem d_L_law_577 : zDc M_L_law 577 (.aload_n 0) 1 578 := ⟨by decide +kernel, rfl⟩
theorem d_L_law_578 : zDc M_L_law 578 (.iload 4) 2 580 := ⟨by decide +kernel, rfl⟩
theorem d_L_law_580 : zDc M_L_law 580 (.iconst 1) 1 581 := ⟨by decide +kernel, rfl⟩
theorem d_L_law_581 : zDc M_L_law 581 (.iadd) 1 582 := ⟨by decide +kernel, rfl⟩
theorem d_L_law_582 : zDc M_L_law 582 (.iaload) 1 583 := ⟨by decide +kernel, rfl⟩
theorem d_L_law_583 : zDc M_L_law 583 (.aload_n 0) 1 584 := ⟨by decide +kernel, rfl⟩
theorem d_L_law_584 : zDc M_L_law 584 (.iload 4) 2 586 := ⟨by decide +kernel, rfl⟩
theorem d_L_law_586 : zDc M_L_law 586 (.iconst 2) 1 587 := ⟨by decide +kernel, rfl⟩
theorem d_L_law_587 : zDc M_L_law 587 (.iadd) 1 588 := ⟨by decide +kernel, rfl⟩
theorem d_L_law_588 : zDc M_L_law 588 (.iaload) 1 589 := ⟨by decide +kernel, rfl⟩
theorem d_L_law_589 : zDc M_L_law 589 (.invokevirtual 65) 3 592 := ⟨by decide +kernel, rfl⟩
theorem d_L_law_592 : zDc M_L_law 592 (.aload_n 2) 1 593 := ⟨by decide +kernel, rfl⟩
theorem d_L_law_593 : zDc M_L_law 593 (.aload_n 0) 1 594 := ⟨by decide +kernel, rfl⟩
theorem d_L_law_594 : zDc M_L_law 594 (.iload 4) 2 596 := ⟨by decide +kernel, rfl⟩
theorem d_L_law_596 : zDc M_L_law 596 (.iconst 1) 1 597 := ⟨by decide +kernel, rfl⟩
theorem d_L_law_597 : zDc M_L_law 597 (.iadd) 1 598 := ⟨by decide +kernel, rfl⟩
theorem d_L_law_598 : zDc M_L_law 598 (.iaload) 1 599 := ⟨by decide +kernel, rfl⟩
theorem d_L_law_599 : zDc M_L_law 599 (.aload_n 0) 1 600 := ⟨by decide +kernel, rfl⟩
theorem d_L_law_600 : zDc M_L_law 600 (.iload 4) 2 602 := ⟨by decide +kernel, rfl⟩
theorem d_L_law_602 : zDc M_L_law 602 (.iconst 2) 1 603 := ⟨by decide +kernel, rfl⟩
theorem d_L_law_603 : zDc M_L_law 603 (.iadd) 1 604 := ⟨by decide +kernel, rfl⟩
theorem d_L_law_604 : zDc M_L_law 604 (.iaload) 1 605 := ⟨by decide +kernel, rfl⟩
theorem d_L_law_605 : zDc M_L_law 605 (.invokevirtual 68) 3 608 := ⟨by decide +kernel, rfl⟩
theorem d_L_law_608 : zDj M_L_law 608 (.if_icmp .eq 987) 987 611 1595 := ⟨by decide +kernel, rfl, by decide⟩
theorem d_L_law_611 : zDc M_L_law 611 (.iconst 0) 1 612 := ⟨by decide +kernel, rfl⟩
theorem d_L_law_612 : zDc M_L_law 612 (.ireturn) 1 613 := ⟨by decide +kernel, rfl⟩
theorem d_L_law_613 : zDc M_L_law 613 (.aload_n 1) 1 614 := ⟨by decide +kernel, rfl⟩
theorem d_L_law_614 : zDc M_L_law 614 (.aload_n 0) 1 615 := ⟨by decide +kernel, rfl⟩
theorem d_L_law_615 : zDc M_L_law 615 (.iload 4) 2 617 := ⟨by decide +kernel, rfl⟩
theorem d_L_law_617 : zDc M_L_law 617 (.iconst 1) 1 618 := ⟨by decide +kernel, rfl⟩
theorem d_L_law_618 : zDc M_L_law 618 (.iadd) 1 619 := ⟨by decide +kernel, rfl⟩
theorem d_L_law_619 : zDc M_L_law 619 (.iaload) 1 620 := ⟨by decide +kernel, rfl⟩
theorem d_L_law_620 : zDc M_L_law 620 (.aload_n 0) 1 621 := ⟨by decide +kernel, rfl⟩
theorem d_L_law_621 : zDc M_L_law 621 (.iload 4) 2 623 := ⟨by decide +kernel, rfl⟩
theorem d_L_law_623 : zDc M_L_law 623 (.iconst 2) 1 624 := ⟨by decide +kernel, rfl⟩
theorem d_L_law_624 : zDc M_L_law 624 (.iadd) 1 625 := ⟨by decide +kernel, rfl⟩
theorem d_L_law_625 : zDc M_L_law 625 (.iaload) 1 626 := ⟨by decide +kernel, rfl⟩
theorem d_L_law_626 : zDc M_L_law 626 (.invokevirtual 69) 3 629 := ⟨by decide +kernel, rfl⟩
theorem d_L_law_629 : zDc M_L_law 629 (.aload_n 2) 1 630 := ⟨by decide +kernel, rfl⟩
theorem d_L_law_630 : zDc M_L_law 630 (.aload_n 0) 1 631 := ⟨by decide +kernel, rfl⟩
theorem d_L_law_631 : zDc M_L_law 631 (.iload 4) 2 633 := ⟨by decide +kernel, rfl⟩
theorem d_L_law_633 : zDc M_L_law 633 (.iconst 1) 1 634 := ⟨by decide +kernel, rfl⟩
theorem d_L_law_634 : zDc M_L_law 634 (.iadd) 1 635 := ⟨by decide +kernel, rfl⟩
theorem d_L_law_635 : zDc M_L_law 635 (.iaload) 1 636 := ⟨by decide +kernel, rfl⟩
theorem d_L_law_636 : zDc M_L_law 636 (.aload_n 0) 1 637 := ⟨by decide +kernel, rfl⟩
theorem d_L_law_637 : zDc M_L_law 637 (.iload 4) 2 639 := ⟨by decide +kernel, rfl⟩
theorem d_L_law_639 : zDc M_L_law 639 (.iconst 2) 1 640 := ⟨by decide +kernel, rfl⟩
theorem d_L_law_640 : zDc M_L_law 640 (.iadd) 1 641 := ⟨by decide +kernel, rfl⟩
theorem d_L_law_641 : zDc M_L_law 641 (.iaload) 1 642 := ⟨by decide +kernel, rfl⟩
theorem d_L_law_642 : zDc M_L_law 642 (.invokevirtual 73) 3 645 := ⟨by decide +kernel, rfl⟩
theorem d_L_law_645 : zDc M_L_law 645 (.lcmp) 1 646 := ⟨by decide +kernel, rfl⟩
theorem d_L_law_646 : zDj M_L_law 646 (.ifCond .eq 949) 949 649 1595 := ⟨by decide +kernel, rfl, by decide⟩
theorem d_L_law_649 : zDc M_L_law 649 (.iconst 0) 1 650 := ⟨by decide +kernel, rfl⟩
theorem d_L_law_650 : zDc M_L_law 650 (.ireturn) 1 651 := ⟨by decide +kernel, rfl⟩
theorem d_L_law_651 : zDc M_L_law 651 (.aload_n 1) 1 652 := ⟨by decide +kernel, rfl⟩
theorem d_L_law_652 : zDc M_L_law 652 (.aload_n 0) 1 653 := ⟨by decide +kernel, rfl⟩
theorem d_L_law_653 : zDc M_L_law 653 (.iload 4) 2 655 := ⟨by decide +kernel, rfl⟩
theorem d_L_law_655 : zDc M_L_law 655 (.iconst 1) 1 656 := ⟨by decide +kernel, rfl⟩
theorem d_L_law_656 : zDc M_L_law 656 (.iadd) 1 657 := ⟨by decide +kernel, rfl⟩
theorem d_L_law_657 : zDc M_L_law 657 (.iaload) 1 658 := ⟨by decide +kernel, rfl⟩
theorem d_L_law_658 : zDc M_L_law 658 (.aload_n 0) 1 659 := ⟨by decide +kernel, rfl⟩
theorem d_L_law_659 : zDc M_L_law 659 (.iload 4) 2 661 := ⟨by decide +kernel, rfl⟩
theorem d_L_law_661 : zDc M_L_law 661 (.iconst 2) 1 662 := ⟨by decide +kernel, rfl⟩
theorem d_L_law_662 : zDc M_L_law 662 (.iadd) 1 663 := ⟨by decide +kernel, rfl⟩
theorem d_L_law_663 : zDc M_L_law 663 (.iaload) 1 664 := ⟨by decide +kernel, rfl⟩
theorem d_L_law_664 : zDc M_L_law 664 (.invokevirtual 74) 3 667 := ⟨by decide +kernel, rfl⟩
theorem d_L_law_667 : zDc M_L_law 667 (.aload_n 2) 1 668 := ⟨by decide +kernel, rfl⟩
theorem d_L_law_668 : zDc M_L_law 668 (.aload_n 0) 1 669 := ⟨by decide +kernel, rfl⟩
theorem d_L_law_669 : zDc M_L_law 669 (.iload 4) 2 671 := ⟨by decide +kernel, rfl⟩
theorem d_L_law_671 : zDc M_L_law 671 (.iconst 1) 1 672 := ⟨by decide +kernel, rfl⟩
theorem d_L_law_672 : zDc M_L_law 672 (.iadd) 1 673 := ⟨by decide +kernel, rfl⟩
theorem d_L_law_673 : zDc M_L_law 673 (.iaload) 1 674 := ⟨by decide +kernel, rfl⟩
theorem d_L_law_674 : zDc M_L_law 674 (.aload_n 0) 1 675 := ⟨by decide +kernel, rfl⟩
theorem d_L_law_675 : zDc M_L_law 675 (.iload 4) 2 677 := ⟨by decide +kernel, rfl⟩
theorem d_L_law_677 : zDc M_L_law 677 (.iconst 2) 1 678 := ⟨by decide +kernel, rfl⟩
theorem d_L_law_678 : zDc M_L_law 678 (.iadd) 1 679 := ⟨by decide +kernel, rfl⟩
theorem d_L_law_679 : zDc M_L_law 679 (.iaload) 1 680 := ⟨by decide +kernel, rfl⟩
theorem d_L_law_680 : zDc M_L_law 680 (.invokevirtual 77) 3 683 := ⟨by decide +kernel, rfl⟩
theorem d_L_law_683 : zDj M_L_law 683 (.if_icmp .eq 912) 912 686 1595 := ⟨by decide +kernel, rfl, by decide⟩
theorem d_L_law_686 : zDc M_L_law 686 (.iconst 0) 1 687 := ⟨by decide +kernel, rfl⟩
theorem d_L_law_687 : zDc M_L_law 687 (.ireturn) 1 688 := ⟨by decide +kernel, rfl⟩
theorem d_L_law_688 : zDc M_L_law 688 (.aload_n 1) 1 689 := ⟨by decide +kernel, rfl⟩
theorem d_L_law_689 : zDc M_L_law 689 (.aload_n 0) 1 690 := ⟨by decide +kernel, rfl⟩
theorem d_L_law_690 : zDc M_L_law 690 (.iload 4) 2 692 := ⟨by decide +kernel, rfl⟩
theorem d_L_law_692 : zDc M_L_law 692 (.iconst 1) 1 693 := ⟨by decide +kernel, rfl⟩
theorem d_L_law_693 : zDc M_L_law 693 (.iadd) 1 694 := ⟨by decide +kernel, rfl⟩
theorem d_L_law_694 : zDc M_L_law 694 (.iaload) 1 695 := ⟨by decide +kernel, rfl⟩
theorem d_L_law_695 : zDc M_L_law 695 (.aload_n 0) 1 696 := ⟨by decide +kernel, rfl⟩
theorem d_L_law_696 : zDc M_L_law 696 (.iload 4) 2 698 := ⟨by decide +kernel, rfl⟩
theorem d_L_law_698 : zDc M_L_law 698 (.iconst 2) 1 699 := ⟨by decide +kernel, rfl⟩
theorem d_L_law_699 : zDc M_L_law 699 (.iadd) 1 700 := ⟨by decide +kernel, rfl⟩
theorem d_L_law_700 : zDc M_L_law 700 (.iaload) 1 701 := ⟨by decide +kernel, rfl⟩
theorem d_L_law_701 : zDc M_L_law 701 (.invokevirtual 78) 3 704 := ⟨by decide +kernel, rfl⟩
theorem d_L_law_704 : zDc M_L_law 704 (.aload_n 2) 1 705 := ⟨by decide +kernel, rfl⟩
theorem d_L_law_705 : zDc M_L_law 705 (.aload_n 0) 1 706 := ⟨by decide +kernel, rfl⟩
theorem d_L_law_706 : zDc M_L_law 706 (.iload 4) 2 708 := ⟨by decide +kernel, rfl⟩
theorem d_L_law_708 : zDc M_L_law 708 (.iconst 1) 1 709 := ⟨by decide +kernel, rfl⟩
theorem d_L_law_709 : zDc M_L_law 709 (.iadd) 1 710 := ⟨by decide +kernel, rfl⟩
theorem d_L_law_710 : zDc M_L_law 710 (.iaload) 1 711 := ⟨by decide +kernel, rfl⟩
theorem d_L_law_711 : zDc M_L_law 711 (.aload_n 0) 1 712 := ⟨by decide +kernel, rfl⟩
theorem d_L_law_712 : zDc M_L_law 712 (.iload 4) 2 714 := ⟨by decide +kernel, rfl⟩
theorem d_L_law_714 : zDc M_L_law 714 (.iconst 2) 1 715 := ⟨by decide +kernel, rfl⟩
theorem d_L_law_715 : zDc M_L_law 715 (.iadd) 1 716 := ⟨by decide +kernel, rfl⟩
theorem d_L_law_716 : zDc M_L_law 716 (.iaload) 1 717 := ⟨by decide +kernel, rfl⟩
theorem d_L_law_717 : zDc M_L_law 717 (.invokevirtual 82) 3 720 := ⟨by decide +kernel, rfl⟩
theorem d_L_law_720 : zDj M_L_law 720 (.if_icmp .eq 875) 875 723 1595 := ⟨by decide +kernel, rfl, by decide⟩
theorem d_L_law_723 : zDc M_L_law 723 (.iconst 0) 1 724 := ⟨by decide +kernel, rfl⟩
theorem d_L_law_724 : zDc M_L_law 724 (.ireturn) 1 725 := ⟨by decide +kernel, rfl⟩
theorem d_L_law_725 : zDc M_L_law 725 (.aload_n 1) 1 726 := ⟨by decide +kernel, rfl⟩
theorem d_L_law_726 : zDc M_L_law 726 (.aload_n 0) 1 727 := ⟨by decide +kernel, rfl⟩
theorem d_L_law_727 : zDc M_L_law 727 (.iload 4) 2 729 := ⟨by decide +kernel, rfl⟩
theorem d_L_law_729 : zDc M_L_law 729 (.iconst 1) 1 730 := ⟨by decide +kernel, rfl⟩
theorem d_L_law_730 : zDc M_L_law 730 (.iadd) 1 731 := ⟨by decide +kernel, rfl⟩
theorem d_L_law_731 : zDc M_L_law 731 (.iaload) 1 732 := ⟨by decide +kernel, rfl⟩
theorem d_L_law_732 : zDc M_L_law 732 (.aload_n 0) 1 733 := ⟨by decide +kernel, rfl⟩
theorem d_L_law_733 : zDc M_L_law 733 (.iload 4) 2 735 := ⟨by decide +kernel, rfl⟩
theorem d_L_law_735 : zDc M_L_law 735 (.iconst 2) 1 736 := ⟨by decide +kernel, rfl⟩
theorem d_L_law_736 : zDc M_L_law 736 (.iadd) 1 737 := ⟨by decide +kernel, rfl⟩
theorem d_L_law_737 : zDc M_L_law 737 (.iaload) 1 738 := ⟨by decide +kernel, rfl⟩
theorem d_L_law_738 : zDc M_L_law 738 (.aload_n 0) 1 739 := ⟨by decide +kernel, rfl⟩
theorem d_L_law_739 : zDc M_L_law 739 (.iload 4) 2 741 := ⟨by decide +kernel, rfl⟩
theorem d_L_law_741 : zDc M_L_law 741 (.iconst 3) 1 742 := ⟨by decide +kernel, rfl⟩
theorem d_L_law_742 : zDc M_L_law 742 (.iadd) 1 743 := ⟨by decide +kernel, rfl⟩
theorem d_L_law_743 : zDc M_L_law 743 (.iaload) 1 744 := ⟨by decide +kernel, rfl⟩
theorem d_L_law_744 : zDc M_L_law 744 (.invokevirtual 83) 3 747 := ⟨by decide +kernel, rfl⟩
theorem d_L_law_747 : zDc M_L_law 747 (.aload_n 2) 1 748 := ⟨by decide +kernel, rfl⟩
theorem d_L_law_748 : zDc M_L_law 748 (.aload_n 0) 1 749 := ⟨by decide +kernel, rfl⟩
theorem d_L_law_749 : zDc M_L_law 749 (.iload 4) 2 751 := ⟨by decide +kernel, rfl⟩
theorem d_L_law_751 : zDc M_L_law 751 (.iconst 1) 1 752 := ⟨by decide +kernel, rfl⟩
theorem d_L_law_752 : zDc M_L_law 752 (.iadd) 1 753 := ⟨by decide +kernel, rfl⟩
theorem d_L_law_753 : zDc M_L_law 753 (.iaload) 1 754 := ⟨by decide +kernel, rfl⟩
theorem d_L_law_754 : zDc M_L_law 754 (.aload_n 0) 1 755 := ⟨by decide +kernel, rfl⟩
theorem d_L_law_755 : zDc M_L_law 755 (.iload 4) 2 757 := ⟨by decide +kernel, rfl⟩
theorem d_L_law_757 : zDc M_L_law 757 (.iconst 2) 1 758 := ⟨by decide +kernel, rfl⟩
theorem d_L_law_758 : zDc M_L_law 758 (.iadd) 1 759 := ⟨by decide +kernel, rfl⟩
theorem d_L_law_759 : zDc M_L_law 759 (.iaload) 1 760 := ⟨by decide +kernel, rfl⟩
theorem d_L_law_760 : zDc M_L_law 760 (.aload_n 0) 1 761 := ⟨by decide +kernel, rfl⟩
theorem d_L_law_761 : zDc M_L_law 761 (.iload 4) 2 763 := ⟨by decide +kernel, rfl⟩
theorem d_L_law_763 : zDc M_L_law 763 (.iconst 3) 1 764 := ⟨by decide +kernel, rfl⟩
theorem d_L_law_764 : zDc M_L_law 764 (.iadd) 1 765 := ⟨by decide +kernel, rfl⟩
theorem d_L_law_765 : zDc M_L_law 765 (.iaload) 1 766 := ⟨by decide +kernel, rfl⟩
theorem d_L_law_766 : zDc M_L_law 766 (.invokevirtual 87) 3 769 := ⟨by decide +kernel, rfl⟩
theorem d_L_law_769 : zDj M_L_law 769 (.if_icmp .eq 826) 826 772 1595 := ⟨by decide +kernel, rfl, by decide⟩
theorem d_L_law_772 : zDc M_L_law 772 (.iconst 0) 1 773 := ⟨by decide +kernel, rfl⟩
theorem d_L_law_773 : zDc M_L_law 773 (.ireturn) 1 774 := ⟨by decide +kernel, rfl⟩
theorem d_L_law_774 : zDc M_L_law 774 (.aload_n 1) 1 775 := ⟨by decide +kernel, rfl⟩
theorem d_L_law_775 : zDc M_L_law 775 (.aload_n 0) 1 776 := ⟨by decide +kernel, rfl⟩
theorem d_L_law_776 : zDc M_L_law 776 (.iload 4) 2 778 := ⟨by decide +kernel, rfl⟩
theorem d_L_law_778 : zDc M_L_law 778 (.iconst 1) 1 779 := ⟨by decide +kernel, rfl⟩
theorem d_L_law_779 : zDc M_L_law 779 (.iadd) 1 780 := ⟨by decide +kernel, rfl⟩
theorem d_L_law_780 : zDc M_L_law 780 (.iaload) 1 781 := ⟨by decide +kernel, rfl⟩
theorem d_L_law_781 : zDc M_L_law 781 (.invokevirtual 88) 3 784 := ⟨by decide +kernel, rfl⟩
theorem d_L_law_784 : zDc M_L_law 784 (.aload_n 2) 1 785 := ⟨by decide +kernel, rfl⟩
theorem d_L_law_785 : zDc M_L_law 785 (.aload_n 0) 1 786 := ⟨by decide +kernel, rfl⟩
theorem d_L_law_786 : zDc M_L_law 786 (.iload 4) 2 788 := ⟨by decide +kernel, rfl⟩
theorem d_L_law_788 : zDc M_L_law 788 (.iconst 1) 1 789 := ⟨by decide +kernel, rfl⟩
theorem d_L_law_789 : zDc M_L_law 789 (.iadd) 1 790 := ⟨by decide +kernel, rfl⟩
theorem d_L_law_790 : zDc M_L_law 790 (.iaload) 1 791 := ⟨by decide +kernel, rfl⟩
theorem d_L_law_791 : zDc M_L_law 791 (.invokevirtual 92) 3 794 := ⟨by decide +kernel, rfl⟩
theorem d_L_law_794 : zDj M_L_law 794 (.if_icmp .eq 801) 801 797 1595 := ⟨by decide +kernel, rfl, by decide⟩
theorem d_L_law_797 : zDc M_L_law 797 (.iconst 0) 1 798 := ⟨by decide +kernel, rfl⟩
theorem d_L_law_798 : zDc M_L_law 798 (.ireturn) 1 799 := ⟨by decide +kernel, rfl⟩
theorem d_L_law_799 : zDc M_L_law 799 (.aload_n 1) 1 800 := ⟨by decide +kernel, rfl⟩
theorem d_L_law_800 : zDc M_L_law 800 (.aload_n 0) 1 801 := ⟨by decide +kernel, rfl⟩
theorem d_L_law_801 : zDc M_L_law 801 (.iload 4) 2 803 := ⟨by decide +kernel, rfl⟩
theorem d_L_law_803 : zDc M_L_law 803 (.iconst 1) 1 804 := ⟨by decide +kernel, rfl⟩
theorem d_L_law_804 : zDc M_L_law 804 (.iadd) 1 805 := ⟨by decide +kernel, rfl⟩
theorem d_L_law_805 : zDc M_L_law 805 (.iaload) 1 806 := ⟨by decide +kernel, rfl⟩
theorem d_L_law_806 : zDc M_L_law 806 (.invokevirtual 93) 3 809 := ⟨by decide +kernel, rfl⟩
theorem d_L_law_809 : zDc M_L_law 809 (.aload_n 2) 1 810 := ⟨by decide +kernel, rfl⟩
theorem d_L_law_810 : zDc M_L_law 810 (.aload_n 0) 1 811 := ⟨by decide +kernel, rfl⟩
theorem d_L_law_811 : zDc M_L_law 811 (.iload 4) 2 813 := ⟨by decide +kernel, rfl⟩
theorem d_L_law_813 : zDc M_L_law 813 (.iconst 1) 1 814 := ⟨by decide +kernel, rfl⟩
theorem d_L_law_814 : zDc M_L_law 814 (.iadd) 1 815 := ⟨by decide +kernel, rfl⟩
theorem d_L_law_815 : zDc M_L_law 815 (.iaload) 1 816 := ⟨by decide +kernel, rfl⟩
theorem d_L_law_816 : zDc M_L_law 816 (.invokevirtual 96) 3 819 := ⟨by decide +kernel, rfl⟩
theorem d_L_law_819 : zDj M_L_law 819 (.if_icmp .eq 776) 776 822 1595 := ⟨by decide +kernel, rfl, by decide⟩
theorem d_L_law_822 : zDc M_L_law 822 (.iconst 0) 1 823 := ⟨by decide +kernel, rfl⟩
theorem d_L_law_823 : zDc M_L_law 823 (.ireturn) 1 824 := ⟨by decide +kernel, rfl⟩
theorem d_L_law_824 : zDc M_L_law 824 (.aload_n 1) 1 825 := ⟨by decide +kernel, rfl⟩
theorem d_L_law_825 : zDc M_L_law 825 (.aload_n 0) 1 826 := ⟨by decide +kernel, rfl⟩
theorem d_L_law_826 : zDc M_L_law 826 (.iload 4) 2 828 := ⟨by decide +kernel, rfl⟩
theorem d_L_law_828 : zDc M_L_law 828 (.iconst 1) 1 829 := ⟨by decide +kernel, rfl⟩
theorem d_L_law_829 : zDc M_L_law 829 (.iadd) 1 830 := ⟨by decide +kernel, rfl⟩
theorem d_L_law_830 : zDc M_L_law 830 (.iaload) 1 831 := ⟨by decide +kernel, rfl⟩
theorem d_L_law_831 : zDc M_L_law 831 (.aload_n 0) 1 832 := ⟨by decide +kernel, rfl⟩
theorem d_L_law_832 : zDc M_L_law 832 (.iload 4) 2 834 := ⟨by decide +kernel, rfl⟩
theorem d_L_law_834 : zDc M_L_law 834 (.iconst 2) 1 835 := ⟨by decide +kernel, rfl⟩
theorem d_L_law_835 : zDc M_L_law 835 (.iadd) 1 836 := ⟨by decide +kernel, rfl⟩
theorem d_L_law_836 : zDc M_L_law 836 (.iaload) 1 837 := ⟨by decide +kernel, rfl⟩
theorem d_L_law_837 : zDc M_L_law 837 (.invokevirtual 97) 3 840 := ⟨by decide +kernel, rfl⟩
theorem d_L_law_840 : zDc M_L_law 840 (.aload_n 2) 1 841 := ⟨by decide +kernel, rfl⟩
theorem d_L_law_841 : zDc M_L_law 841 (.aload_n 0) 1 842 := ⟨by decide +kernel, rfl⟩
theorem d_L_law_842 : zDc M_L_law 842 (.iload 4) 2 844 := ⟨by decide +kernel, rfl⟩
theorem d_L_law_844 : zDc M_L_law 844 (.iconst 1) 1 845 := ⟨by decide +kernel, rfl⟩
theorem d_L_law_845 : zDc M_L_law 845 (.iadd) 1 846 := ⟨by decide +kernel, rfl⟩
theorem d_L_law_846 : zDc M_L_law 846 (.iaload) 1 847 := ⟨by decide +kernel, rfl⟩
theorem d_L_law_847 : zDc M_L_law 847 (.aload_n 0) 1 848 := ⟨by decide +kernel, rfl⟩
theorem d_L_law_848 : zDc M_L_law 848 (.iload 4) 2 850 := ⟨by decide +kernel, rfl⟩
theorem d_L_law_850 : zDc M_L_law 850 (.iconst 2) 1 851 := ⟨by decide +kernel, rfl⟩
theorem d_L_law_851 : zDc M_L_law 851 (.iadd) 1 852 := ⟨by decide +kernel, rfl⟩
theorem d_L_law_852 : zDc M_L_law 852 (.iaload) 1 853 := ⟨by decide +kernel, rfl⟩
theorem d_L_law_853 : zDc M_L_law 853 (.invokevirtual 100) 3 856 := ⟨by decide +kernel, rfl⟩
theorem d_L_law_856 : zDj M_L_law 856 (.if_icmp .eq 739) 739 859 1595 := ⟨by decide +kernel, rfl, by decide⟩
theorem d_L_law_859 : zDc M_L_law 859 (.iconst 0) 1 860 := ⟨by decide +kernel, rfl⟩
theorem d_L_law_860 : zDc M_L_law 860 (.ireturn) 1 861 := ⟨by decide +kernel, rfl⟩
theorem d_L_law_861 : zDc M_L_law 861 (.aload_n 1) 1 862 := ⟨by decide +kernel, rfl⟩
theorem d_L_law_862 : zDc M_L_law 862 (.invokevirtual 101) 3 865 := ⟨by decide +kernel, rfl⟩
theorem d_L_law_865 : zDc M_L_law 865 (.aload_n 2) 1 866 := ⟨by decide +kernel, rfl⟩
theorem d_L_law_866 : zDc M_L_law 866 (.invokevirtual 104) 3 869 := ⟨by decide +kernel, rfl⟩
theorem d_L_law_869 : zDj M_L_law 869 (.if_icmp .eq 726) 726 872 1595 := ⟨by decide +kernel, rfl, by decide⟩
theorem d_L_law_872 : zDc M_L_law 872 (.iconst 0) 1 873 := ⟨by decide +kernel, rfl⟩
theorem d_L_law_873 : zDc M_L_law 873 (.ireturn) 1 874 := ⟨by decide +kernel, rfl⟩
theorem d_L_law_874 : zDc M_L_law 874 (.aload_n 1) 1 875 := ⟨by decide +kernel, rfl⟩
theorem d_L_law_875 : zDc M_L_law 875 (.aload_n 0) 1 876 := ⟨by decide +kernel, rfl⟩
theorem d_L_law_876 : zDc M_L_law 876 (.iload 4) 2 878 := ⟨by decide +kernel, rfl⟩
theorem d_L_law_878 : zDc M_L_law 878 (.iconst 1) 1 879 := ⟨by decide +kernel, rfl⟩
theorem d_L_law_879 : zDc M_L_law 879 (.iadd) 1 880 := ⟨by decide +kernel, rfl⟩
theorem d_L_law_880 : zDc M_L_law 880 (.iaload) 1 881 := ⟨by decide +kernel, rfl⟩
theorem d_L_law_881 : zDc M_L_law 881 (.aload_n 0) 1 882 := ⟨by decide +kernel, rfl⟩
theorem d_L_law_882 : zDc M_L_law 882 (.iload 4) 2 884 := ⟨by decide +kernel, rfl⟩
theorem d_L_law_884 : zDc M_L_law 884 (.iconst 2) 1 885 := ⟨by decide +kernel, rfl⟩
theorem d_L_law_885 : zDc M_L_law 885 (.iadd) 1 886 := ⟨by decide +kernel, rfl⟩
theorem d_L_law_886 : zDc M_L_law 886 (.iaload) 1 887 := ⟨by decide +kernel, rfl⟩
theorem d_L_law_887 : zDc M_L_law 887 (.aload_n 0) 1 888 := ⟨by decide +kernel, rfl⟩
theorem d_L_law_888 : zDc M_L_law 888 (.iload 4) 2 890 := ⟨by decide +kernel, rfl⟩
theorem d_L_law_890 : zDc M_L_law 890 (.iconst 3) 1 891 := ⟨by decide +kernel, rfl⟩
theorem d_L_law_891 : zDc M_L_law 891 (.iadd) 1 892 := ⟨by decide +kernel, rfl⟩
theorem d_L_law_892 : zDc M_L_law 892 (.iaload) 1 893 := ⟨by decide +kernel, rfl⟩
theorem d_L_law_893 : zDc M_L_law 893 (.invokevirtual 105) 3 896 := ⟨by decide +kernel, rfl⟩
theorem d_L_law_896 : zDc M_L_law 896 (.aload_n 2) 1 897 := ⟨by decide +kernel, rfl⟩
theorem d_L_law_897 : zDc M_L_law 897 (.aload_n 0) 1 898 := ⟨by decide +kernel, rfl⟩
theorem d_L_law_898 : zDc M_L_law 898 (.iload 4) 2 900 := ⟨by decide +kernel, rfl⟩
theorem d_L_law_900 : zDc M_L_law 900 (.iconst 1) 1 901 := ⟨by decide +kernel, rfl⟩
theorem d_L_law_901 : zDc M_L_law 901 (.iadd) 1 902 := ⟨by decide +kernel, rfl⟩
theorem d_L_law_902 : zDc M_L_law 902 (.iaload) 1 903 := ⟨by decide +kernel, rfl⟩
theorem d_L_law_903 : zDc M_L_law 903 (.aload_n 0) 1 904 := ⟨by decide +kernel, rfl⟩
theorem d_L_law_904 : zDc M_L_law 904 (.iload 4) 2 906 := ⟨by decide +kernel, rfl⟩
theorem d_L_law_906 : zDc M_L_law 906 (.iconst 2) 1 907 := ⟨by decide +kernel, rfl⟩
theorem d_L_law_907 : zDc M_L_law 907 (.iadd) 1 908 := ⟨by decide +kernel, rfl⟩
theorem d_L_law_908 : zDc M_L_law 908 (.iaload) 1 909 := ⟨by decide +kernel, rfl⟩
theorem d_L_law_909 : zDc M_L_law 909 (.aload_n 0) 1 910 := ⟨by decide +kernel, rfl⟩
theorem d_L_law_910 : zDc M_L_law 910 (.iload 4) 2 912 := ⟨by decide +kernel, rfl⟩
theorem d_L_law_912 : zDc M_L_law 912 (.iconst 3) 1 913 := ⟨by decide +kernel, rfl⟩
theorem d_L_law_913 : zDc M_L_law 913 (.iadd) 1 914 := ⟨by decide +kernel, rfl⟩
theorem d_L_law_914 : zDc M_L_law 914 (.iaload) 1 915 := ⟨by decide +kernel, rfl⟩
theorem d_L_law_915 : zDc M_L_law 915 (.invokevirtual 109) 3 918 := ⟨by decide +kernel, rfl⟩
theorem d_L_law_918 : zDj M_L_law 918 (.if_icmp .eq 677) 677 921 1595 := ⟨by decide +kernel, rfl, by decide⟩
theorem d_L_law_921 : zDc M_L_law 921 (.iconst 0) 1 922 := ⟨by decide +kernel, rfl⟩
theorem d_L_law_922 : zDc M_L_law 922 (.ireturn) 1 923 := ⟨by decide +kernel, rfl⟩
theorem d_L_law_923 : zDc M_L_law 923 (.aload_n 1) 1 924 := ⟨by decide +kernel, rfl⟩
theorem d_L_law_924 : zDc M_L_law 924 (.invokevirtual 110) 3 927 := ⟨by decide +kernel, rfl⟩
theorem d_L_law_927 : zDc M_L_law 927 (.aload_n 2) 1 928 := ⟨by decide +kernel, rfl⟩
theorem d_L_law_928 : zDc M_L_law 928 (.invokevirtual 113) 3 931 := ⟨by decide +kernel, rfl⟩
theorem d_L_law_931 : zDj M_L_law 931 (.if_icmp .eq 664) 664 934 1595 := ⟨by decide +kernel, rfl, by decide⟩
theorem d_L_law_934 : zDc M_L_law 934 (.iconst 0) 1 935 := ⟨by decide +kernel, rfl⟩
theorem d_L_law_935 : zDc M_L_law 935 (.ireturn) 1 936 := ⟨by decide +kernel, rfl⟩
theorem d_L_law_936 : zDc M_L_law 936 (.aload_n 1) 1 937 := ⟨by decide +kernel, rfl⟩
theorem d_L_law_937 : zDc M_L_law 937 (.aload_n 0) 1 938 := ⟨by decide +kernel, rfl⟩
theorem d_L_law_938 : zDc M_L_law 938 (.iload 4) 2 940 := ⟨by decide +kernel, rfl⟩
theorem d_L_law_940 : zDc M_L_law 940 (.iconst 1) 1 941 := ⟨by decide +kernel, rfl⟩
theorem d_L_law_941 : zDc M_L_law 941 (.iadd) 1 942 := ⟨by decide +kernel, rfl⟩
theorem d_L_law_942 : zDc M_L_law 942 (.iaload) 1 943 := ⟨by decide +kernel, rfl⟩
theorem d_L_law_943 : zDc M_L_law 943 (.invokevirtual 114) 3 946 := ⟨by decide +kernel, rfl⟩
theorem d_L_law_946 : zDc M_L_law 946 (.aload_n 2) 1 947 := ⟨by decide +kernel, rfl⟩
theorem d_L_law_947 : zDc M_L_law 947 (.aload_n 0) 1 948 := ⟨by decide +kernel, rfl⟩
theorem d_L_law_948 : zDc M_L_law 948 (.iload 4) 2 950 := ⟨by decide +kernel, rfl⟩
theorem d_L_law_950 : zDc M_L_law 950 (.iconst 1) 1 951 := ⟨by decide +kernel, rfl⟩
theorem d_L_law_951 : zDc M_L_law 951 (.iadd) 1 952 := ⟨by decide +kernel, rfl⟩
theorem d_L_law_952 : zDc M_L_law 952 (.iaload) 1 953 := ⟨by decide +kernel, rfl⟩
theorem d_L_law_953 : zDc M_L_law 953 (.invokevirtual 117) 3 956 := ⟨by decide +kernel, rfl⟩
theorem d_L_law_956 : zDj M_L_law 956 (.if_icmp .eq 639) 639 959 1595 := ⟨by decide +kernel, rfl, by decide⟩
theorem d_L_law_959 : zDc M_L_law 959 (.iconst 0) 1 960 := ⟨by decide +kernel, rfl⟩
theorem d_L_law_960 : zDc M_L_law 960 (.ireturn) 1 961 := ⟨by decide +kernel, rfl⟩
theorem d_L_law_961 : zDc M_L_law 961 (.aload_n 1) 1 962 := ⟨by decide +kernel, rfl⟩
theorem d_L_law_962 : zDc M_L_law 962 (.aload_n 0) 1 963 := ⟨by decide +kernel, rfl⟩
theorem d_L_law_963 : zDc M_L_law 963 (.iload 4) 2 965 := ⟨by decide +kernel, rfl⟩
theorem d_L_law_965 : zDc M_L_law 965 (.iconst 1) 1 966 := ⟨by decide +kernel, rfl⟩
theorem d_L_law_966 : zDc M_L_law 966 (.iadd) 1 967 := ⟨by decide +kernel, rfl⟩
theorem d_L_law_967 : zDc M_L_law 967 (.iaload) 1 968 := ⟨by decide +kernel, rfl⟩
theorem d_L_law_968 : zDc M_L_law 968 (.invokevirtual 118) 3 971 := ⟨by decide +kernel, rfl⟩
theorem d_L_law_971 : zDc M_L_law 971 (.aload_n 2) 1 972 := ⟨by decide +kernel, rfl⟩
theorem d_L_law_972 : zDc M_L_law 972 (.aload_n 0) 1 973 := ⟨by decide +kernel, rfl⟩
theorem d_L_law_973 : zDc M_L_law 973 (.iload 4) 2 975 := ⟨by decide +kernel, rfl⟩
theorem d_L_law_975 : zDc M_L_law 975 (.iconst 1) 1 976 := ⟨by decide +kernel, rfl⟩
theorem d_L_law_976 : zDc M_L_law 976 (.iadd) 1 977 := ⟨by decide +kernel, rfl⟩
theorem d_L_law_977 : zDc M_L_law 977 (.iaload) 1 978 := ⟨by decide +kernel, rfl⟩
theorem d_L_law_978 : zDc M_L_law 978 (.invokevirtual 121) 3 981 := ⟨by decide +kernel, rfl⟩
theorem d_L_law_981 : zDj M_L_law 981 (.if_icmp .eq 614) 614 984 1595 := ⟨by decide +kernel, rfl, by decide⟩
theorem d_L_law_984 : zDc M_L_law 984 (.iconst 0) 1 985 := ⟨by decide +kernel, rfl⟩
theorem d_L_law_985 : zDc M_L_law 985 (.ireturn) 1 986 := ⟨by decide +kernel, rfl⟩
theorem d_L_law_986 : zDc M_L_law 986 (.aload_n 1) 1 987 := ⟨by decide +kernel, rfl⟩
theorem d_L_law_987 : zDc M_L_law 987 (.invokevirtual 122) 3 990 := ⟨by decide +kernel, rfl⟩
theorem d_L_law_990 : zDc M_L_law 990 (.aload_n 2) 1 991 := ⟨by decide +kernel, rfl⟩
theorem d_L_law_991 : zDc M_L_law 991 (.invokevirtual 125) 3 994 := ⟨by decide +kernel, rfl⟩
theorem d_L_law_994 : zDj M_L_law 994 (.if_icmp .eq 601) 601 997 1595 := ⟨by decide +kernel, rfl, by decide⟩
theorem d_L_law_997 : zDc M_L_law 997 (.iconst 0) 1 998 := ⟨by decide +kernel, rfl⟩
theorem d_L_law_998 : zDc M_L_law 998 (.ireturn) 1 999 := ⟨by decide +kernel, rfl⟩
theorem d_L_law_999 : zDc M_L_law 999 (.aload_n 1) 1 1000 := ⟨by decide +kernel, rfl⟩
theorem d_L_law_1000 : zDc M_L_law 1000 (.aload_n 0) 1 1001 := ⟨by decide +kernel, rfl⟩
theorem d_L_law_1001 : zDc M_L_law 1001 (.iload 4) 2 1003 := ⟨by decide +kernel, rfl⟩
theorem d_L_law_1003 : zDc M_L_law 1003 (.iconst 1) 1 1004 := ⟨by decide +kernel, rfl⟩
theorem d_L_law_1004 : zDc M_L_law 1004 (.iadd) 1 1005 := ⟨by decide +kernel, rfl⟩
theorem d_L_law_1005 : zDc M_L_law 1005 (.iaload) 1 1006 := ⟨by decide +kernel, rfl⟩
theorem d_L_law_1006 : zDc M_L_law 1006 (.invokevirtual 126) 3 1009 := ⟨by decide +kernel, rfl⟩
theorem d_L_law_1009 : zDc M_L_law 1009 (.aload_n 2) 1 1010 := ⟨by decide +kernel, rfl⟩
theorem d_L_law_1010 : zDc M_L_law 1010 (.aload_n 0) 1 1011 := ⟨by decide +kernel, rfl⟩
theorem d_L_law_1011 : zDc M_L_law 1011 (.iload 4) 2 1013 := ⟨by decide +kernel, rfl⟩
theorem d_L_law_1013 : zDc M_L_law 1013 (.iconst 1) 1 1014 := ⟨by decide +kernel, rfl⟩
theorem d_L_law_1014 : zDc M_L_law 1014 (.iadd) 1 1015 := ⟨by decide +kernel, rfl⟩
theorem d_L_law_1015 : zDc M_L_law 1015 (.iaload) 1 1016 := ⟨by decide +kernel, rfl⟩
theorem d_L_law_1016 : zDc M_L_law 1016 (.invokevirtual 129) 3 1019 := ⟨by decide +kernel, rfl⟩
theorem d_L_law_1019 : zDj M_L_law 1019 (.if_icmp .eq 576) 576 1022 1595 := ⟨by decide +kernel, rfl, by decide⟩
theorem d_L_law_1022 : zDc M_L_law 1022 (.iconst 0) 1 1023 := ⟨by decide +kernel, rfl⟩
theorem d_L_law_1023 : zDc M_L_law 1023 (.ireturn) 1 1024 := ⟨by decide +kernel, rfl⟩
theorem d_L_law_1024 : zDc M_L_law 1024 (.aload_n 1) 1 1025 := ⟨by decide +kernel, rfl⟩
theorem d_L_law_1025 : zDc M_L_law 1025 (.aload_n 0) 1 1026 := ⟨by decide +kernel, rfl⟩
theorem d_L_law_1026 : zDc M_L_law 1026 (.iload 4) 2 1028 := ⟨by decide +kernel, rfl⟩
theorem d_L_law_1028 : zDc M_L_law 1028 (.iconst 1) 1 1029 := ⟨by decide +kernel, rfl⟩
theorem d_L_law_1029 : zDc M_L_law 1029 (.iadd) 1 1030 := ⟨by decide +kernel, rfl⟩
theorem d_L_law_1030 : zDc M_L_law 1030 (.iaload) 1 1031 := ⟨by decide +kernel, rfl⟩
theorem d_L_law_1031 : zDc M_L_law 1031 (.aload_n 0) 1 1032 := ⟨by decide +kernel, rfl⟩
theorem d_L_law_1032 : zDc M_L_law 1032 (.iload 4) 2 1034 := ⟨by decide +kernel, rfl⟩
theorem d_L_law_1034 : zDc M_L_law 1034 (.iconst 2) 1 1035 := ⟨by decide +kernel, rfl⟩
theorem d_L_law_1035 : zDc M_L_law 1035 (.iadd) 1 1036 := ⟨by decide +kernel, rfl⟩
theorem d_L_law_1036 : zDc M_L_law 1036 (.iaload) 1 1037 := ⟨by decide +kernel, rfl⟩
theorem d_L_law_1037 : zDc M_L_law 1037 (.aload_n 0) 1 1038 := ⟨by decide +kernel, rfl⟩
theorem d_L_law_1038 : zDc M_L_law 1038 (.iload 4) 2 1040 := ⟨by decide +kernel, rfl⟩
theorem d_L_law_1040 : zDc M_L_law 1040 (.iconst 3) 1 1041 := ⟨by decide +kernel, rfl⟩
theorem d_L_law_1041 : zDc M_L_law 1041 (.iadd) 1 1042 := ⟨by decide +kernel, rfl⟩
theorem d_L_law_1042 : zDc M_L_law 1042 (.iaload) 1 1043 := ⟨by decide +kernel, rfl⟩
theorem d_L_law_1043 : zDc M_L_law 1043 (.invokevirtual 130) 3 1046 := ⟨by decide +kernel, rfl⟩
theorem d_L_law_1046 : zDc M_L_law 1046 (.aload_n 2) 1 1047 := ⟨by decide +kernel, rfl⟩
theorem d_L_law_1047 : zDc M_L_law 1047 (.aload_n 0) 1 1048 := ⟨by decide +kernel, rfl⟩
theorem d_L_law_1048 : zDc M_L_law 1048 (.iload 4) 2 1050 := ⟨by decide +kernel, rfl⟩
theorem d_L_law_1050 : zDc M_L_law 1050 (.iconst 1) 1 1051 := ⟨by decide +kernel, rfl⟩
theorem d_L_law_1051 : zDc M_L_law 1051 (.iadd) 1 1052 := ⟨by decide +kernel, rfl⟩
theorem d_L_law_1052 : zDc M_L_law 1052 (.iaload) 1 1053 := ⟨by decide +kernel, rfl⟩
theorem d_L_law_1053 : zDc M_L_law 1053 (.aload_n 0) 1 1054 := ⟨by decide +kernel, rfl⟩
theorem d_L_law_1054 : zDc M_L_law 1054 (.iload 4) 2 1056 := ⟨by decide +kernel, rfl⟩
theorem d_L_law_1056 : zDc M_L_law 1056 (.iconst 2) 1 1057 := ⟨by decide +kernel, rfl⟩
theorem d_L_law_1057 : zDc M_L_law 1057 (.iadd) 1 1058 := ⟨by decide +kernel, rfl⟩
theorem d_L_law_1058 : zDc M_L_law 1058 (.iaload) 1 1059 := ⟨by decide +kernel, rfl⟩
theorem d_L_law_1059 : zDc M_L_law 1059 (.aload_n 0) 1 1060 := ⟨by decide +kernel, rfl⟩
theorem d_L_law_1060 : zDc M_L_law 1060 (.iload 4) 2 1062 := ⟨by decide +kernel, rfl⟩
theorem d_L_law_1062 : zDc M_L_law 1062 (.iconst 3) 1 1063 := ⟨by decide +kernel, rfl⟩
theorem d_L_law_1063 : zDc M_L_law 1063 (.iadd) 1 1064 := ⟨by decide +kernel, rfl⟩
theorem d_L_law_1064 : zDc M_L_law 1064 (.iaload) 1 1065 := ⟨by decide +kernel, rfl⟩
theorem d_L_law_1065 : zDc M_L_law 1065 (.invokevirtual 133) 3 1068 := ⟨by decide +kernel, rfl⟩
theorem d_L_law_1068 : zDj M_L_law 1068 (.if_icmp .eq 527) 527 1071 1595 := ⟨by decide +kernel, rfl, by decide⟩
theorem d_L_law_1071 : zDc M_L_law 1071 (.iconst 0) 1 1072 := ⟨by decide +kernel, rfl⟩
theorem d_L_law_1072 : zDc M_L_law 1072 (.ireturn) 1 1073 := ⟨by decide +kernel, rfl⟩
theorem d_L_law_1073 : zDc M_L_law 1073 (.aload_n 1) 1 1074 := ⟨by decide +kernel, rfl⟩
theorem d_L_law_1074 : zDc M_L_law 1074 (.aload_n 0) 1 1075 := ⟨by decide +kernel, rfl⟩
theorem d_L_law_1075 : zDc M_L_law 1075 (.iload 4) 2 1077 := ⟨by decide +kernel, rfl⟩
theorem d_L_law_1077 : zDc M_L_law 1077 (.iconst 1) 1 1078 := ⟨by decide +kernel, rfl⟩
theorem d_L_law_1078 : zDc M_L_law 1078 (.iadd) 1 1079 := ⟨by decide +kernel, rfl⟩
theorem d_L_law_1079 : zDc M_L_law 1079 (.iaload) 1 1080 := ⟨by decide +kernel, rfl⟩
theorem d_L_law_1080 : zDc M_L_law 1080 (.aload_n 0) 1 1081 := ⟨by decide +kernel, rfl⟩
theorem d_L_law_1081 : zDc M_L_law 1081 (.iload 4) 2 1083 := ⟨by decide +kernel, rfl⟩
theorem d_L_law_1083 : zDc M_L_law 1083 (.iconst 2) 1 1084 := ⟨by decide +kernel, rfl⟩
theorem d_L_law_1084 : zDc M_L_law 1084 (.iadd) 1 1085 := ⟨by decide +kernel, rfl⟩
theorem d_L_law_1085 : zDc M_L_law 1085 (.iaload) 1 1086 := ⟨by decide +kernel, rfl⟩
theorem d_L_law_1086 : zDc M_L_law 1086 (.aload_n 0) 1 1087 := ⟨by decide +kernel, rfl⟩
theorem d_L_law_1087 : zDc M_L_law 1087 (.iload 4) 2 1089 := ⟨by decide +kernel, rfl⟩
theorem d_L_law_1089 : zDc M_L_law 1089 (.iconst 3) 1 1090 := ⟨by decide +kernel, rfl⟩
theorem d_L_law_1090 : zDc M_L_law 1090 (.iadd) 1 1091 := ⟨by decide +kernel, rfl⟩
theorem d_L_law_1091 : zDc M_L_law 1091 (.iaload) 1 1092 := ⟨by decide +kernel, rfl⟩
theorem d_L_law_1092 : zDc M_L_law 1092 (.invokevirtual 134) 3 1095 := ⟨by decide +kernel, rfl⟩
theorem d_L_law_1095 : zDc M_L_law 1095 (.aload_n 2) 1 1096 := ⟨by decide +kernel, rfl⟩
theorem d_L_law_1096 : zDc M_L_law 1096 (.aload_n 0) 1 1097 := ⟨by decide +kernel, rfl⟩
theorem d_L_law_1097 : zDc M_L_law 1097 (.iload 4) 2 1099 := ⟨by decide +kernel, rfl⟩
theorem d_L_law_1099 : zDc M_L_law 1099 (.iconst 1) 1 1100 := ⟨by decide +kernel, rfl⟩
theorem d_L_law_1100 : zDc M_L_law 1100 (.iadd) 1 1101 := ⟨by decide +kernel, rfl⟩
theorem d_L_law_1101 : zDc M_L_law 1101 (.iaload) 1 1102 := ⟨by decide +kernel, rfl⟩
theorem d_L_law_1102 : zDc M_L_law 1102 (.aload_n 0) 1 1103 := ⟨by decide +kernel, rfl⟩
theorem d_L_law_1103 : zDc M_L_law 1103 (.iload 4) 2 1105 := ⟨by decide +kernel, rfl⟩
theorem d_L_law_1105 : zDc M_L_law 1105 (.iconst 2) 1 1106 := ⟨by decide +kernel, rfl⟩
theorem d_L_law_1106 : zDc M_L_law 1106 (.iadd) 1 1107 := ⟨by decide +kernel, rfl⟩
theorem d_L_law_1107 : zDc M_L_law 1107 (.iaload) 1 1108 := ⟨by decide +kernel, rfl⟩
theorem d_L_law_1108 : zDc M_L_law 1108 (.aload_n 0) 1 1109 := ⟨by decide +kernel, rfl⟩
theorem d_L_law_1109 : zDc M_L_law 1109 (.iload 4) 2 1111 := ⟨by decide +kernel, rfl⟩
theorem d_L_law_1111 : zDc M_L_law 1111 (.iconst 3) 1 1112 := ⟨by decide +kernel, rfl⟩
theorem d_L_law_1112 : zDc M_L_law 1112 (.iadd) 1 1113 := ⟨by decide +kernel, rfl⟩
theorem d_L_law_1113 : zDc M_L_law 1113 (.iaload) 1 1114 := ⟨by decide +kernel, rfl⟩
theorem d_L_law_1114 : zDc M_L_law 1114 (.invokevirtual 137) 3 1117 := ⟨by decide +kernel, rfl⟩
theorem d_L_law_1117 : zDj M_L_law 1117 (.if_icmp .eq 478) 478 1120 1595 := ⟨by decide +kernel, rfl, by decide⟩
theorem d_L_law_1120 : zDc M_L_law 1120 (.iconst 0) 1 1121 := ⟨by decide +kernel, rfl⟩
theorem d_L_law_1121 : zDc M_L_law 1121 (.ireturn) 1 1122 := ⟨by decide +kernel, rfl⟩
theorem d_L_law_1122 : zDc M_L_law 1122 (.aload_n 1) 1 1123 := ⟨by decide +kernel, rfl⟩
theorem d_L_law_1123 : zDc M_L_law 1123 (.aload_n 0) 1 1124 := ⟨by decide +kernel, rfl⟩
theorem d_L_law_1124 : zDc M_L_law 1124 (.iload 4) 2 1126 := ⟨by decide +kernel, rfl⟩
theorem d_L_law_1126 : zDc M_L_law 1126 (.iconst 1) 1 1127 := ⟨by decide +kernel, rfl⟩
theorem d_L_law_1127 : zDc M_L_law 1127 (.iadd) 1 1128 := ⟨by decide +kernel, rfl⟩
theorem d_L_law_1128 : zDc M_L_law 1128 (.iaload) 1 1129 := ⟨by decide +kernel, rfl⟩
theorem d_L_law_1129 : zDc M_L_law 1129 (.aload_n 0) 1 1130 := ⟨by decide +kernel, rfl⟩
theorem d_L_law_1130 : zDc M_L_law 1130 (.iload 4) 2 1132 := ⟨by decide +kernel, rfl⟩
theorem d_L_law_1132 : zDc M_L_law 1132 (.iconst 2) 1 1133 := ⟨by decide +kernel, rfl⟩
theorem d_L_law_1133 : zDc M_L_law 1133 (.iadd) 1 1134 := ⟨by decide +kernel, rfl⟩
theorem d_L_law_1134 : zDc M_L_law 1134 (.iaload) 1 1135 := ⟨by decide +kernel, rfl⟩
theorem d_L_law_1135 : zDc M_L_law 1135 (.aload_n 0) 1 1136 := ⟨by decide +kernel, rfl⟩
theorem d_L_law_1136 : zDc M_L_law 1136 (.iload 4) 2 1138 := ⟨by decide +kernel, rfl⟩
theorem d_L_law_1138 : zDc M_L_law 1138 (.iconst 3) 1 1139 := ⟨by decide +kernel, rfl⟩
theorem d_L_law_1139 : zDc M_L_law 1139 (.iadd) 1 1140 := ⟨by decide +kernel, rfl⟩
theorem d_L_law_1140 : zDc M_L_law 1140 (.iaload) 1 1141 := ⟨by decide +kernel, rfl⟩
theorem d_L_law_1141 : zDc M_L_law 1141 (.aload_n 0) 1 1142 := ⟨by decide +kernel, rfl⟩
theorem d_L_law_1142 : zDc M_L_law 1142 (.iload 4) 2 1144 := ⟨by decide +kernel, rfl⟩
theorem d_L_law_1144 : zDc M_L_law 1144 (.iconst 4) 1 1145 := ⟨by decide +kernel, rfl⟩
theorem d_L_law_1145 : zDc M_L_law 1145 (.iadd) 1 1146 := ⟨by decide +kernel, rfl⟩
theorem d_L_law_1146 : zDc M_L_law 1146 (.iaload) 1 1147 := ⟨by decide +kernel, rfl⟩
theorem d_L_law_1147 : zDc M_L_law 1147 (.invokevirtual 138) 3 1150 := ⟨by decide +kernel, rfl⟩
theorem d_L_law_1150 : zDc M_L_law 1150 (.aload_n 2) 1 1151 := ⟨by decide +kernel, rfl⟩
theorem d_L_law_1151 : zDc M_L_law 1151 (.aload_n 0) 1 1152 := ⟨by decide +kernel, rfl⟩
theorem d_L_law_1152 : zDc M_L_law 1152 (.iload 4) 2 1154 := ⟨by decide +kernel, rfl⟩
theorem d_L_law_1154 : zDc M_L_law 1154 (.iconst 1) 1 1155 := ⟨by decide +kernel, rfl⟩
theorem d_L_law_1155 : zDc M_L_law 1155 (.iadd) 1 1156 := ⟨by decide +kernel, rfl⟩
theorem d_L_law_1156 : zDc M_L_law 1156 (.iaload) 1 1157 := ⟨by decide +kernel, rfl⟩
theorem d_L_law_1157 : zDc M_L_law 1157 (.aload_n 0) 1 1158 := ⟨by decide +kernel, rfl⟩
theorem d_L_law_1158 : zDc M_L_law 1158 (.iload 4) 2 1160 := ⟨by decide +kernel, rfl⟩
theorem d_L_law_1160 : zDc M_L_law 1160 (.iconst 2) 1 1161 := ⟨by decide +kernel, rfl⟩
theorem d_L_law_1161 : zDc M_L_law 1161 (.iadd) 1 1162 := ⟨by decide +kernel, rfl⟩
theorem d_L_law_1162 : zDc M_L_law 1162 (.iaload) 1 1163 := ⟨by decide +kernel, rfl⟩
theorem d_L_law_1163 : zDc M_L_law 1163 (.aload_n 0) 1 1164 := ⟨by decide +kernel, rfl⟩
theorem d_L_law_1164 : zDc M_L_law 1164 (.iload 4) 2 1166 := ⟨by decide +kernel, rfl⟩
theorem d_L_law_1166 : zDc M_L_law 1166 (.iconst 3) 1 1167 := ⟨by decide +kernel, rfl⟩
theorem d_L_law_1167 : zDc M_L_law 1167 (.iadd) 1 1168 := ⟨by decide +kernel, rfl⟩
theorem d_L_law_1168 : zDc M_L_law 1168 (.iaload) 1 1169 := ⟨by decide +kernel, rfl⟩
theorem d_L_law_1169 : zDc M_L_law 1169 (.aload_n 0) 1 1170 := ⟨by decide +kernel, rfl⟩
theorem d_L_law_1170 : zDc M_L_law 1170 (.iload 4) 2 1172 := ⟨by decide +kernel, rfl⟩
theorem d_L_law_1172 : zDc M_L_law 1172 (.iconst 4) 1 1173 := ⟨by decide +kernel, rfl⟩
theorem d_L_law_1173 : zDc M_L_law 1173 (.iadd) 1 1174 := ⟨by decide +kernel, rfl⟩
theorem d_L_law_1174 : zDc M_L_law 1174 (.iaload) 1 1175 := ⟨by decide +kernel, rfl⟩
theorem d_L_law_1175 : zDc M_L_law 1175 (.invokevirtual 142) 3 1178 := ⟨by decide +kernel, rfl⟩
theorem d_L_law_1178 : zDj M_L_law 1178 (.if_icmp .eq 417) 417 1181 1595 := ⟨by decide +kernel, rfl, by decide⟩
theorem d_L_law_1181 : zDc M_L_law 1181 (.iconst 0) 1 1182 := ⟨by decide +kernel, rfl⟩
theorem d_L_law_1182 : zDc M_L_law 1182 (.ireturn) 1 1183 := ⟨by decide +kernel, rfl⟩
theorem d_L_law_1183 : zDc M_L_law 1183 (.aload_n 1) 1 1184 := ⟨by decide +kernel, rfl⟩
theorem d_L_law_1184 : zDc M_L_law 1184 (.aload_n 0) 1 1185 := ⟨by decide +kernel, rfl⟩
theorem d_L_law_1185 : zDc M_L_law 1185 (.iload 4) 2 1187 := ⟨by decide +kernel, rfl⟩
theorem d_L_law_1187 : zDc M_L_law 1187 (.iconst 1) 1 1188 := ⟨by decide +kernel, rfl⟩
theorem d_L_law_1188 : zDc M_L_law 1188 (.iadd) 1 1189 := ⟨by decide +kernel, rfl⟩
theorem d_L_law_1189 : zDc M_L_law 1189 (.iaload) 1 1190 := ⟨by decide +kernel, rfl⟩
theorem d_L_law_1190 : zDc M_L_law 1190 (.aload_n 0) 1 1191 := ⟨by decide +kernel, rfl⟩
theorem d_L_law_1191 : zDc M_L_law 1191 (.iload 4) 2 1193 := ⟨by decide +kernel, rfl⟩
theorem d_L_law_1193 : zDc M_L_law 1193 (.iconst 2) 1 1194 := ⟨by decide +kernel, rfl⟩
theorem d_L_law_1194 : zDc M_L_law 1194 (.iadd) 1 1195 := ⟨by decide +kernel, rfl⟩
theorem d_L_law_1195 : zDc M_L_law 1195 (.iaload) 1 1196 := ⟨by decide +kernel, rfl⟩
theorem d_L_law_1196 : zDc M_L_law 1196 (.invokevirtual 143) 3 1199 := ⟨by decide +kernel, rfl⟩
theorem d_L_law_1199 : zDc M_L_law 1199 (.aload_n 2) 1 1200 := ⟨by decide +kernel, rfl⟩
theorem d_L_law_1200 : zDc M_L_law 1200 (.aload_n 0) 1 1201 := ⟨by decide +kernel, rfl⟩
theorem d_L_law_1201 : zDc M_L_law 1201 (.iload 4) 2 1203 := ⟨by decide +kernel, rfl⟩
theorem d_L_law_1203 : zDc M_L_law 1203 (.iconst 1) 1 1204 := ⟨by decide +kernel, rfl⟩
theorem d_L_law_1204 : zDc M_L_law 1204 (.iadd) 1 1205 := ⟨by decide +kernel, rfl⟩
theorem d_L_law_1205 : zDc M_L_law 1205 (.iaload) 1 1206 := ⟨by decide +kernel, rfl⟩
theorem d_L_law_1206 : zDc M_L_law 1206 (.aload_n 0) 1 1207 := ⟨by decide +kernel, rfl⟩
theorem d_L_law_1207 : zDc M_L_law 1207 (.iload 4) 2 1209 := ⟨by decide +kernel, rfl⟩
theorem d_L_law_1209 : zDc M_L_law 1209 (.iconst 2) 1 1210 := ⟨by decide +kernel, rfl⟩
theorem d_L_law_1210 : zDc M_L_law 1210 (.iadd) 1 1211 := ⟨by decide +kernel, rfl⟩
theorem d_L_law_1211 : zDc M_L_law 1211 (.iaload) 1 1212 := ⟨by decide +kernel, rfl⟩
theorem d_L_law_1212 : zDc M_L_law 1212 (.invokevirtual 146) 3 1215 := ⟨by decide +kernel, rfl⟩
theorem d_L_law_1215 : zDj M_L_law 1215 (.if_icmp .eq 380) 380 1218 1595 := ⟨by decide +kernel, rfl, by decide⟩
theorem d_L_law_1218 : zDc M_L_law 1218 (.iconst 0) 1 1219 := ⟨by decide +kernel, rfl⟩
theorem d_L_law_1219 : zDc M_L_law 1219 (.ireturn) 1 1220 := ⟨by decide +kernel, rfl⟩
theorem d_L_law_1220 : zDc M_L_law 1220 (.aload_n 1) 1 1221 := ⟨by decide +kernel, rfl⟩
theorem d_L_law_1221 : zDc M_L_law 1221 (.aload_n 0) 1 1222 := ⟨by decide +kernel, rfl⟩
theorem d_L_law_1222 : zDc M_L_law 1222 (.iload 4) 2 1224 := ⟨by decide +kernel, rfl⟩
theorem d_L_law_1224 : zDc M_L_law 1224 (.iconst 1) 1 1225 := ⟨by decide +kernel, rfl⟩
theorem d_L_law_1225 : zDc M_L_law 1225 (.iadd) 1 1226 := ⟨by decide +kernel, rfl⟩
theorem d_L_law_1226 : zDc M_L_law 1226 (.iaload) 1 1227 := ⟨by decide +kernel, rfl⟩
theorem d_L_law_1227 : zDc M_L_law 1227 (.aload_n 0) 1 1228 := ⟨by decide +kernel, rfl⟩
theorem d_L_law_1228 : zDc M_L_law 1228 (.iload 4) 2 1230 := ⟨by decide +kernel, rfl⟩
theorem d_L_law_1230 : zDc M_L_law 1230 (.iconst 2) 1 1231 := ⟨by decide +kernel, rfl⟩
theorem d_L_law_1231 : zDc M_L_law 1231 (.iadd) 1 1232 := ⟨by decide +kernel, rfl⟩
theorem d_L_law_1232 : zDc M_L_law 1232 (.iaload) 1 1233 := ⟨by decide +kernel, rfl⟩
theorem d_L_law_1233 : zDc M_L_law 1233 (.aload_n 0) 1 1234 := ⟨by decide +kernel, rfl⟩
theorem d_L_law_1234 : zDc M_L_law 1234 (.iload 4) 2 1236 := ⟨by decide +kernel, rfl⟩
theorem d_L_law_1236 : zDc M_L_law 1236 (.iconst 3) 1 1237 := ⟨by decide +kernel, rfl⟩
theorem d_L_law_1237 : zDc M_L_law 1237 (.iadd) 1 1238 := ⟨by decide +kernel, rfl⟩
theorem d_L_law_1238 : zDc M_L_law 1238 (.iaload) 1 1239 := ⟨by decide +kernel, rfl⟩
theorem d_L_law_1239 : zDc M_L_law 1239 (.invokevirtual 147) 3 1242 := ⟨by decide +kernel, rfl⟩
theorem d_L_law_1242 : zDc M_L_law 1242 (.aload_n 2) 1 1243 := ⟨by decide +kernel, rfl⟩
theorem d_L_law_1243 : zDc M_L_law 1243 (.aload_n 0) 1 1244 := ⟨by decide +kernel, rfl⟩
theorem d_L_law_1244 : zDc M_L_law 1244 (.iload 4) 2 1246 := ⟨by decide +kernel, rfl⟩
theorem d_L_law_1246 : zDc M_L_law 1246 (.iconst 1) 1 1247 := ⟨by decide +kernel, rfl⟩
theorem d_L_law_1247 : zDc M_L_law 1247 (.iadd) 1 1248 := ⟨by decide +kernel, rfl⟩
theorem d_L_law_1248 : zDc M_L_law 1248 (.iaload) 1 1249 := ⟨by decide +kernel, rfl⟩
theorem d_L_law_1249 : zDc M_L_law 1249 (.aload_n 0) 1 1250 := ⟨by decide +kernel, rfl⟩
theorem d_L_law_1250 : zDc M_L_law 1250 (.iload 4) 2 1252 := ⟨by decide +kernel, rfl⟩
theorem d_L_law_1252 : zDc M_L_law 1252 (.iconst 2) 1 1253 := ⟨by decide +kernel, rfl⟩
theorem d_L_law_1253 : zDc M_L_law 1253 (.iadd) 1 1254 := ⟨by decide +kernel, rfl⟩
theorem d_L_law_1254 : zDc M_L_law 1254 (.iaload) 1 1255 := ⟨by decide +kernel, rfl⟩
theorem d_L_law_1255 : zDc M_L_law 1255 (.aload_n 0) 1 1256 := ⟨by decide +kernel, rfl⟩
theorem d_L_law_1256 : zDc M_L_law 1256 (.iload 4) 2 1258 := ⟨by decide +kernel, rfl⟩
theorem d_L_law_1258 : zDc M_L_law 1258 (.iconst 3) 1 1259 := ⟨by decide +kernel, rfl⟩
theorem d_L_law_1259 : zDc M_L_law 1259 (.iadd) 1 1260 := ⟨by decide +kernel, rfl⟩
theorem d_L_law_1260 : zDc M_L_law 1260 (.iaload) 1 1261 := ⟨by decide +kernel, rfl⟩
theorem d_L_law_1261 : zDc M_L_law 1261 (.invokevirtual 150) 3 1264 := ⟨by decide +kernel, rfl⟩
theorem d_L_law_1264 : zDj M_L_law 1264 (.if_icmp .eq 331) 331 1267 1595 := ⟨by decide +kernel, rfl, by decide⟩
theorem d_L_law_1267 : zDc M_L_law 1267 (.iconst 0) 1 1268 := ⟨by decide +kernel, rfl⟩
theorem d_L_law_1268 : zDc M_L_law 1268 (.ireturn) 1 1269 := ⟨by decide +kernel, rfl⟩
theorem d_L_law_1269 : zDc M_L_law 1269 (.aload_n 1) 1 1270 := ⟨by decide +kernel, rfl⟩
theorem d_L_law_1270 : zDc M_L_law 1270 (.aload_n 0) 1 1271 := ⟨by decide +kernel, rfl⟩
theorem d_L_law_1271 : zDc M_L_law 1271 (.iload 4) 2 1273 := ⟨by decide +kernel, rfl⟩
theorem d_L_law_1273 : zDc M_L_law 1273 (.iconst 1) 1 1274 := ⟨by decide +kernel, rfl⟩
theorem d_L_law_1274 : zDc M_L_law 1274 (.iadd) 1 1275 := ⟨by decide +kernel, rfl⟩
theorem d_L_law_1275 : zDc M_L_law 1275 (.iaload) 1 1276 := ⟨by decide +kernel, rfl⟩
theorem d_L_law_1276 : zDc M_L_law 1276 (.aload_n 0) 1 1277 := ⟨by decide +kernel, rfl⟩
theorem d_L_law_1277 : zDc M_L_law 1277 (.iload 4) 2 1279 := ⟨by decide +kernel, rfl⟩
theorem d_L_law_1279 : zDc M_L_law 1279 (.iconst 2) 1 1280 := ⟨by decide +kernel, rfl⟩
theorem d_L_law_1280 : zDc M_L_law 1280 (.iadd) 1 1281 := ⟨by decide +kernel, rfl⟩
theorem d_L_law_1281 : zDc M_L_law 1281 (.iaload) 1 1282 := ⟨by decide +kernel, rfl⟩
theorem d_L_law_1282 : zDc M_L_law 1282 (.aload_n 0) 1 1283 := ⟨by decide +kernel, rfl⟩
theorem d_L_law_1283 : zDc M_L_law 1283 (.iload 4) 2 1285 := ⟨by decide +kernel, rfl⟩
theorem d_L_law_1285 : zDc M_L_law 1285 (.iconst 3) 1 1286 := ⟨by decide +kernel, rfl⟩
theorem d_L_law_1286 : zDc M_L_law 1286 (.iadd) 1 1287 := ⟨by decide +kernel, rfl⟩
theorem d_L_law_1287 : zDc M_L_law 1287 (.iaload) 1 1288 := ⟨by decide +kernel, rfl⟩
theorem d_L_law_1288 : zDc M_L_law 1288 (.aload_n 0) 1 1289 := ⟨by decide +kernel, rfl⟩
theorem d_L_law_1289 : zDc M_L_law 1289 (.iload 4) 2 1291 := ⟨by decide +kernel, rfl⟩
theorem d_L_law_1291 : zDc M_L_law 1291 (.iconst 4) 1 1292 := ⟨by decide +kernel, rfl⟩
theorem d_L_law_1292 : zDc M_L_law 1292 (.iadd) 1 1293 := ⟨by decide +kernel, rfl⟩
theorem d_L_law_1293 : zDc M_L_law 1293 (.iaload) 1 1294 := ⟨by decide +kernel, rfl⟩
theorem d_L_law_1294 : zDj M_L_law 1294 (.ifCond .eq 7) 7 1297 1301 := ⟨by decide +kernel, rfl, by decide⟩
theorem d_L_law_1297 : zDc M_L_law 1297 (.iconst 1) 1 1298 := ⟨by decide +kernel, rfl⟩
theorem d_L_law_1298 : zDj M_L_law 1298 (.goto 4) 4 1301 1302 := ⟨by decide +kernel, rfl, by decide⟩
theorem d_L_law_1301 : zDc M_L_law 1301 (.iconst 0) 1 1302 := ⟨by decide +kernel, rfl⟩
theorem d_L_law_1302 : zDc M_L_law 1302 (.invokevirtual 151) 3 1305 := ⟨by decide +kernel, rfl⟩
theorem d_L_law_1305 : zDc M_L_law 1305 (.aload_n 2) 1 1306 := ⟨by decide +kernel, rfl⟩
theorem d_L_law_1306 : zDc M_L_law 1306 (.aload_n 0) 1 1307 := ⟨by decide +kernel, rfl⟩
theorem d_L_law_1307 : zDc M_L_law 1307 (.iload 4) 2 1309 := ⟨by decide +kernel, rfl⟩
theorem d_L_law_1309 : zDc M_L_law 1309 (.iconst 1) 1 1310 := ⟨by decide +kernel, rfl⟩
theorem d_L_law_1310 : zDc M_L_law 1310 (.iadd) 1 1311 := ⟨by decide +kernel, rfl⟩
theorem d_L_law_1311 : zDc M_L_law 1311 (.iaload) 1 1312 := ⟨by decide +kernel, rfl⟩
theorem d_L_law_1312 : zDc M_L_law 1312 (.aload_n 0) 1 1313 := ⟨by decide +kernel, rfl⟩
theorem d_L_law_1313 : zDc M_L_law 1313 (.iload 4) 2 1315 := ⟨by decide +kernel, rfl⟩
theorem d_L_law_1315 : zDc M_L_law 1315 (.iconst 2) 1 1316 := ⟨by decide +kernel, rfl⟩
theorem d_L_law_1316 : zDc M_L_law 1316 (.iadd) 1 1317 := ⟨by decide +kernel, rfl⟩
theorem d_L_law_1317 : zDc M_L_law 1317 (.iaload) 1 1318 := ⟨by decide +kernel, rfl⟩
theorem d_L_law_1318 : zDc M_L_law 1318 (.aload_n 0) 1 1319 := ⟨by decide +kernel, rfl⟩
theorem d_L_law_1319 : zDc M_L_law 1319 (.iload 4) 2 1321 := ⟨by decide +kernel, rfl⟩
theorem d_L_law_1321 : zDc M_L_law 1321 (.iconst 3) 1 1322 := ⟨by decide +kernel, rfl⟩
theorem d_L_law_1322 : zDc M_L_law 1322 (.iadd) 1 1323 := ⟨by decide +kernel, rfl⟩
theorem d_L_law_1323 : zDc M_L_law 1323 (.iaload) 1 1324 := ⟨by decide +kernel, rfl⟩
theorem d_L_law_1324 : zDc M_L_law 1324 (.aload_n 0) 1 1325 := ⟨by decide +kernel, rfl⟩
theorem d_L_law_1325 : zDc M_L_law 1325 (.iload 4) 2 1327 := ⟨by decide +kernel, rfl⟩
theorem d_L_law_1327 : zDc M_L_law 1327 (.iconst 4) 1 1328 := ⟨by decide +kernel, rfl⟩
theorem d_L_law_1328 : zDc M_L_law 1328 (.iadd) 1 1329 := ⟨by decide +kernel, rfl⟩
theorem d_L_law_1329 : zDc M_L_law 1329 (.iaload) 1 1330 := ⟨by decide +kernel, rfl⟩
theorem d_L_law_1330 : zDj M_L_law 1330 (.ifCond .eq 7) 7 1333 1337 := ⟨by decide +kernel, rfl, by decide⟩
theorem d_L_law_1333 : zDc M_L_law 1333 (.iconst 1) 1 1334 := ⟨by decide +kernel, rfl⟩
theorem d_L_law_1334 : zDj M_L_law 1334 (.goto 4) 4 1337 1338 := ⟨by decide +kernel, rfl, by decide⟩
theorem d_L_law_1337 : zDc M_L_law 1337 (.iconst 0) 1 1338 := ⟨by decide +kernel, rfl⟩
theorem d_L_law_1338 : zDc M_L_law 1338 (.invokevirtual 155) 3 1341 := ⟨by decide +kernel, rfl⟩
theorem d_L_law_1341 : zDj M_L_law 1341 (.if_icmp .eq 254) 254 1344 1595 := ⟨by decide +kernel, rfl, by decide⟩
theorem d_L_law_1344 : zDc M_L_law 1344 (.iconst 0) 1 1345 := ⟨by decide +kernel, rfl⟩
theorem d_L_law_1345 : zDc M_L_law 1345 (.ireturn) 1 1346 := ⟨by decide +kernel, rfl⟩
theorem d_L_law_1346 : zDc M_L_law 1346 (.aload_n 1) 1 1347 := ⟨by decide +kernel, rfl⟩
theorem d_L_law_1347 : zDc M_L_law 1347 (.aload_n 0) 1 1348 := ⟨by decide +kernel, rfl⟩
theorem d_L_law_1348 : zDc M_L_law 1348 (.iload 4) 2 1350 := ⟨by decide +kernel, rfl⟩
theorem d_L_law_1350 : zDc M_L_law 1350 (.iconst 1) 1 1351 := ⟨by decide +kernel, rfl⟩
theorem d_L_law_1351 : zDc M_L_law 1351 (.iadd) 1 1352 := ⟨by decide +kernel, rfl⟩
theorem d_L_law_1352 : zDc M_L_law 1352 (.iaload) 1 1353 := ⟨by decide +kernel, rfl⟩
theorem d_L_law_1353 : zDc M_L_law 1353 (.invokevirtual 156) 3 1356 := ⟨by decide +kernel, rfl⟩
theorem d_L_law_1356 : zDc M_L_law 1356 (.aload_n 2) 1 1357 := ⟨by decide +kernel, rfl⟩
theorem d_L_law_1357 : zDc M_L_law 1357 (.aload_n 0) 1 1358 := ⟨by decide +kernel, rfl⟩
theorem d_L_law_1358 : zDc M_L_law 1358 (.iload 4) 2 1360 := ⟨by decide +kernel, rfl⟩
theorem d_L_law_1360 : zDc M_L_law 1360 (.iconst 1) 1 1361 := ⟨by decide +kernel, rfl⟩
theorem d_L_law_1361 : zDc M_L_law 1361 (.iadd) 1 1362 := ⟨by decide +kernel, rfl⟩
theorem d_L_law_1362 : zDc M_L_law 1362 (.iaload) 1 1363 := ⟨by decide +kernel, rfl⟩
theorem d_L_law_1363 : zDc M_L_law 1363 (.invokevirtual 159) 3 1366 := ⟨by decide +kernel, rfl⟩
theorem d_L_law_1366 : zDj M_L_law 1366 (.if_icmp .eq 229) 229 1369 1595 := ⟨by decide +kernel, rfl, by decide⟩
theorem d_L_law_1369 : zDc M_L_law 1369 (.iconst 0) 1 1370 := ⟨by decide +kernel, rfl⟩
theorem d_L_law_1370 : zDc M_L_law 1370 (.ireturn) 1 1371 := ⟨by decide +kernel, rfl⟩
theorem d_L_law_1371 : zDc M_L_law 1371 (.aload_n 1) 1 1372 := ⟨by decide +kernel, rfl⟩
theorem d_L_law_1372 : zDc M_L_law 1372 (.aload_n 0) 1 1373 := ⟨by decide +kernel, rfl⟩
theorem d_L_law_1373 : zDc M_L_law 1373 (.iload 4) 2 1375 := ⟨by decide +kernel, rfl⟩
theorem d_L_law_1375 : zDc M_L_law 1375 (.iconst 1) 1 1376 := ⟨by decide +kernel, rfl⟩
theorem d_L_law_1376 : zDc M_L_law 1376 (.iadd) 1 1377 := ⟨by decide +kernel, rfl⟩
theorem d_L_law_1377 : zDc M_L_law 1377 (.iaload) 1 1378 := ⟨by decide +kernel, rfl⟩
theorem d_L_law_1378 : zDc M_L_law 1378 (.invokevirtual 160) 3 1381 := ⟨by decide +kernel, rfl⟩
theorem d_L_law_1381 : zDc M_L_law 1381 (.aload_n 2) 1 1382 := ⟨by decide +kernel, rfl⟩
theorem d_L_law_1382 : zDc M_L_law 1382 (.aload_n 0) 1 1383 := ⟨by decide +kernel, rfl⟩
theorem d_L_law_1383 : zDc M_L_law 1383 (.iload 4) 2 1385 := ⟨by decide +kernel, rfl⟩
theorem d_L_law_1385 : zDc M_L_law 1385 (.iconst 1) 1 1386 := ⟨by decide +kernel, rfl⟩
theorem d_L_law_1386 : zDc M_L_law 1386 (.iadd) 1 1387 := ⟨by decide +kernel, rfl⟩
theorem d_L_law_1387 : zDc M_L_law 1387 (.iaload) 1 1388 := ⟨by decide +kernel, rfl⟩
theorem d_L_law_1388 : zDc M_L_law 1388 (.invokevirtual 163) 3 1391 := ⟨by decide +kernel, rfl⟩
theorem d_L_law_1391 : zDj M_L_law 1391 (.if_icmp .eq 204) 204 1394 1595 := ⟨by decide +kernel, rfl, by decide⟩
theorem d_L_law_1394 : zDc M_L_law 1394 (.iconst 0) 1 1395 := ⟨by decide +kernel, rfl⟩
theorem d_L_law_1395 : zDc M_L_law 1395 (.ireturn) 1 1396 := ⟨by decide +kernel, rfl⟩
theorem d_L_law_1396 : zDc M_L_law 1396 (.aload_n 1) 1 1397 := ⟨by decide +kernel, rfl⟩
theorem d_L_law_1397 : zDc M_L_law 1397 (.aload_n 0) 1 1398 := ⟨by decide +kernel, rfl⟩
theorem d_L_law_1398 : zDc M_L_law 1398 (.iload 4) 2 1400 := ⟨by decide +kernel, rfl⟩
theorem d_L_law_1400 : zDc M_L_law 1400 (.iconst 1) 1 1401 := ⟨by decide +kernel, rfl⟩
theorem d_L_law_1401 : zDc M_L_law 1401 (.iadd) 1 1402 := ⟨by decide +kernel, rfl⟩
theorem d_L_law_1402 : zDc M_L_law 1402 (.iaload) 1 1403 := ⟨by decide +kernel, rfl⟩
theorem d_L_law_1403 : zDc M_L_law 1403 (.invokevirtual 164) 3 1406 := ⟨by decide +kernel, rfl⟩
theorem d_L_law_1406 : zDc M_L_law 1406 (.aload_n 2) 1 1407 := ⟨by decide +kernel, rfl⟩
theorem d_L_law_1407 : zDc M_L_law 1407 (.aload_n 0) 1 1408 := ⟨by decide +kernel, rfl⟩
theorem d_L_law_1408 : zDc M_L_law 1408 (.iload 4) 2 1410 := ⟨by decide +kernel, rfl⟩
theorem d_L_law_1410 : zDc M_L_law 1410 (.iconst 1) 1 1411 := ⟨by decide +kernel, rfl⟩
theorem d_L_law_1411 : zDc M_L_law 1411 (.iadd) 1 1412 := ⟨by decide +kernel, rfl⟩
theorem d_L_law_1412 : zDc M_L_law 1412 (.iaload) 1 1413 := ⟨by decide +kernel, rfl⟩
theorem d_L_law_1413 : zDc M_L_law 1413 (.invokevirtual 167) 3 1416 := ⟨by decide +kernel, rfl⟩
theorem d_L_law_1416 : zDj M_L_law 1416 (.if_icmp .eq 179) 179 1419 1595 := ⟨by decide +kernel, rfl, by decide⟩
theorem d_L_law_1419 : zDc M_L_law 1419 (.iconst 0) 1 1420 := ⟨by decide +kernel, rfl⟩
theorem d_L_law_1420 : zDc M_L_law 1420 (.ireturn) 1 1421 := ⟨by decide +kernel, rfl⟩
theorem d_L_law_1421 : zDc M_L_law 1421 (.aload_n 1) 1 1422 := ⟨by decide +kernel, rfl⟩
theorem d_L_law_1422 : zDc M_L_law 1422 (.aload_n 0) 1 1423 := ⟨by decide +kernel, rfl⟩
theorem d_L_law_1423 : zDc M_L_law 1423 (.iload 4) 2 1425 := ⟨by decide +kernel, rfl⟩
theorem d_L_law_1425 : zDc M_L_law 1425 (.iconst 1) 1 1426 := ⟨by decide +kernel, rfl⟩
theorem d_L_law_1426 : zDc M_L_law 1426 (.iadd) 1 1427 := ⟨by decide +kernel, rfl⟩
theorem d_L_law_1427 : zDc M_L_law 1427 (.iaload) 1 1428 := ⟨by decide +kernel, rfl⟩
theorem d_L_law_1428 : zDc M_L_law 1428 (.aload_n 0) 1 1429 := ⟨by decide +kernel, rfl⟩
theorem d_L_law_1429 : zDc M_L_law 1429 (.iload 4) 2 1431 := ⟨by decide +kernel, rfl⟩
theorem d_L_law_1431 : zDc M_L_law 1431 (.iconst 2) 1 1432 := ⟨by decide +kernel, rfl⟩
theorem d_L_law_1432 : zDc M_L_law 1432 (.iadd) 1 1433 := ⟨by decide +kernel, rfl⟩
theorem d_L_law_1433 : zDc M_L_law 1433 (.iaload) 1 1434 := ⟨by decide +kernel, rfl⟩
theorem d_L_law_1434 : zDc M_L_law 1434 (.aload_n 0) 1 1435 := ⟨by decide +kernel, rfl⟩
theorem d_L_law_1435 : zDc M_L_law 1435 (.iload 4) 2 1437 := ⟨by decide +kernel, rfl⟩
theorem d_L_law_1437 : zDc M_L_law 1437 (.iconst 3) 1 1438 := ⟨by decide +kernel, rfl⟩
theorem d_L_law_1438 : zDc M_L_law 1438 (.iadd) 1 1439 := ⟨by decide +kernel, rfl⟩
theorem d_L_law_1439 : zDc M_L_law 1439 (.iaload) 1 1440 := ⟨by decide +kernel, rfl⟩
theorem d_L_law_1440 : zDc M_L_law 1440 (.aload_n 0) 1 1441 := ⟨by decide +kernel, rfl⟩
theorem d_L_law_1441 : zDc M_L_law 1441 (.iload 4) 2 1443 := ⟨by decide +kernel, rfl⟩
theorem d_L_law_1443 : zDc M_L_law 1443 (.iconst 4) 1 1444 := ⟨by decide +kernel, rfl⟩
theorem d_L_law_1444 : zDc M_L_law 1444 (.iadd) 1 1445 := ⟨by decide +kernel, rfl⟩
theorem d_L_law_1445 : zDc M_L_law 1445 (.iaload) 1 1446 := ⟨by decide +kernel, rfl⟩
theorem d_L_law_1446 : zDc M_L_law 1446 (.invokevirtual 168) 3 1449 := ⟨by decide +kernel, rfl⟩
theorem d_L_law_1449 : zDc M_L_law 1449 (.aload_n 2) 1 1450 := ⟨by decide +kernel, rfl⟩
theorem d_L_law_1450 : zDc M_L_law 1450 (.aload_n 0) 1 1451 := ⟨by decide +kernel, rfl⟩
theorem d_L_law_1451 : zDc M_L_law 1451 (.iload 4) 2 1453 := ⟨by decide +kernel, rfl⟩
theorem d_L_law_1453 : zDc M_L_law 1453 (.iconst 1) 1 1454 := ⟨by decide +kernel, rfl⟩
theorem d_L_law_1454 : zDc M_L_law 1454 (.iadd) 1 1455 := ⟨by decide +kernel, rfl⟩
theorem d_L_law_1455 : zDc M_L_law 1455 (.iaload) 1 1456 := ⟨by decide +kernel, rfl⟩
theorem d_L_law_1456 : zDc M_L_law 1456 (.aload_n 0) 1 1457 := ⟨by decide +kernel, rfl⟩
theorem d_L_law_1457 : zDc M_L_law 1457 (.iload 4) 2 1459 := ⟨by decide +kernel, rfl⟩
theorem d_L_law_1459 : zDc M_L_law 1459 (.iconst 2) 1 1460 := ⟨by decide +kernel, rfl⟩
theorem d_L_law_1460 : zDc M_L_law 1460 (.iadd) 1 1461 := ⟨by decide +kernel, rfl⟩
theorem d_L_law_1461 : zDc M_L_law 1461 (.iaload) 1 1462 := ⟨by decide +kernel, rfl⟩
theorem d_L_law_1462 : zDc M_L_law 1462 (.aload_n 0) 1 1463 := ⟨by decide +kernel, rfl⟩
theorem d_L_law_1463 : zDc M_L_law 1463 (.iload 4) 2 1465 := ⟨by decide +kernel, rfl⟩
theorem d_L_law_1465 : zDc M_L_law 1465 (.iconst 3) 1 1466 := ⟨by decide +kernel, rfl⟩
theorem d_L_law_1466 : zDc M_L_law 1466 (.iadd) 1 1467 := ⟨by decide +kernel, rfl⟩
theorem d_L_law_1467 : zDc M_L_law 1467 (.iaload) 1 1468 := ⟨by decide +kernel, rfl⟩
theorem d_L_law_1468 : zDc M_L_law 1468 (.aload_n 0) 1 1469 := ⟨by decide +kernel, rfl⟩
theorem d_L_law_1469 : zDc M_L_law 1469 (.iload 4) 2 1471 := ⟨by decide +kernel, rfl⟩
theorem d_L_law_1471 : zDc M_L_law 1471 (.iconst 4) 1 1472 := ⟨by decide +kernel, rfl⟩
theorem d_L_law_1472 : zDc M_L_law 1472 (.iadd) 1 1473 := ⟨by decide +kernel, rfl⟩
theorem d_L_law_1473 : zDc M_L_law 1473 (.iaload) 1 1474 := ⟨by decide +kernel, rfl⟩
theorem d_L_law_1474 : zDc M_L_law 1474 (.invokevirtual 171) 3 1477 := ⟨by decide +kernel, rfl⟩
theorem d_L_law_1477 : zDj M_L_law 1477 (.if_icmp .eq 118) 118 1480 1595 := ⟨by decide +kernel, rfl, by decide⟩
theorem d_L_law_1480 : zDc M_L_law 1480 (.iconst 0) 1 1481 := ⟨by decide +kernel, rfl⟩
theorem d_L_law_1481 : zDc M_L_law 1481 (.ireturn) 1 1482 := ⟨by decide +kernel, rfl⟩
theorem d_L_law_1482 : zDc M_L_law 1482 (.aload_n 1) 1 1483 := ⟨by decide +kernel, rfl⟩
theorem d_L_law_1483 : zDc M_L_law 1483 (.aload_n 0) 1 1484 := ⟨by decide +kernel, rfl⟩
theorem d_L_law_1484 : zDc M_L_law 1484 (.iload 4) 2 1486 := ⟨by decide +kernel, rfl⟩
theorem d_L_law_1486 : zDc M_L_law 1486 (.iconst 1) 1 1487 := ⟨by decide +kernel, rfl⟩
theorem d_L_law_1487 : zDc M_L_law 1487 (.iadd) 1 1488 := ⟨by decide +kernel, rfl⟩
theorem d_L_law_1488 : zDc M_L_law 1488 (.iaload) 1 1489 := ⟨by decide +kernel, rfl⟩
theorem d_L_law_1489 : zDc M_L_law 1489 (.aload_n 0) 1 1490 := ⟨by decide +kernel, rfl⟩
theorem d_L_law_1490 : zDc M_L_law 1490 (.iload 4) 2 1492 := ⟨by decide +kernel, rfl⟩
theorem d_L_law_1492 : zDc M_L_law 1492 (.iconst 2) 1 1493 := ⟨by decide +kernel, rfl⟩
theorem d_L_law_1493 : zDc M_L_law 1493 (.iadd) 1 1494 := ⟨by decide +kernel, rfl⟩
theorem d_L_law_1494 : zDc M_L_law 1494 (.iaload) 1 1495 := ⟨by decide +kernel, rfl⟩
theorem d_L_law_1495 : zDc M_L_law 1495 (.aload_n 0) 1 1496 := ⟨by decide +kernel, rfl⟩
theorem d_L_law_1496 : zDc M_L_law 1496 (.iload 4) 2 1498 := ⟨by decide +kernel, rfl⟩
theorem d_L_law_1498 : zDc M_L_law 1498 (.iconst 3) 1 1499 := ⟨by decide +kernel, rfl⟩
theorem d_L_law_1499 : zDc M_L_law 1499 (.iadd) 1 1500 := ⟨by decide +kernel, rfl⟩
theorem d_L_law_1500 : zDc M_L_law 1500 (.iaload) 1 1501 := ⟨by decide +kernel, rfl⟩
theorem d_L_law_1501 : zDc M_L_law 1501 (.invokevirtual 172) 3 1504 := ⟨by decide +kernel, rfl⟩
theorem d_L_law_1504 : zDc M_L_law 1504 (.aload_n 2) 1 1505 := ⟨by decide +kernel, rfl⟩
theorem d_L_law_1505 : zDc M_L_law 1505 (.aload_n 0) 1 1506 := ⟨by decide +kernel, rfl⟩
theorem d_L_law_1506 : zDc M_L_law 1506 (.iload 4) 2 1508 := ⟨by decide +kernel, rfl⟩
theorem d_L_law_1508 : zDc M_L_law 1508 (.iconst 1) 1 1509 := ⟨by decide +kernel, rfl⟩
theorem d_L_law_1509 : zDc M_L_law 1509 (.iadd) 1 1510 := ⟨by decide +kernel, rfl⟩
theorem d_L_law_1510 : zDc M_L_law 1510 (.iaload) 1 1511 := ⟨by decide +kernel, rfl⟩
theorem d_L_law_1511 : zDc M_L_law 1511 (.aload_n 0) 1 1512 := ⟨by decide +kernel, rfl⟩
theorem d_L_law_1512 : zDc M_L_law 1512 (.iload 4) 2 1514 := ⟨by decide +kernel, rfl⟩
theorem d_L_law_1514 : zDc M_L_law 1514 (.iconst 2) 1 1515 := ⟨by decide +kernel, rfl⟩
theorem d_L_law_1515 : zDc M_L_law 1515 (.iadd) 1 1516 := ⟨by decide +kernel, rfl⟩
theorem d_L_law_1516 : zDc M_L_law 1516 (.iaload) 1 1517 := ⟨by decide +kernel, rfl⟩
theorem d_L_law_1517 : zDc M_L_law 1517 (.aload_n 0) 1 1518 := ⟨by decide +kernel, rfl⟩
theorem d_L_law_1518 : zDc M_L_law 1518 (.iload 4) 2 1520 := ⟨by decide +kernel, rfl⟩
theorem d_L_law_1520 : zDc M_L_law 1520 (.iconst 3) 1 1521 := ⟨by decide +kernel, rfl⟩
theorem d_L_law_1521 : zDc M_L_law 1521 (.iadd) 1 1522 := ⟨by decide +kernel, rfl⟩
theorem d_L_law_1522 : zDc M_L_law 1522 (.iaload) 1 1523 := ⟨by decide +kernel, rfl⟩
theorem d_L_law_1523 : zDc M_L_law 1523 (.invokevirtual 175) 3 1526 := ⟨by decide +kernel, rfl⟩
theorem d_L_law_1526 : zDj M_L_law 1526 (.if_icmp .eq 69) 69 1529 1595 := ⟨by decide +kernel, rfl, by decide⟩
theorem d_L_law_1529 : zDc M_L_law 1529 (.iconst 0) 1 1530 := ⟨by decide +kernel, rfl⟩
theorem d_L_law_1530 : zDc M_L_law 1530 (.ireturn) 1 1531 := ⟨by decide +kernel, rfl⟩
theorem d_L_law_1531 : zDc M_L_law 1531 (.aload_n 1) 1 1532 := ⟨by decide +kernel, rfl⟩
theorem d_L_law_1532 : zDc M_L_law 1532 (.invokevirtual 176) 3 1535 := ⟨by decide +kernel, rfl⟩
theorem d_L_law_1535 : zDc M_L_law 1535 (.aload_n 2) 1 1536 := ⟨by decide +kernel, rfl⟩
theorem d_L_law_1536 : zDc M_L_law 1536 (.invokevirtual 179) 3 1539 := ⟨by decide +kernel, rfl⟩
theorem d_L_law_1539 : zDj M_L_law 1539 (.if_icmp .eq 56) 56 1542 1595 := ⟨by decide +kernel, rfl, by decide⟩
theorem d_L_law_1542 : zDc M_L_law 1542 (.iconst 0) 1 1543 := ⟨by decide +kernel, rfl⟩
theorem d_L_law_1543 : zDc M_L_law 1543 (.ireturn) 1 1544 := ⟨by decide +kernel, rfl⟩
theorem d_L_law_1544 : zDc M_L_law 1544 (.aload_n 1) 1 1545 := ⟨by decide +kernel, rfl⟩
theorem d_L_law_1545 : zDc M_L_law 1545 (.invokevirtual 180) 3 1548 := ⟨by decide +kernel, rfl⟩
theorem d_L_law_1548 : zDc M_L_law 1548 (.aload_n 2) 1 1549 := ⟨by decide +kernel, rfl⟩
theorem d_L_law_1549 : zDc M_L_law 1549 (.invokevirtual 183) 3 1552 := ⟨by decide +kernel, rfl⟩
theorem d_L_law_1552 : zDj M_L_law 1552 (.if_icmp .eq 43) 43 1555 1595 := ⟨by decide +kernel, rfl, by decide⟩
theorem d_L_law_1555 : zDc M_L_law 1555 (.iconst 0) 1 1556 := ⟨by decide +kernel, rfl⟩
theorem d_L_law_1556 : zDc M_L_law 1556 (.ireturn) 1 1557 := ⟨by decide +kernel, rfl⟩
theorem d_L_law_1557 : zDc M_L_law 1557 (.aload_n 1) 1 1558 := ⟨by decide +kernel, rfl⟩
theorem d_L_law_1558 : zDc M_L_law 1558 (.invokevirtual 184) 3 1561 := ⟨by decide +kernel, rfl⟩
theorem d_L_law_1561 : zDc M_L_law 1561 (.aload_n 2) 1 1562 := ⟨by decide +kernel, rfl⟩
theorem d_L_law_1562 : zDc M_L_law 1562 (.invokevirtual 187) 3 1565 := ⟨by decide +kernel, rfl⟩
theorem d_L_law_1565 : zDj M_L_law 1565 (.if_icmp .eq 30) 30 1568 1595 := ⟨by decide +kernel, rfl, by decide⟩
theorem d_L_law_1568 : zDc M_L_law 1568 (.iconst 0) 1 1569 := ⟨by decide +kernel, rfl⟩
theorem d_L_law_1569 : zDc M_L_law 1569 (.ireturn) 1 1570 := ⟨by decide +kernel, rfl⟩
theorem d_L_law_1570 : zDc M_L_law 1570 (.aload_n 1) 1 1571 := ⟨by decide +kernel, rfl⟩
theorem d_L_law_1571 : zDc M_L_law 1571 (.aload_n 0) 1 1572 := ⟨by decide +kernel, rfl⟩
theorem d_L_law_1572 : zDc M_L_law 1572 (.iload 4) 2 1574 := ⟨by decide +kernel, rfl⟩
theorem d_L_law_1574 : zDc M_L_law 1574 (.iconst 1) 1 1575 := ⟨by decide +kernel, rfl⟩
theorem d_L_law_1575 : zDc M_L_law 1575 (.iadd) 1 1576 := ⟨by decide +kernel, rfl⟩
theorem d_L_law_1576 : zDc M_L_law 1576 (.iaload) 1 1577 := ⟨by decide +kernel, rfl⟩
theorem d_L_law_1577 : zDc M_L_law 1577 (.invokevirtual 188) 3 1580 := ⟨by decide +kernel, rfl⟩
theorem d_L_law_1580 : zDc M_L_law 1580 (.aload_n 2) 1 1581 := ⟨by decide +kernel, rfl⟩
theorem d_L_law_1581 : zDc M_L_law 1581 (.aload_n 0) 1 1582 := ⟨by decide +kernel, rfl⟩
theorem d_L_law_1582 : zDc M_L_law 1582 (.iload 4) 2 1584 := ⟨by decide +kernel, rfl⟩
theorem d_L_law_1584 : zDc M_L_law 1584 (.iconst 1) 1 1585 := ⟨by decide +kernel, rfl⟩
theorem d_L_law_1585 : zDc M_L_law 1585 (.iadd) 1 1586 := ⟨by decide +kernel, rfl⟩
theorem d_L_law_1586 : zDc M_L_law 1586 (.iaload) 1 1587 := ⟨by decide +kernel, rfl⟩
theorem d_L_law_1587 : zDc M_L_law 1587 (.invokevirtual 191) 3 1590 := ⟨by decide +kernel, rfl⟩
theorem d_L_law_1590 : zDj M_L_law 1590 (.if_icmp .eq 5) 5 1593 1595 := ⟨by decide +kernel, rfl, by decide⟩
theorem d_L_law_1593 : zDc M_L_law 1593 (.iconst 0) 1 1594 := ⟨by decide +kernel, rfl⟩
theorem d_L_law_1594 : zDc M_L_law 1594 (.ireturn) 1 1595 := ⟨by decide +kernel, rfl⟩
def f_L_0 (L : Nat) (xs : Nat → Int32) (x y o : Nat) (i : Int32) (h0 : zHp) : Option ((Unit ⊕ Int32) × zHp) :=
  zob (zsc L xs (i + 1)) (fun v1 =>
  zob (zsc L xs (i + 2)) (fun v2 =>
  zob (zsc L xs (i + 3)) (fun v3 =>
  zob (zsc L xs (i + 4)) (fun v4 =>
  zob (zsc L xs (i + 5)) (fun v5 =>
  zbd (zcv 7 x h0 (f_X7_feed x v1 v2 v3 v4 v5 h0)) (fun v7 h6 =>
  zob (zsc L xs (i + 1)) (fun v8 =>
  zob (zsc L xs (i + 2)) (fun v9 =>
  zob (zsc L xs (i + 3)) (fun v10 =>
  zob (zsc L xs (i + 4)) (fun v11 =>
  zob (zsc L xs (i + 5)) (fun v12 =>
  zbd (zcv 8 y h6 (f_X8_feed y v8 v9 v10 v11 v12 h6)) (fun v14 h13 =>
  if v7 = v14 then
  some ((.inl ()), h13)
  else
  some ((.inr 0), h13)))))))))))))
set_option maxRecDepth 100000 in
set_option maxHeartbeats 4000000 in
theorem t_L_0 {X : zCx} {b L : Nat} {xs : Nat → Int32} {c1 c2 : Nat} (hX : zScr X b L xs) (hc : c1 ≤ 600000 ∧ c2 ≤ 7200000) (x y o : Nat) (i : Int32) (h0 : zHp) : zG X M_L_law (c1, c2) 212 [(0, .ref b), (1, .ref x), (2, .ref y), (3, .ref o), (4, .int i)] [] h0 (f_L_0 L xs x y o i h0) (fun r h' => zsl r (fun _ => zSW X M_L_law (c1, c2) 1595 [(0, .ref b), (1, .ref x), (2, .ref y), (3, .ref o), (4, .int i)] [] h') (fun v => zKe X (some (.int v)) h')) := by
  unfold f_L_0
  refine zg_aload_n 1 rfl d_L_law_212 ?_
  refine zg_aload_n 0 rfl d_L_law_213 ?_
  refine zg_iload 4 rfl d_L_law_214 ?_
  refine zg_iconst 1 rfl d_L_law_216 ?_
  refine zg_iadd d_L_law_217 ?_
  refine zg_sld hX d_L_law_218 (fun v1 => ?_)
  refine zg_aload_n 0 rfl d_L_law_219 ?_
  refine zg_iload 4 rfl d_L_law_220 ?_
  refine zg_iconst 2 rfl d_L_law_222 ?_
  refine zg_iadd d_L_law_223 ?_
  refine zg_sld hX d_L_law_224 (fun v2 => ?_)
  refine zg_aload_n 0 rfl d_L_law_225 ?_
  refine zg_iload 4 rfl d_L_law_226 ?_
  refine zg_iconst 3 rfl d_L_law_228 ?_
  refine zg_iadd d_L_law_229 ?_
  refine zg_sld hX d_L_law_230 (fun v3 => ?_)
  refine zg_aload_n 0 rfl d_L_law_231 ?_
  refine zg_iload 4 rfl d_L_law_232 ?_
  refine zg_iconst 4 rfl d_L_law_234 ?_
  refine zg_iadd d_L_law_235 ?_
  refine zg_sld hX d_L_law_236 (fun v4 => ?_)
  refine zg_aload_n 0 rfl d_L_law_237 ?_
  refine zg_iload 4 rfl d_L_law_238 ?_
  refine zg_iconst 5 rfl d_L_law_240 ?_
  refine zg_iadd d_L_law_241 ?_
  refine zg_sld hX d_L_law_242 (fun v5 => ?_)
  refine zg_cVi (b := x) (As := [.int v1, .int v2, .int v3, .int v4, .int v5]) (rest := []) (c1, c2) d_L_law_243 zc_7 rfl cw_L_21 wi_X7_feed ws_X7_feed rfl rfl (Nat.le_of_ble_eq_true rfl) (by decide) (by decide) ⟨by show c1 + 0 ≤ 601024; omega, by show c2 + 0 ≤ 7293034; omega⟩ rfl (t_X7_feed x v1 v2 v3 v4 v5 h0) (fun v7 h6 => ?_)
  refine zg_aload_n 2 rfl d_L_law_246 ?_
  refine zg_aload_n 0 rfl d_L_law_247 ?_
  refine zg_iload 4 rfl d_L_law_248 ?_
  refine zg_iconst 1 rfl d_L_law_250 ?_
  refine zg_iadd d_L_law_251 ?_
  refine zg_sld hX d_L_law_252 (fun v8 => ?_)
  refine zg_aload_n 0 rfl d_L_law_253 ?_
  refine zg_iload 4 rfl d_L_law_254 ?_
  refine zg_iconst 2 rfl d_L_law_256 ?_
  refine zg_iadd d_L_law_257 ?_
  refine zg_sld hX d_L_law_258 (fun v9 => ?_)
  refine zg_aload_n 0 rfl d_L_law_259 ?_
  refine zg_iload 4 rfl d_L_law_260 ?_
  refine zg_iconst 3 rfl d_L_law_262 ?_
  refine zg_iadd d_L_law_263 ?_
  refine zg_sld hX d_L_law_264 (fun v10 => ?_)
  refine zg_aload_n 0 rfl d_L_law_265 ?_
  refine zg_iload 4 rfl d_L_law_266 ?_
  refine zg_iconst 4 rfl d_L_law_268 ?_
  refine zg_iadd d_L_law_269 ?_
  refine zg_sld hX d_L_law_270 (fun v11 => ?_)
  refine zg_aload_n 0 rfl d_L_law_271 ?_
  refine zg_iload 4 rfl d_L_law_272 ?_
  refine zg_iconst 5 rfl d_L_law_274 ?_
  refine zg_iadd d_L_law_275 ?_
  refine zg_sld hX d_L_law_276 (fun v12 => ?_)
  refine zg_cVi (b := y) (As := [.int v8, .int v9, .int v10, .int v11, .int v12]) (rest := [.int v7]) (c1, c2) d_L_law_277 zc_8 rfl cw_L_25 wi_X8_feed ws_X8_feed rfl rfl (Nat.le_of_ble_eq_true rfl) (by decide) (by decide) ⟨by show c1 + 0 ≤ 601024; omega, by show c2 + 0 ≤ 7293034; omega⟩ rfl (t_X8_feed y v8 v9 v10 v11 v12 h6) (fun v14 h13 => ?_)
  refine zg_icmp_eq d_L_law_280 ?_ ?_
  · exact zg_finK (E := 0) [0, 1, 2, 3, 4] rfl rfl (fun q => q)
  · refine zg_iconst 0 rfl d_L_law_283 ?_
    exact zg_zretK d_L_law_284 rfl ⟨by show c1 ≤ 601024; omega, by show c2 ≤ 7293034; omega⟩ (Or.inl rfl) (fun q => q)
def f_L_1 (L : Nat) (xs : Nat → Int32) (x y o : Nat) (i : Int32) (h0 : zHp) : Option ((Unit ⊕ Int32) × zHp) :=
  zob (zsc L xs (i + 1)) (fun v15 =>
  zbd (zcv 7 x h0 (f_X7_text x v15 h0)) (fun v17 h16 =>
  zob (zsc L xs (i + 1)) (fun v18 =>
  zbd (zcv 8 y h16 (f_X8_text y v18 h16)) (fun v20 h19 =>
  if v17 = v20 then
  some ((.inl ()), h19)
  else
  some ((.inr 0), h19)))))
set_option maxRecDepth 100000 in
set_option maxHeartbeats 4000000 in
theorem t_L_1 {X : zCx} {b L : Nat} {xs : Nat → Int32} {c1 c2 : Nat} (hX : zScr X b L xs) (hc : c1 ≤ 600000 ∧ c2 ≤ 7200000) (x y o : Nat) (i : Int32) (h0 : zHp) : zG X M_L_law (c1, c2) 285 [(0, .ref b), (1, .ref x), (2, .ref y), (3, .ref o), (4, .int i)] [] h0 (f_L_1 L xs x y o i h0) (fun r h' => zsl r (fun _ => zSW X M_L_law (c1, c2) 1595 [(0, .ref b), (1, .ref x), (2, .ref y), (3, .ref o), (4, .int i)] [] h') (fun v => zKe X (some (.int v)) h')) := by
  unfold f_L_1
  refine zg_aload_n 1 rfl d_L_law_285 ?_
  refine zg_aload_n 0 rfl d_L_law_286 ?_
  refine zg_iload 4 rfl d_L_law_287 ?_
  refine zg_iconst 1 rfl d_L_law_289 ?_
  refine zg_iadd d_L_law_290 ?_
  refine zg_sld hX d_L_law_291 (fun v15 => ?_)
  refine zg_cVi (b := x) (As := [.int v15]) (rest := []) (c1, c2) d_L_law_292 zc_7 rfl cw_L_26 wi_X7_text ws_X7_text rfl rfl (Nat.le_of_ble_eq_true rfl) (by decide) (by decide) ⟨by show c1 + 0 ≤ 601024; omega, by show c2 + 0 ≤ 7293034; omega⟩ rfl (t_X7_text x v15 h0) (fun v17 h16 => ?_)
  refine zg_aload_n 2 rfl d_L_law_295 ?_
  refine zg_aload_n 0 rfl d_L_law_296 ?_
  refine zg_iload 4 rfl d_L_law_297 ?_
  refine zg_iconst 1 rfl d_L_law_299 ?_
  refine zg_iadd d_L_law_300 ?_
  refine zg_sld hX d_L_law_301 (fun v18 => ?_)
  refine zg_cVi (b := y) (As := [.int v18]) (rest := [.int v17]) (c1, c2) d_L_law_302 zc_8 rfl cw_L_30 wi_X8_text ws_X8_text rfl rfl (Nat.le_of_ble_eq_true rfl) (by decide) (by decide) ⟨by show c1 + 0 ≤ 601024; omega, by show c2 + 0 ≤ 7293034; omega⟩ rfl (t_X8_text y v18 h16) (fun v20 h19 => ?_)
  refine zg_icmp_eq d_L_law_305 ?_ ?_
  · exact zg_finK (E := 0) [0, 1, 2, 3, 4] rfl rfl (fun q => q)
  · refine zg_iconst 0 rfl d_L_law_308 ?_
    exact zg_zretK d_L_law_309 rfl ⟨by show c1 ≤ 601024; omega, by show c2 ≤ 7293034; omega⟩ (Or.inl rfl) (fun q => q)
def f_L_2 (L : Nat) (xs : Nat → Int32) (x y o : Nat) (i : Int32) (h0 : zHp) : Option ((Unit ⊕ Int32) × zHp) :=
  zob (zsc L xs (i + 1)) (fun v21 =>
  zbd (zcv 7 x h0 (f_X7_fault x v21 h0)) (fun v23 h22 =>
  zob (zsc L xs (i + 1)) (fun v24 =>
  zbd (zcv 8 y h22 (f_X8_fault y v24 h22)) (fun v26 h25 =>
  if v23 = v26 then
  some ((.inl ()), h25)
  else
  some ((.inr 0), h25)))))
set_option maxRecDepth 100000 in
set_option maxHeartbeats 4000000 in
theorem t_L_2 {X : zCx} {b L : Nat} {xs : Nat → Int32} {c1 c2 : Nat} (hX : zScr X b L xs) (hc : c1 ≤ 600000 ∧ c2 ≤ 7200000) (x y o : Nat) (i : Int32) (h0 : zHp) : zG X M_L_law (c1, c2) 310 [(0, .ref b), (1, .ref x), (2, .ref y), (3, .ref o), (4, .int i)] [] h0 (f_L_2 L xs x y o i h0) (fun r h' => zsl r (fun _ => zSW X M_L_law (c1, c2) 1595 [(0, .ref b), (1, .ref x), (2, .ref y), (3, .ref o), (4, .int i)] [] h') (fun v => zKe X (some (.int v)) h')) := by
  unfold f_L_2
  refine zg_aload_n 1 rfl d_L_law_310 ?_
  refine zg_aload_n 0 rfl d_L_law_311 ?_
  refine zg_iload 4 rfl d_L_law_312 ?_
  refine zg_iconst 1 rfl d_L_law_314 ?_
  refine zg_iadd d_L_law_315 ?_
  refine zg_sld hX d_L_law_316 (fun v21 => ?_)
  refine zg_cVi (b := x) (As := [.int v21]) (rest := []) (c1, c2) d_L_law_317 zc_7 rfl cw_L_31 wi_X7_fault ws_X7_fault rfl rfl (Nat.le_of_ble_eq_true rfl) (by decide) (by decide) ⟨by show c1 + 0 ≤ 601024; omega, by show c2 + 0 ≤ 7293034; omega⟩ rfl (t_X7_fault x v21 h0) (fun v23 h22 => ?_)
  refine zg_aload_n 2 rfl d_L_law_320 ?_
  refine zg_aload_n 0 rfl d_L_law_321 ?_
  refine zg_iload 4 rfl d_L_law_322 ?_
  refine zg_iconst 1 rfl d_L_law_324 ?_
  refine zg_iadd d_L_law_325 ?_
  refine zg_sld hX d_L_law_326 (fun v24 => ?_)
  refine zg_cVi (b := y) (As := [.int v24]) (rest := [.int v23]) (c1, c2) d_L_law_327 zc_8 rfl cw_L_34 wi_X8_fault ws_X8_fault rfl rfl (Nat.le_of_ble_eq_true rfl) (by decide) (by decide) ⟨by show c1 + 0 ≤ 601024; omega, by show c2 + 0 ≤ 7293034; omega⟩ rfl (t_X8_fault y v24 h22) (fun v26 h25 => ?_)
  refine zg_icmp_eq d_L_law_330 ?_ ?_
  · exact zg_finK (E := 0) [0, 1, 2, 3, 4] rfl rfl (fun q => q)
  · refine zg_iconst 0 rfl d_L_law_333 ?_
    exact zg_zretK d_L_law_334 rfl ⟨by show c1 ≤ 601024; omega, by show c2 ≤ 7293034; omega⟩ (Or.inl rfl) (fun q => q)
def f_L_3 (L : Nat) (xs : Nat → Int32) (x y o : Nat) (i : Int32) (h0 : zHp) : Option ((Unit ⊕ Int32) × zHp) :=
  zob (zsc L xs (i + 1)) (fun v27 =>
  zob (zsc L xs (i + 2)) (fun v28 =>
  zbd (zcv 7 x h0 (f_X7_named x v27 v28 h0)) (fun v30 h29 =>
  zob (zsc L xs (i + 1)) (fun v31 =>
  zob (zsc L xs (i + 2)) (fun v32 =>
  zbd (zcv 8 y h29 (f_X8_named y v31 v32 h29)) (fun v34 h33 =>
  if v30 = v34 then
  some ((.inl ()), h33)
  else
  some ((.inr 0), h33)))))))
set_option maxRecDepth 100000 in
set_option maxHeartbeats 4000000 in
theorem t_L_3 {X : zCx} {b L : Nat} {xs : Nat → Int32} {c1 c2 : Nat} (hX : zScr X b L xs) (hc : c1 ≤ 600000 ∧ c2 ≤ 7200000) (x y o : Nat) (i : Int32) (h0 : zHp) : zG X M_L_law (c1, c2) 335 [(0, .ref b), (1, .ref x), (2, .ref y), (3, .ref o), (4, .int i)] [] h0 (f_L_3 L xs x y o i h0) (fun r h' => zsl r (fun _ => zSW X M_L_law (c1, c2) 1595 [(0, .ref b), (1, .ref x), (2, .ref y), (3, .ref o), (4, .int i)] [] h') (fun v => zKe X (some (.int v)) h')) := by
  unfold f_L_3
  refine zg_aload_n 1 rfl d_L_law_335 ?_
  refine zg_aload_n 0 rfl d_L_law_336 ?_
  refine zg_iload 4 rfl d_L_law_337 ?_
  refine zg_iconst 1 rfl d_L_law_339 ?_
  refine zg_iadd d_L_law_340 ?_
  refine zg_sld hX d_L_law_341 (fun v27 => ?_)
  refine zg_aload_n 0 rfl d_L_law_342 ?_
  refine zg_iload 4 rfl d_L_law_343 ?_
  refine zg_iconst 2 rfl d_L_law_345 ?_
  refine zg_iadd d_L_law_346 ?_
  refine zg_sld hX d_L_law_347 (fun v28 => ?_)
  refine zg_cVi (b := x) (As := [.int v27, .int v28]) (rest := []) (c1, c2) d_L_law_348 zc_7 rfl cw_L_35 wi_X7_named ws_X7_named rfl rfl (Nat.le_of_ble_eq_true rfl) (by decide) (by decide) ⟨by show c1 + 0 ≤ 601024; omega, by show c2 + 0 ≤ 7293034; omega⟩ rfl (t_X7_named x v27 v28 h0) (fun v30 h29 => ?_)
  refine zg_aload_n 2 rfl d_L_law_351 ?_
  refine zg_aload_n 0 rfl d_L_law_352 ?_
  refine zg_iload 4 rfl d_L_law_353 ?_
  refine zg_iconst 1 rfl d_L_law_355 ?_
  refine zg_iadd d_L_law_356 ?_
  refine zg_sld hX d_L_law_357 (fun v31 => ?_)
  refine zg_aload_n 0 rfl d_L_law_358 ?_
  refine zg_iload 4 rfl d_L_law_359 ?_
  refine zg_iconst 2 rfl d_L_law_361 ?_
  refine zg_iadd d_L_law_362 ?_
  refine zg_sld hX d_L_law_363 (fun v32 => ?_)
  refine zg_cVi (b := y) (As := [.int v31, .int v32]) (rest := [.int v30]) (c1, c2) d_L_law_364 zc_8 rfl cw_L_38 wi_X8_named ws_X8_named rfl rfl (Nat.le_of_ble_eq_true rfl) (by decide) (by decide) ⟨by show c1 + 0 ≤ 601024; omega, by show c2 + 0 ≤ 7293034; omega⟩ rfl (t_X8_named y v31 v32 h29) (fun v34 h33 => ?_)
  refine zg_icmp_eq d_L_law_367 ?_ ?_
  · exact zg_finK (E := 0) [0, 1, 2, 3, 4] rfl rfl (fun q => q)
  · refine zg_iconst 0 rfl d_L_law_370 ?_
    exact zg_zretK d_L_law_371 rfl ⟨by show c1 ≤ 601024; omega, by show c2 ≤ 7293034; omega⟩ (Or.inl rfl) (fun q => q)
def f_L_5 (L : Nat) (xs : Nat → Int32) (x y o : Nat) (i : Int32) (h0 : zHp) : Option ((Unit ⊕ Int32) × zHp) :=
  zob (zsc L xs (i + 1)) (fun v35 =>
  zob (zsc L xs (i + 2)) (fun v36 =>
  zbd (zcv 7 x h0 (f_X7_child x v35 v36 h0)) (fun v38 h37 =>
  zob (zsc L xs (i + 1)) (fun v39 =>
  zob (zsc L xs (i + 2)) (fun v40 =>
  zbd (zcv 8 y h37 (f_X8_child y v39 v40 h37)) (fun v42 h41 =>
  if v38 = v42 then
  some ((.inl ()), h41)
  else
  some ((.inr 0), h41)))))))
set_option maxRecDepth 100000 in
set_option maxHeartbeats 4000000 in
theorem t_L_5 {X : zCx} {b L : Nat} {xs : Nat → Int32} {c1 c2 : Nat} (hX : zScr X b L xs) (hc : c1 ≤ 600000 ∧ c2 ≤ 7200000) (x y o : Nat) (i : Int32) (h0 : zHp) : zG X M_L_law (c1, c2) 440 [(0, .ref b), (1, .ref x), (2, .ref y), (3, .ref o), (4, .int i)] [] h0 (f_L_5 L xs x y o i h0) (fun r h' => zsl r (fun _ => zSW X M_L_law (c1, c2) 1595 [(0, .ref b), (1, .ref x), (2, .ref y), (3, .ref o), (4, .int i)] [] h') (fun v => zKe X (some (.int v)) h')) := by
  unfold f_L_5
  refine zg_aload_n 1 rfl d_L_law_440 ?_
  refine zg_aload_n 0 rfl d_L_law_441 ?_
  refine zg_iload 4 rfl d_L_law_442 ?_
  refine zg_iconst 1 rfl d_L_law_444 ?_
  refine zg_iadd d_L_law_445 ?_
  refine zg_sld hX d_L_law_446 (fun v35 => ?_)
  refine zg_aload_n 0 rfl d_L_law_447 ?_
  refine zg_iload 4 rfl d_L_law_448 ?_
  refine zg_iconst 2 rfl d_L_law_450 ?_
  refine zg_iadd d_L_law_451 ?_
  refine zg_sld hX d_L_law_452 (fun v36 => ?_)
  refine zg_cVi (b := x) (As := [.int v35, .int v36]) (rest := []) (c1, c2) d_L_law_453 zc_7 rfl cw_L_49 wi_X7_child ws_X7_child rfl rfl (Nat.le_of_ble_eq_true rfl) (by decide) (by decide) ⟨by show c1 + 0 ≤ 601024; omega, by show c2 + 0 ≤ 7293034; omega⟩ rfl (t_X7_child x v35 v36 h0) (fun v38 h37 => ?_)
  refine zg_aload_n 2 rfl d_L_law_456 ?_
  refine zg_aload_n 0 rfl d_L_law_457 ?_
  refine zg_iload 4 rfl d_L_law_458 ?_
  refine zg_iconst 1 rfl d_L_law_460 ?_
  refine zg_iadd d_L_law_461 ?_
  refine zg_sld hX d_L_law_462 (fun v39 => ?_)
  refine zg_aload_n 0 rfl d_L_law_463 ?_
  refine zg_iload 4 rfl d_L_law_464 ?_
  refine zg_iconst 2 rfl d_L_law_466 ?_
  refine zg_iadd d_L_law_467 ?_
  refine zg_sld hX d_L_law_468 (fun v40 => ?_)
  refine zg_cVi (b := y) (As := [.int v39, .int v40]) (rest := [.int v38]) (c1, c2) d_L_law_469 zc_8 rfl cw_L_52 wi_X8_child ws_X8_child rfl rfl (Nat.le_of_ble_eq_true rfl) (by decide) (by decide) ⟨by show c1 + 0 ≤ 601024; omega, by show c2 + 0 ≤ 7293034; omega⟩ rfl (t_X8_child y v39 v40 h37) (fun v42 h41 => ?_)
  refine zg_icmp_eq d_L_law_472 ?_ ?_
  · exact zg_finK (E := 0) [0, 1, 2, 3, 4] rfl rfl (fun q => q)
  · refine zg_iconst 0 rfl d_L_law_475 ?_
    exact zg_zretK d_L_law_476 rfl ⟨by show c1 ≤ 601024; omega, by show c2 ≤ 7293034; omega⟩ (Or.inl rfl) (fun q => q)
def f_L_6 (L : Nat) (xs : Nat → Int32) (x y o : Nat) (i : Int32) (h0 : zHp) : Option ((Unit ⊕ Int32) × zHp) :=
  zob (zsc L xs (i + 1)) (fun v43 =>
  zob (zsc L xs (i + 2)) (fun v44 =>
  zbd (zcv 7 x h0 (f_X7_field x v43 v44 h0)) (fun v46 h45 =>
  zob (zsc L xs (i + 1)) (fun v47 =>
  zob (zsc L xs (i + 2)) (fun v48 =>
  zbd (zcv 8 y h45 (f_X8_field y v47 v48 h45)) (fun v50 h49 =>
  if v46 = v50 then
  some ((.inl ()), h49)
  else
  some ((.inr 0), h49)))))))
set_option maxRecDepth 100000 in
set_option maxHeartbeats 4000000 in
theorem t_L_6 {X : zCx} {b L : Nat} {xs : Nat → Int32} {c1 c2 : Nat} (hX : zScr X b L xs) (hc : c1 ≤ 600000 ∧ c2 ≤ 7200000) (x y o : Nat) (i : Int32) (h0 : zHp) : zG X M_L_law (c1, c2) 477 [(0, .ref b), (1, .ref x), (2, .ref y), (3, .ref o), (4, .int i)] [] h0 (f_L_6 L xs x y o i h0) (fun r h' => zsl r (fun _ => zSW X M_L_law (c1, c2) 1595 [(0, .ref b), (1, .ref x), (2, .ref y), (3, .ref o), (4, .int i)] [] h') (fun v => zKe X (some (.int v)) h')) := by
  unfold f_L_6
  refine zg_aload_n 1 rfl d_L_law_477 ?_
  refine zg_aload_n 0 rfl d_L_law_478 ?_
  refine zg_iload 4 rfl d_L_law_479 ?_
  refine zg_iconst 1 rfl d_L_law_481 ?_
  refine zg_iadd d_L_law_482 ?_
  refine zg_sld hX d_L_law_483 (fun v43 => ?_)
  refine zg_aload_n 0 rfl d_L_law_484 ?_
  refine zg_iload 4 rfl d_L_law_485 ?_
  refine zg_iconst 2 rfl d_L_law_487 ?_
  refine zg_iadd d_L_law_488 ?_
  refine zg_sld hX d_L_law_489 (fun v44 => ?_)
  refine zg_cVi (b := x) (As := [.int v43, .int v44]) (rest := []) (c1, c2) d_L_law_490 zc_7 rfl cw_L_53 wi_X7_field ws_X7_field rfl rfl (Nat.le_of_ble_eq_true rfl) (by decide) (by decide) ⟨by show c1 + 0 ≤ 601024; omega, by show c2 + 0 ≤ 7293034; omega⟩ rfl (t_X7_field x v43 v44 h0) (fun v46 h45 => ?_)
  refine zg_aload_n 2 rfl d_L_law_493 ?_
  refine zg_aload_n 0 rfl d_L_law_494 ?_
  refine zg_iload 4 rfl d_L_law_495 ?_
  refine zg_iconst 1 rfl d_L_law_497 ?_
  refine zg_iadd d_L_law_498 ?_
  refine zg_sld hX d_L_law_499 (fun v47 => ?_)
  refine zg_aload_n 0 rfl d_L_law_500 ?_
  refine zg_iload 4 rfl d_L_law_501 ?_
  refine zg_iconst 2 rfl d_L_law_503 ?_
  refine zg_iadd d_L_law_504 ?_
  refine zg_sld hX d_L_law_505 (fun v48 => ?_)
  refine zg_cVi (b := y) (As := [.int v47, .int v48]) (rest := [.int v46]) (c1, c2) d_L_law_506 zc_8 rfl cw_L_56 wi_X8_field ws_X8_field rfl rfl (Nat.le_of_ble_eq_true rfl) (by decide) (by decide) ⟨by show c1 + 0 ≤ 601024; omega, by show c2 + 0 ≤ 7293034; omega⟩ rfl (t_X8_field y v47 v48 h45) (fun v50 h49 => ?_)
  refine zg_icmp_eq d_L_law_509 ?_ ?_
  · exact zg_finK (E := 0) [0, 1, 2, 3, 4] rfl rfl (fun q => q)
  · refine zg_iconst 0 rfl d_L_law_512 ?_
    exact zg_zretK d_L_law_513 rfl ⟨by show c1 ≤ 601024; omega, by show c2 ≤ 7293034; omega⟩ (Or.inl rfl) (fun q => q)
def f_L_7 (L : Nat) (xs : Nat → Int32) (x y o : Nat) (i : Int32) (h0 : zHp) : Option ((Unit ⊕ Int32) × zHp) :=
  zob (zsc L xs (i + 1)) (fun v51 =>
  zob (zsc L xs (i + 2)) (fun v52 =>
  zbd (zcv 7 x h0 (f_X7_ground x v51 v52 h0)) (fun v54 h53 =>
  zob (zsc L xs (i + 1)) (fun v55 =>
  zob (zsc L xs (i + 2)) (fun v56 =>
  zbd (zcv 8 y h53 (f_X8_ground y v55 v56 h53)) (fun v58 h57 =>
  if v54 = v58 then
  some ((.inl ()), h57)
  else
  some ((.inr 0), h57)))))))
set_option maxRecDepth 100000 in
set_option maxHeartbeats 4000000 in
theorem t_L_7 {X : zCx} {b L : Nat} {xs : Nat → Int32} {c1 c2 : Nat} (hX : zScr X b L xs) (hc : c1 ≤ 600000 ∧ c2 ≤ 7200000) (x y o : Nat) (i : Int32) (h0 : zHp) : zG X M_L_law (c1, c2) 514 [(0, .ref b), (1, .ref x), (2, .ref y), (3, .ref o), (4, .int i)] [] h0 (f_L_7 L xs x y o i h0) (fun r h' => zsl r (fun _ => zSW X M_L_law (c1, c2) 1595 [(0, .ref b), (1, .ref x), (2, .ref y), (3, .ref o), (4, .int i)] [] h') (fun v => zKe X (some (.int v)) h')) := by
  unfold f_L_7
  refine zg_aload_n 1 rfl d_L_law_514 ?_
  refine zg_aload_n 0 rfl d_L_law_515 ?_
  refine zg_iload 4 rfl d_L_law_516 ?_
  refine zg_iconst 1 rfl d_L_law_518 ?_
  refine zg_iadd d_L_law_519 ?_
  refine zg_sld hX d_L_law_520 (fun v51 => ?_)
  refine zg_aload_n 0 rfl d_L_law_521 ?_
  refine zg_iload 4 rfl d_L_law_522 ?_
  refine zg_iconst 2 rfl d_L_law_524 ?_
  refine zg_iadd d_L_law_525 ?_
  refine zg_sld hX d_L_law_526 (fun v52 => ?_)
  refine zg_cVi (b := x) (As := [.int v51, .int v52]) (rest := []) (c1, c2) d_L_law_527 zc_7 rfl cw_L_57 wi_X7_ground ws_X7_ground rfl rfl (Nat.le_of_ble_eq_true rfl) (by decide) (by decide) ⟨by show c1 + 0 ≤ 601024; omega, by show c2 + 0 ≤ 7293034; omega⟩ rfl (t_X7_ground x v51 v52 h0) (fun v54 h53 => ?_)
  refine zg_aload_n 2 rfl d_L_law_530 ?_
  refine zg_aload_n 0 rfl d_L_law_531 ?_
  refine zg_iload 4 rfl d_L_law_532 ?_
  refine zg_iconst 1 rfl d_L_law_534 ?_
  refine zg_iadd d_L_law_535 ?_
  refine zg_sld hX d_L_law_536 (fun v55 => ?_)
  refine zg_aload_n 0 rfl d_L_law_537 ?_
  refine zg_iload 4 rfl d_L_law_538 ?_
  refine zg_iconst 2 rfl d_L_law_540 ?_
  refine zg_iadd d_L_law_541 ?_
  refine zg_sld hX d_L_law_542 (fun v56 => ?_)
  refine zg_cVi (b := y) (As := [.int v55, .int v56]) (rest := [.int v54]) (c1, c2) d_L_law_543 zc_8 rfl cw_L_60 wi_X8_ground ws_X8_ground rfl rfl (Nat.le_of_ble_eq_true rfl) (by decide) (by decide) ⟨by show c1 + 0 ≤ 601024; omega, by show c2 + 0 ≤ 7293034; omega⟩ rfl (t_X8_ground y v55 v56 h53) (fun v58 h57 => ?_)
  refine zg_icmp_eq d_L_law_546 ?_ ?_
  · exact zg_finK (E := 0) [0, 1, 2, 3, 4] rfl rfl (fun q => q)
  · refine zg_iconst 0 rfl d_L_law_549 ?_
    exact zg_zretK d_L_law_550 rfl ⟨by show c1 ≤ 601024; omega, by show c2 ≤ 7293034; omega⟩ (Or.inl rfl) (fun q => q)
def f_L_8 (L : Nat) (xs : Nat → Int32) (x y o : Nat) (i : Int32) (h0 : zHp) : Option ((Unit ⊕ Int32) × zHp) :=
  zob (zsc L xs (i + 1)) (fun v59 =>
  zbd (zcv 7 x h0 (f_X7_sees x v59 h0)) (fun v61 h60 =>
  zob (zsc L xs (i + 1)) (fun v62 =>
  zbd (zcv 8 y h60 (f_X8_sees y v62 h60)) (fun v64 h63 =>
  if v61 = v64 then
  some ((.inl ()), h63)
  else
  some ((.inr 0), h63)))))
set_option maxRecDepth 100000 in
set_option maxHeartbeats 4000000 in
theorem t_L_8 {X : zCx} {b L : Nat} {xs : Nat → Int32} {c1 c2 : Nat} (hX : zScr X b L xs) (hc : c1 ≤ 600000 ∧ c2 ≤ 7200000) (x y o : Nat) (i : Int32) (h0 : zHp) : zG X M_L_law (c1, c2) 551 [(0, .ref b), (1, .ref x), (2, .ref y), (3, .ref o), (4, .int i)] [] h0 (f_L_8 L xs x y o i h0) (fun r h' => zsl r (fun _ => zSW X M_L_law (c1, c2) 1595 [(0, .ref b), (1, .ref x), (2, .ref y), (3, .ref o), (4, .int i)] [] h') (fun v => zKe X (some (.int v)) h')) := by
  unfold f_L_8
  refine zg_aload_n 1 rfl d_L_law_551 ?_
  refine zg_aload_n 0 rfl d_L_law_552 ?_
  refine zg_iload 4 rfl d_L_law_553 ?_
  refine zg_iconst 1 rfl d_L_law_555 ?_
  refine zg_iadd d_L_law_556 ?_
  refine zg_sld hX d_L_law_557 (fun v59 => ?_)
  refine zg_cVi (b := x) (As := [.int v59]) (rest := []) (c1, c2) d_L_law_558 zc_7 rfl cw_L_61 wi_X7_sees ws_X7_sees rfl rfl (Nat.le_of_ble_eq_true rfl) (by decide) (by decide) ⟨by show c1 + 0 ≤ 601024; omega, by show c2 + 0 ≤ 7293034; omega⟩ rfl (t_X7_sees x v59 h0) (fun v61 h60 => ?_)
  refine zg_aload_n 2 rfl d_L_law_561 ?_
  refine zg_aload_n 0 rfl d_L_law_562 ?_
  refine zg_iload 4 rfl d_L_law_563 ?_
  refine zg_iconst 1 rfl d_L_law_565 ?_
  refine zg_iadd d_L_law_566 ?_
  refine zg_sld hX d_L_law_567 (fun v62 => ?_)
  refine zg_cVi (b := y) (As := [.int v62]) (rest := [.int v61]) (c1, c2) d_L_law_568 zc_8 rfl cw_L_64 wi_X8_sees ws_X8_sees rfl rfl (Nat.le_of_ble_eq_true rfl) (by decide) (by decide) ⟨by show c1 + 0 ≤ 601024; omega, by show c2 + 0 ≤ 7293034; omega⟩ rfl (t_X8_sees y v62 h60) (fun v64 h63 => ?_)
  refine zg_icmp_eq d_L_law_571 ?_ ?_
  · exact zg_finK (E := 0) [0, 1, 2, 3, 4] rfl rfl (fun q => q)
  · refine zg_iconst 0 rfl d_L_law_574 ?_
    exact zg_zretK d_L_law_575 rfl ⟨by show c1 ≤ 601024; omega, by show c2 ≤ 7293034; omega⟩ (Or.inl rfl) (fun q => q)
def f_L_9 (L : Nat) (xs : Nat → Int32) (x y o : Nat) (i : Int32) (h0 : zHp) : Option ((Unit ⊕ Int32) × zHp) :=
  zob (zsc L xs (i + 1)) (fun v65 =>
  zob (zsc L xs (i + 2)) (fun v66 =>
  zbd (zcv 7 x h0 (f_X7_in x v65 v66 h0)) (fun v68 h67 =>
  zob (zsc L xs (i + 1)) (fun v69 =>
  zob (zsc L xs (i + 2)) (fun v70 =>
  zbd (zcv 8 y h67 (f_X8_in y v69 v70 h67)) (fun v72 h71 =>
  if v68 = v72 then
  some ((.inl ()), h71)
  else
  some ((.inr 0), h71)))))))
set_option maxRecDepth 100000 in
set_option maxHeartbeats 4000000 in
theorem t_L_9 {X : zCx} {b L : Nat} {xs : Nat → Int32} {c1 c2 : Nat} (hX : zScr X b L xs) (hc : c1 ≤ 600000 ∧ c2 ≤ 7200000) (x y o : Nat) (i : Int32) (h0 : zHp) : zG X M_L_law (c1, c2) 576 [(0, .ref b), (1, .ref x), (2, .ref y), (3, .ref o), (4, .int i)] [] h0 (f_L_9 L xs x y o i h0) (fun r h' => zsl r (fun _ => zSW X M_L_law (c1, c2) 1595 [(0, .ref b), (1, .ref x), (2, .ref y), (3, .ref o), (4, .int i)] [] h') (fun v => zKe X (some (.int v)) h')) := by
  unfold f_L_9
  refine zg_aload_n 1 rfl d_L_law_576 ?_
  refine zg_aload_n 0 rfl d_L_law_577 ?_
  refine zg_iload 4 rfl d_L_law_578 ?_
  refine zg_iconst 1 rfl d_L_law_580 ?_
  refine zg_iadd d_L_law_581 ?_
  refine zg_sld hX d_L_law_582 (fun v65 => ?_)
  refine zg_aload_n 0 rfl d_L_law_583 ?_
  refine zg_iload 4 rfl d_L_law_584 ?_
  refine zg_iconst 2 rfl d_L_law_586 ?_
  refine zg_iadd d_L_law_587 ?_
  refine zg_sld hX d_L_law_588 (fun v66 => ?_)
  refine zg_cVi (b := x) (As := [.int v65, .int v66]) (rest := []) (c1, c2) d_L_law_589 zc_7 rfl cw_L_65 wi_X7_in ws_X7_in rfl rfl (Nat.le_of_ble_eq_true rfl) (by decide) (by decide) ⟨by show c1 + 0 ≤ 601024; omega, by show c2 + 0 ≤ 7293034; omega⟩ rfl (t_X7_in x v65 v66 h0) (fun v68 h67 => ?_)
  refine zg_aload_n 2 rfl d_L_law_592 ?_
  refine zg_aload_n 0 rfl d_L_law_593 ?_
  refine zg_iload 4 rfl d_L_law_594 ?_
  refine zg_iconst 1 rfl d_L_law_596 ?_
  refine zg_iadd d_L_law_597 ?_
  refine zg_sld hX d_L_law_598 (fun v69 => ?_)
  refine zg_aload_n 0 rfl d_L_law_599 ?_
  refine zg_iload 4 rfl d_L_law_600 ?_
  refine zg_iconst 2 rfl d_L_law_602 ?_
  refine zg_iadd d_L_law_603 ?_
  refine zg_sld hX d_L_law_604 (fun v70 => ?_)
  refine zg_cVi (b := y) (As := [.int v69, .int v70]) (rest := [.int v68]) (c1, c2) d_L_law_605 zc_8 rfl cw_L_68 wi_X8_in ws_X8_in rfl rfl (Nat.le_of_ble_eq_true rfl) (by decide) (by decide) ⟨by show c1 + 0 ≤ 601024; omega, by show c2 + 0 ≤ 7293034; omega⟩ rfl (t_X8_in y v69 v70 h67) (fun v72 h71 => ?_)
  refine zg_icmp_eq d_L_law_608 ?_ ?_
  · exact zg_finK (E := 0) [0, 1, 2, 3, 4] rfl rfl (fun q => q)
  · refine zg_iconst 0 rfl d_L_law_611 ?_
    exact zg_zretK d_L_law_612 rfl ⟨by show c1 ≤ 601024; omega, by show c2 ≤ 7293034; omega⟩ (Or.inl rfl) (fun q => q)
def f_L_10 (L : Nat) (xs : Nat → Int32) (x y o : Nat) (i : Int32) (h0 : zHp) : Option ((Unit ⊕ Int32) × zHp) :=
  zob (zsc L xs (i + 1)) (fun v73 =>
  zob (zsc L xs (i + 2)) (fun v74 =>
  zbd (zcv 7 x h0 (f_X7_law x v73 v74 h0)) (fun v76 h75 =>
  zob (zsc L xs (i + 1)) (fun v77 =>
  zob (zsc L xs (i + 2)) (fun v78 =>
  zbd (zcv 8 y h75 (f_X8_law y v77 v78 h75)) (fun v80 h79 =>
  if (lg_cmp v76 v80) = 0 then
  some ((.inl ()), h79)
  else
  some ((.inr 0), h79)))))))
set_option maxRecDepth 100000 in
set_option maxHeartbeats 4000000 in
theorem t_L_10 {X : zCx} {b L : Nat} {xs : Nat → Int32} {c1 c2 : Nat} (hX : zScr X b L xs) (hc : c1 ≤ 600000 ∧ c2 ≤ 7200000) (x y o : Nat) (i : Int32) (h0 : zHp) : zG X M_L_law (c1, c2) 613 [(0, .ref b), (1, .ref x), (2, .ref y), (3, .ref o), (4, .int i)] [] h0 (f_L_10 L xs x y o i h0) (fun r h' => zsl r (fun _ => zSW X M_L_law (c1, c2) 1595 [(0, .ref b), (1, .ref x), (2, .ref y), (3, .ref o), (4, .int i)] [] h') (fun v => zKe X (some (.int v)) h')) := by
  unfold f_L_10
  refine zg_aload_n 1 rfl d_L_law_613 ?_
  refine zg_aload_n 0 rfl d_L_law_614 ?_
  refine zg_iload 4 rfl d_L_law_615 ?_
  refine zg_iconst 1 rfl d_L_law_617 ?_
  refine zg_iadd d_L_law_618 ?_
  refine zg_sld hX d_L_law_619 (fun v73 => ?_)
  refine zg_aload_n 0 rfl d_L_law_620 ?_
  refine zg_iload 4 rfl d_L_law_621 ?_
  refine zg_iconst 2 rfl d_L_law_623 ?_
  refine zg_iadd d_L_law_624 ?_
  refine zg_sld hX d_L_law_625 (fun v74 => ?_)
  refine zg_cVl (b := x) (As := [.int v73, .int v74]) (rest := []) (c1, c2) d_L_law_626 zc_7 rfl cw_L_69 wi_X7_law ws_X7_law rfl rfl (Nat.le_of_ble_eq_true rfl) (by decide) (by decide) ⟨by show c1 + 0 ≤ 601024; omega, by show c2 + 0 ≤ 7293034; omega⟩ rfl (t_X7_law x v73 v74 h0) (fun v76 h75 => ?_)
  refine zg_aload_n 2 rfl d_L_law_629 ?_
  refine zg_aload_n 0 rfl d_L_law_630 ?_
  refine zg_iload 4 rfl d_L_law_631 ?_
  refine zg_iconst 1 rfl d_L_law_633 ?_
  refine zg_iadd d_L_law_634 ?_
  refine zg_sld hX d_L_law_635 (fun v77 => ?_)
  refine zg_aload_n 0 rfl d_L_law_636 ?_
  refine zg_iload 4 rfl d_L_law_637 ?_
  refine zg_iconst 2 rfl d_L_law_639 ?_
  refine zg_iadd d_L_law_640 ?_
  refine zg_sld hX d_L_law_641 (fun v78 => ?_)
  refine zg_cVl (b := y) (As := [.int v77, .int v78]) (rest := [.long v76]) (c1, c2) d_L_law_642 zc_8 rfl cw_L_73 wi_X8_law ws_X8_law rfl rfl (Nat.le_of_ble_eq_true rfl) (by decide) (by decide) ⟨by show c1 + 0 ≤ 601024; omega, by show c2 + 0 ≤ 7293034; omega⟩ rfl (t_X8_law y v77 v78 h75) (fun v80 h79 => ?_)
  refine zg_lcmp d_L_law_645 ?_
  refine zg_if_eq d_L_law_646 ?_ ?_
  · exact zg_finK (E := 0) [0, 1, 2, 3, 4] rfl rfl (fun q => q)
  · refine zg_iconst 0 rfl d_L_law_649 ?_
    exact zg_zretK d_L_law_650 rfl ⟨by show c1 ≤ 601024; omega, by show c2 ≤ 7293034; omega⟩ (Or.inl rfl) (fun q => q)
def f_L_11 (L : Nat) (xs : Nat → Int32) (x y o : Nat) (i : Int32) (h0 : zHp) : Option ((Unit ⊕ Int32) × zHp) :=
  zob (zsc L xs (i + 1)) (fun v81 =>
  zob (zsc L xs (i + 2)) (fun v82 =>
  zbd (zcv 7 x h0 (f_X7_push x v81 v82 h0)) (fun v84 h83 =>
  zob (zsc L xs (i + 1)) (fun v85 =>
  zob (zsc L xs (i + 2)) (fun v86 =>
  zbd (zcv 8 y h83 (f_X8_push y v85 v86 h83)) (fun v88 h87 =>
  if v84 = v88 then
  some ((.inl ()), h87)
  else
  some ((.inr 0), h87)))))))
set_option maxRecDepth 100000 in
set_option maxHeartbeats 4000000 in
theorem t_L_11 {X : zCx} {b L : Nat} {xs : Nat → Int32} {c1 c2 : Nat} (hX : zScr X b L xs) (hc : c1 ≤ 600000 ∧ c2 ≤ 7200000) (x y o : Nat) (i : Int32) (h0 : zHp) : zG X M_L_law (c1, c2) 651 [(0, .ref b), (1, .ref x), (2, .ref y), (3, .ref o), (4, .int i)] [] h0 (f_L_11 L xs x y o i h0) (fun r h' => zsl r (fun _ => zSW X M_L_law (c1, c2) 1595 [(0, .ref b), (1, .ref x), (2, .ref y), (3, .ref o), (4, .int i)] [] h') (fun v => zKe X (some (.int v)) h')) := by
  unfold f_L_11
  refine zg_aload_n 1 rfl d_L_law_651 ?_
  refine zg_aload_n 0 rfl d_L_law_652 ?_
  refine zg_iload 4 rfl d_L_law_653 ?_
  refine zg_iconst 1 rfl d_L_law_655 ?_
  refine zg_iadd d_L_law_656 ?_
  refine zg_sld hX d_L_law_657 (fun v81 => ?_)
  refine zg_aload_n 0 rfl d_L_law_658 ?_
  refine zg_iload 4 rfl d_L_law_659 ?_
  refine zg_iconst 2 rfl d_L_law_661 ?_
  refine zg_iadd d_L_law_662 ?_
  refine zg_sld hX d_L_law_663 (fun v82 => ?_)
  refine zg_cVi (b := x) (As := [.int v81, .int v82]) (rest := []) (c1, c2) d_L_law_664 zc_7 rfl cw_L_74 wi_X7_push ws_X7_push rfl rfl (Nat.le_of_ble_eq_true rfl) (by decide) (by decide) ⟨by show c1 + 0 ≤ 601024; omega, by show c2 + 0 ≤ 7293034; omega⟩ rfl (t_X7_push x v81 v82 h0) (fun v84 h83 => ?_)
  refine zg_aload_n 2 rfl d_L_law_667 ?_
  refine zg_aload_n 0 rfl d_L_law_668 ?_
  refine zg_iload 4 rfl d_L_law_669 ?_
  refine zg_iconst 1 rfl d_L_law_671 ?_
  refine zg_iadd d_L_law_672 ?_
  refine zg_sld hX d_L_law_673 (fun v85 => ?_)
  refine zg_aload_n 0 rfl d_L_law_674 ?_
  refine zg_iload 4 rfl d_L_law_675 ?_
  refine zg_iconst 2 rfl d_L_law_677 ?_
  refine zg_iadd d_L_law_678 ?_
  refine zg_sld hX d_L_law_679 (fun v86 => ?_)
  refine zg_cVi (b := y) (As := [.int v85, .int v86]) (rest := [.int v84]) (c1, c2) d_L_law_680 zc_8 rfl cw_L_77 wi_X8_push ws_X8_push rfl rfl (Nat.le_of_ble_eq_true rfl) (by decide) (by decide) ⟨by show c1 + 0 ≤ 601024; omega, by show c2 + 0 ≤ 7293034; omega⟩ rfl (t_X8_push y v85 v86 h83) (fun v88 h87 => ?_)
  refine zg_icmp_eq d_L_law_683 ?_ ?_
  · exact zg_finK (E := 0) [0, 1, 2, 3, 4] rfl rfl (fun q => q)
  · refine zg_iconst 0 rfl d_L_law_686 ?_
    exact zg_zretK d_L_law_687 rfl ⟨by show c1 ≤ 601024; omega, by show c2 ≤ 7293034; omega⟩ (Or.inl rfl) (fun q => q)
def f_L_12 (L : Nat) (xs : Nat → Int32) (x y o : Nat) (i : Int32) (h0 : zHp) : Option ((Unit ⊕ Int32) × zHp) :=
  zob (zsc L xs (i + 1)) (fun v89 =>
  zob (zsc L xs (i + 2)) (fun v90 =>
  zbd (zcv 7 x h0 (f_X7_give x v89 v90 h0)) (fun v92 h91 =>
  zob (zsc L xs (i + 1)) (fun v93 =>
  zob (zsc L xs (i + 2)) (fun v94 =>
  zbd (zcv 8 y h91 (f_X8_give y v93 v94 h91)) (fun v96 h95 =>
  if v92 = v96 then
  some ((.inl ()), h95)
  else
  some ((.inr 0), h95)))))))
set_option maxRecDepth 100000 in
set_option maxHeartbeats 4000000 in
theorem t_L_12 {X : zCx} {b L : Nat} {xs : Nat → Int32} {c1 c2 : Nat} (hX : zScr X b L xs) (hc : c1 ≤ 600000 ∧ c2 ≤ 7200000) (x y o : Nat) (i : Int32) (h0 : zHp) : zG X M_L_law (c1, c2) 688 [(0, .ref b), (1, .ref x), (2, .ref y), (3, .ref o), (4, .int i)] [] h0 (f_L_12 L xs x y o i h0) (fun r h' => zsl r (fun _ => zSW X M_L_law (c1, c2) 1595 [(0, .ref b), (1, .ref x), (2, .ref y), (3, .ref o), (4, .int i)] [] h') (fun v => zKe X (some (.int v)) h')) := by
  unfold f_L_12
  refine zg_aload_n 1 rfl d_L_law_688 ?_
  refine zg_aload_n 0 rfl d_L_law_689 ?_
  refine zg_iload 4 rfl d_L_law_690 ?_
  refine zg_iconst 1 rfl d_L_law_692 ?_
  refine zg_iadd d_L_law_693 ?_
  refine zg_sld hX d_L_law_694 (fun v89 => ?_)
  refine zg_aload_n 0 rfl d_L_law_695 ?_
  refine zg_iload 4 rfl d_L_law_696 ?_
  refine zg_iconst 2 rfl d_L_law_698 ?_
  refine zg_iadd d_L_law_699 ?_
  refine zg_sld hX d_L_law_700 (fun v90 => ?_)
  refine zg_cVi (b := x) (As := [.int v89, .int v90]) (rest := []) (c1, c2) d_L_law_701 zc_7 rfl cw_L_78 wi_X7_give ws_X7_give rfl rfl (Nat.le_of_ble_eq_true rfl) (by decide) (by decide) ⟨by show c1 + 0 ≤ 601024; omega, by show c2 + 0 ≤ 7293034; omega⟩ rfl (t_X7_give x v89 v90 h0) (fun v92 h91 => ?_)
  refine zg_aload_n 2 rfl d_L_law_704 ?_
  refine zg_aload_n 0 rfl d_L_law_705 ?_
  refine zg_iload 4 rfl d_L_law_706 ?_
  refine zg_iconst 1 rfl d_L_law_708 ?_
  refine zg_iadd d_L_law_709 ?_
  refine zg_sld hX d_L_law_710 (fun v93 => ?_)
  refine zg_aload_n 0 rfl d_L_law_711 ?_
  refine zg_iload 4 rfl d_L_law_712 ?_
  refine zg_iconst 2 rfl d_L_law_714 ?_
  refine zg_iadd d_L_law_715 ?_
  refine zg_sld hX d_L_law_716 (fun v94 => ?_)
  refine zg_cVi (b := y) (As := [.int v93, .int v94]) (rest := [.int v92]) (c1, c2) d_L_law_717 zc_8 rfl cw_L_82 wi_X8_give ws_X8_give rfl rfl (Nat.le_of_ble_eq_true rfl) (by decide) (by decide) ⟨by show c1 + 0 ≤ 601024; omega, by show c2 + 0 ≤ 7293034; omega⟩ rfl (t_X8_give y v93 v94 h91) (fun v96 h95 => ?_)
  refine zg_icmp_eq d_L_law_720 ?_ ?_
  · exact zg_finK (E := 0) [0, 1, 2, 3, 4] rfl rfl (fun q => q)
  · refine zg_iconst 0 rfl d_L_law_723 ?_
    exact zg_zretK d_L_law_724 rfl ⟨by show c1 ≤ 601024; omega, by show c2 ≤ 7293034; omega⟩ (Or.inl rfl) (fun q => q)
def f_L_13 (L : Nat) (xs : Nat → Int32) (x y o : Nat) (i : Int32) (h0 : zHp) : Option ((Unit ⊕ Int32) × zHp) :=
  zob (zsc L xs (i + 1)) (fun v97 =>
  zob (zsc L xs (i + 2)) (fun v98 =>
  zob (zsc L xs (i + 3)) (fun v99 =>
  zbd (zcv 7 x h0 (f_X7_stand x v97 v98 v99 h0)) (fun v101 h100 =>
  zob (zsc L xs (i + 1)) (fun v102 =>
  zob (zsc L xs (i + 2)) (fun v103 =>
  zob (zsc L xs (i + 3)) (fun v104 =>
  zbd (zcv 8 y h100 (f_X8_stand y v102 v103 v104 h100)) (fun v106 h105 =>
  if v101 = v106 then
  some ((.inl ()), h105)
  else
  some ((.inr 0), h105)))))))))
set_option maxRecDepth 100000 in
set_option maxHeartbeats 4000000 in
theorem t_L_13 {X : zCx} {b L : Nat} {xs : Nat → Int32} {c1 c2 : Nat} (hX : zScr X b L xs) (hc : c1 ≤ 600000 ∧ c2 ≤ 7200000) (x y o : Nat) (i : Int32) (h0 : zHp) : zG X M_L_law (c1, c2) 725 [(0, .ref b), (1, .ref x), (2, .ref y), (3, .ref o), (4, .int i)] [] h0 (f_L_13 L xs x y o i h0) (fun r h' => zsl r (fun _ => zSW X M_L_law (c1, c2) 1595 [(0, .ref b), (1, .ref x), (2, .ref y), (3, .ref o), (4, .int i)] [] h') (fun v => zKe X (some (.int v)) h')) := by
  unfold f_L_13
  refine zg_aload_n 1 rfl d_L_law_725 ?_
  refine zg_aload_n 0 rfl d_L_law_726 ?_
  refine zg_iload 4 rfl d_L_law_727 ?_
  refine zg_iconst 1 rfl d_L_law_729 ?_
  refine zg_iadd d_L_law_730 ?_
  refine zg_sld hX d_L_law_731 (fun v97 => ?_)
  refine zg_aload_n 0 rfl d_L_law_732 ?_
  refine zg_iload 4 rfl d_L_law_733 ?_
  refine zg_iconst 2 rfl d_L_law_735 ?_
  refine zg_iadd d_L_law_736 ?_
  refine zg_sld hX d_L_law_737 (fun v98 => ?_)
  refine zg_aload_n 0 rfl d_L_law_738 ?_
  refine zg_iload 4 rfl d_L_law_739 ?_
  refine zg_iconst 3 rfl d_L_law_741 ?_
  refine zg_iadd d_L_law_742 ?_
  refine zg_sld hX d_L_law_743 (fun v99 => ?_)
  refine zg_cVi (b := x) (As := [.int v97, .int v98, .int v99]) (rest := []) (c1, c2) d_L_law_744 zc_7 rfl cw_L_83 wi_X7_stand ws_X7_stand rfl rfl (Nat.le_of_ble_eq_true rfl) (by decide) (by decide) ⟨by show c1 + 0 ≤ 601024; omega, by show c2 + 0 ≤ 7293034; omega⟩ rfl (t_X7_stand x v97 v98 v99 h0) (fun v101 h100 => ?_)
  refine zg_aload_n 2 rfl d_L_law_747 ?_
  refine zg_aload_n 0 rfl d_L_law_748 ?_
  refine zg_iload 4 rfl d_L_law_749 ?_
  refine zg_iconst 1 rfl d_L_law_751 ?_
  refine zg_iadd d_L_law_752 ?_
  refine zg_sld hX d_L_law_753 (fun v102 => ?_)
  refine zg_aload_n 0 rfl d_L_law_754 ?_
  refine zg_iload 4 rfl d_L_law_755 ?_
  refine zg_iconst 2 rfl d_L_law_757 ?_
  refine zg_iadd d_L_law_758 ?_
  refine zg_sld hX d_L_law_759 (fun v103 => ?_)
  refine zg_aload_n 0 rfl d_L_law_760 ?_
  refine zg_iload 4 rfl d_L_law_761 ?_
  refine zg_iconst 3 rfl d_L_law_763 ?_
  refine zg_iadd d_L_law_764 ?_
  refine zg_sld hX d_L_law_765 (fun v104 => ?_)
  refine zg_cVi (b := y) (As := [.int v102, .int v103, .int v104]) (rest := [.int v101]) (c1, c2) d_L_law_766 zc_8 rfl cw_L_87 wi_X8_stand ws_X8_stand rfl rfl (Nat.le_of_ble_eq_true rfl) (by decide) (by decide) ⟨by show c1 + 0 ≤ 601024; omega, by show c2 + 0 ≤ 7293034; omega⟩ rfl (t_X8_stand y v102 v103 v104 h100) (fun v106 h105 => ?_)
  refine zg_icmp_eq d_L_law_769 ?_ ?_
  · exact zg_finK (E := 0) [0, 1, 2, 3, 4] rfl rfl (fun q => q)
  · refine zg_iconst 0 rfl d_L_law_772 ?_
    exact zg_zretK d_L_law_773 rfl ⟨by show c1 ≤ 601024; omega, by show c2 ≤ 7293034; omega⟩ (Or.inl rfl) (fun q => q)
def f_L_14 (L : Nat) (xs : Nat → Int32) (x y o : Nat) (i : Int32) (h0 : zHp) : Option ((Unit ⊕ Int32) × zHp) :=
  zob (zsc L xs (i + 1)) (fun v107 =>
  zbd (zcv 7 x h0 (f_X7_blow x v107 h0)) (fun v109 h108 =>
  zob (zsc L xs (i + 1)) (fun v110 =>
  zbd (zcv 8 y h108 (f_X8_blow y v110 h108)) (fun v112 h111 =>
  if v109 = v112 then
  some ((.inl ()), h111)
  else
  some ((.inr 0), h111)))))
set_option maxRecDepth 100000 in
set_option maxHeartbeats 4000000 in
theorem t_L_14 {X : zCx} {b L : Nat} {xs : Nat → Int32} {c1 c2 : Nat} (hX : zScr X b L xs) (hc : c1 ≤ 600000 ∧ c2 ≤ 7200000) (x y o : Nat) (i : Int32) (h0 : zHp) : zG X M_L_law (c1, c2) 774 [(0, .ref b), (1, .ref x), (2, .ref y), (3, .ref o), (4, .int i)] [] h0 (f_L_14 L xs x y o i h0) (fun r h' => zsl r (fun _ => zSW X M_L_law (c1, c2) 1595 [(0, .ref b), (1, .ref x), (2, .ref y), (3, .ref o), (4, .int i)] [] h') (fun v => zKe X (some (.int v)) h')) := by
  unfold f_L_14
  refine zg_aload_n 1 rfl d_L_law_774 ?_
  refine zg_aload_n 0 rfl d_L_law_775 ?_
  refine zg_iload 4 rfl d_L_law_776 ?_
  refine zg_iconst 1 rfl d_L_law_778 ?_
  refine zg_iadd d_L_law_779 ?_
  refine zg_sld hX d_L_law_780 (fun v107 => ?_)
  refine zg_cVi (b := x) (As := [.int v107]) (rest := []) (c1, c2) d_L_law_781 zc_7 rfl cw_L_88 wi_X7_blow ws_X7_blow rfl rfl (Nat.le_of_ble_eq_true rfl) (by decide) (by decide) ⟨by show c1 + 0 ≤ 601024; omega, by show c2 + 0 ≤ 7293034; omega⟩ rfl (t_X7_blow x v107 h0) (fun v109 h108 => ?_)
  refine zg_aload_n 2 rfl d_L_law_784 ?_
  refine zg_aload_n 0 rfl d_L_law_785 ?_
  refine zg_iload 4 rfl d_L_law_786 ?_
  refine zg_iconst 1 rfl d_L_law_788 ?_
  refine zg_iadd d_L_law_789 ?_
  refine zg_sld hX d_L_law_790 (fun v110 => ?_)
  refine zg_cVi (b := y) (As := [.int v110]) (rest := [.int v109]) (c1, c2) d_L_law_791 zc_8 rfl cw_L_92 wi_X8_blow ws_X8_blow rfl rfl (Nat.le_of_ble_eq_true rfl) (by decide) (by decide) ⟨by show c1 + 0 ≤ 601024; omega, by show c2 + 0 ≤ 7293034; omega⟩ rfl (t_X8_blow y v110 h108) (fun v112 h111 => ?_)
  refine zg_icmp_eq d_L_law_794 ?_ ?_
  · exact zg_finK (E := 0) [0, 1, 2, 3, 4] rfl rfl (fun q => q)
  · refine zg_iconst 0 rfl d_L_law_797 ?_
    exact zg_zretK d_L_law_798 rfl ⟨by show c1 ≤ 601024; omega, by show c2 ≤ 7293034; omega⟩ (Or.inl rfl) (fun q => q)
def f_L_15 (L : Nat) (xs : Nat → Int32) (x y o : Nat) (i : Int32) (h0 : zHp) : Option ((Unit ⊕ Int32) × zHp) :=
  zob (zsc L xs (i + 1)) (fun v113 =>
  zbd (zcv 7 x h0 (f_X7_go x v113 h0)) (fun v115 h114 =>
  zob (zsc L xs (i + 1)) (fun v116 =>
  zbd (zcv 8 y h114 (f_X8_go y v116 h114)) (fun v118 h117 =>
  if v115 = v118 then
  some ((.inl ()), h117)
  else
  some ((.inr 0), h117)))))
set_option maxRecDepth 100000 in
set_option maxHeartbeats 4000000 in
theorem t_L_15 {X : zCx} {b L : Nat} {xs : Nat → Int32} {c1 c2 : Nat} (hX : zScr X b L xs) (hc : c1 ≤ 600000 ∧ c2 ≤ 7200000) (x y o : Nat) (i : Int32) (h0 : zHp) : zG X M_L_law (c1, c2) 799 [(0, .ref b), (1, .ref x), (2, .ref y), (3, .ref o), (4, .int i)] [] h0 (f_L_15 L xs x y o i h0) (fun r h' => zsl r (fun _ => zSW X M_L_law (c1, c2) 1595 [(0, .ref b), (1, .ref x), (2, .ref y), (3, .ref o), (4, .int i)] [] h') (fun v => zKe X (some (.int v)) h')) := by
  unfold f_L_15
  refine zg_aload_n 1 rfl d_L_law_799 ?_
  refine zg_aload_n 0 rfl d_L_law_800 ?_
  refine zg_iload 4 rfl d_L_law_801 ?_
  refine zg_iconst 1 rfl d_L_law_803 ?_
  refine zg_iadd d_L_law_804 ?_
  refine zg_sld hX d_L_law_805 (fun v113 => ?_)
  refine zg_cVi (b := x) (As := [.int v113]) (rest := []) (c1, c2) d_L_law_806 zc_7 rfl cw_L_93 wi_X7_go ws_X7_go rfl rfl (Nat.le_of_ble_eq_true rfl) (by decide) (by decide) ⟨by show c1 + 0 ≤ 601024; omega, by show c2 + 0 ≤ 7293034; omega⟩ rfl (t_X7_go x v113 h0) (fun v115 h114 => ?_)
  refine zg_aload_n 2 rfl d_L_law_809 ?_
  refine zg_aload_n 0 rfl d_L_law_810 ?_
  refine zg_iload 4 rfl d_L_law_811 ?_
  refine zg_iconst 1 rfl d_L_law_813 ?_
  refine zg_iadd d_L_law_814 ?_
  refine zg_sld hX d_L_law_815 (fun v116 => ?_)
  refine zg_cVi (b := y) (As := [.int v116]) (rest := [.int v115]) (c1, c2) d_L_law_816 zc_8 rfl cw_L_96 wi_X8_go ws_X8_go rfl rfl (Nat.le_of_ble_eq_true rfl) (by decide) (by decide) ⟨by show c1 + 0 ≤ 601024; omega, by show c2 + 0 ≤ 7293034; omega⟩ rfl (t_X8_go y v116 h114) (fun v118 h117 => ?_)
  refine zg_icmp_eq d_L_law_819 ?_ ?_
  · exact zg_finK (E := 0) [0, 1, 2, 3, 4] rfl rfl (fun q => q)
  · refine zg_iconst 0 rfl d_L_law_822 ?_
    exact zg_zretK d_L_law_823 rfl ⟨by show c1 ≤ 601024; omega, by show c2 ≤ 7293034; omega⟩ (Or.inl rfl) (fun q => q)
def f_L_16 (L : Nat) (xs : Nat → Int32) (x y o : Nat) (i : Int32) (h0 : zHp) : Option ((Unit ⊕ Int32) × zHp) :=
  zob (zsc L xs (i + 1)) (fun v119 =>
  zob (zsc L xs (i + 2)) (fun v120 =>
  zbd (zcv 7 x h0 (f_X7_ahead x v119 v120 h0)) (fun v122 h121 =>
  zob (zsc L xs (i + 1)) (fun v123 =>
  zob (zsc L xs (i + 2)) (fun v124 =>
  zbd (zcv 8 y h121 (f_X8_ahead y v123 v124 h121)) (fun v126 h125 =>
  if v122 = v126 then
  some ((.inl ()), h125)
  else
  some ((.inr 0), h125)))))))
set_option maxRecDepth 100000 in
set_option maxHeartbeats 4000000 in
theorem t_L_16 {X : zCx} {b L : Nat} {xs : Nat → Int32} {c1 c2 : Nat} (hX : zScr X b L xs) (hc : c1 ≤ 600000 ∧ c2 ≤ 7200000) (x y o : Nat) (i : Int32) (h0 : zHp) : zG X M_L_law (c1, c2) 824 [(0, .ref b), (1, .ref x), (2, .ref y), (3, .ref o), (4, .int i)] [] h0 (f_L_16 L xs x y o i h0) (fun r h' => zsl r (fun _ => zSW X M_L_law (c1, c2) 1595 [(0, .ref b), (1, .ref x), (2, .ref y), (3, .ref o), (4, .int i)] [] h') (fun v => zKe X (some (.int v)) h')) := by
  unfold f_L_16
  refine zg_aload_n 1 rfl d_L_law_824 ?_
  refine zg_aload_n 0 rfl d_L_law_825 ?_
  refine zg_iload 4 rfl d_L_law_826 ?_
  refine zg_iconst 1 rfl d_L_law_828 ?_
  refine zg_iadd d_L_law_829 ?_
  refine zg_sld hX d_L_law_830 (fun v119 => ?_)
  refine zg_aload_n 0 rfl d_L_law_831 ?_
  refine zg_iload 4 rfl d_L_law_832 ?_
  refine zg_iconst 2 rfl d_L_law_834 ?_
  refine zg_iadd d_L_law_835 ?_
  refine zg_sld hX d_L_law_836 (fun v120 => ?_)
  refine zg_cVi (b := x) (As := [.int v119, .int v120]) (rest := []) (c1, c2) d_L_law_837 zc_7 rfl cw_L_97 wi_X7_ahead ws_X7_ahead rfl rfl (Nat.le_of_ble_eq_true rfl) (by decide) (by decide) ⟨by show c1 + 0 ≤ 601024; omega, by show c2 + 0 ≤ 7293034; omega⟩ rfl (t_X7_ahead x v119 v120 h0) (fun v122 h121 => ?_)
  refine zg_aload_n 2 rfl d_L_law_840 ?_
  refine zg_aload_n 0 rfl d_L_law_841 ?_
  refine zg_iload 4 rfl d_L_law_842 ?_
  refine zg_iconst 1 rfl d_L_law_844 ?_
  refine zg_iadd d_L_law_845 ?_
  refine zg_sld hX d_L_law_846 (fun v123 => ?_)
  refine zg_aload_n 0 rfl d_L_law_847 ?_
  refine zg_iload 4 rfl d_L_law_848 ?_
  refine zg_iconst 2 rfl d_L_law_850 ?_
  refine zg_iadd d_L_law_851 ?_
  refine zg_sld hX d_L_law_852 (fun v124 => ?_)
  refine zg_cVi (b := y) (As := [.int v123, .int v124]) (rest := [.int v122]) (c1, c2) d_L_law_853 zc_8 rfl cw_L_100 wi_X8_ahead ws_X8_ahead rfl rfl (Nat.le_of_ble_eq_true rfl) (by decide) (by decide) ⟨by show c1 + 0 ≤ 601024; omega, by show c2 + 0 ≤ 7293034; omega⟩ rfl (t_X8_ahead y v123 v124 h121) (fun v126 h125 => ?_)
  refine zg_icmp_eq d_L_law_856 ?_ ?_
  · exact zg_finK (E := 0) [0, 1, 2, 3, 4] rfl rfl (fun q => q)
  · refine zg_iconst 0 rfl d_L_law_859 ?_
    exact zg_zretK d_L_law_860 rfl ⟨by show c1 ≤ 601024; omega, by show c2 ≤ 7293034; omega⟩ (Or.inl rfl) (fun q => q)
def f_L_17 (L : Nat) (xs : Nat → Int32) (x y o : Nat) (i : Int32) (h0 : zHp) : Option ((Unit ⊕ Int32) × zHp) :=
  zbd (zcv 7 x h0 (f_X7_could x h0)) (fun v128 h127 =>
  zbd (zcv 8 y h127 (f_X8_could y h127)) (fun v130 h129 =>
  if v128 = v130 then
  some ((.inl ()), h129)
  else
  some ((.inr 0), h129)))
set_option maxRecDepth 100000 in
set_option maxHeartbeats 4000000 in
theorem t_L_17 {X : zCx} {b L : Nat} {xs : Nat → Int32} {c1 c2 : Nat} (hX : zScr X b L xs) (hc : c1 ≤ 600000 ∧ c2 ≤ 7200000) (x y o : Nat) (i : Int32) (h0 : zHp) : zG X M_L_law (c1, c2) 861 [(0, .ref b), (1, .ref x), (2, .ref y), (3, .ref o), (4, .int i)] [] h0 (f_L_17 L xs x y o i h0) (fun r h' => zsl r (fun _ => zSW X M_L_law (c1, c2) 1595 [(0, .ref b), (1, .ref x), (2, .ref y), (3, .ref o), (4, .int i)] [] h') (fun v => zKe X (some (.int v)) h')) := by
  unfold f_L_17
  refine zg_aload_n 1 rfl d_L_law_861 ?_
  refine zg_cVi (b := x) (As := []) (rest := []) (c1, c2) d_L_law_862 zc_7 rfl cw_L_101 wi_X7_could ws_X7_could rfl rfl (Nat.le_of_ble_eq_true rfl) (by decide) (by decide) ⟨by show c1 + 0 ≤ 601024; omega, by show c2 + 0 ≤ 7293034; omega⟩ rfl (t_X7_could x h0) (fun v128 h127 => ?_)
  refine zg_aload_n 2 rfl d_L_law_865 ?_
  refine zg_cVi (b := y) (As := []) (rest := [.int v128]) (c1, c2) d_L_law_866 zc_8 rfl cw_L_104 wi_X8_could ws_X8_could rfl rfl (Nat.le_of_ble_eq_true rfl) (by decide) (by decide) ⟨by show c1 + 0 ≤ 601024; omega, by show c2 + 0 ≤ 7293034; omega⟩ rfl (t_X8_could y h127) (fun v130 h129 => ?_)
  refine zg_icmp_eq d_L_law_869 ?_ ?_
  · exact zg_finK (E := 0) [0, 1, 2, 3, 4] rfl rfl (fun q => q)
  · refine zg_iconst 0 rfl d_L_law_872 ?_
    exact zg_zretK d_L_law_873 rfl ⟨by show c1 ≤ 601024; omega, by show c2 ≤ 7293034; omega⟩ (Or.inl rfl) (fun q => q)
def f_L_18 (L : Nat) (xs : Nat → Int32) (x y o : Nat) (i : Int32) (h0 : zHp) : Option ((Unit ⊕ Int32) × zHp) :=
  zob (zsc L xs (i + 1)) (fun v131 =>
  zob (zsc L xs (i + 2)) (fun v132 =>
  zob (zsc L xs (i + 3)) (fun v133 =>
  zbd (zcv 7 x h0 (f_X7_station x v131 v132 v133 h0)) (fun v135 h134 =>
  zob (zsc L xs (i + 1)) (fun v136 =>
  zob (zsc L xs (i + 2)) (fun v137 =>
  zob (zsc L xs (i + 3)) (fun v138 =>
  zbd (zcv 8 y h134 (f_X8_station y v136 v137 v138 h134)) (fun v140 h139 =>
  if v135 = v140 then
  some ((.inl ()), h139)
  else
  some ((.inr 0), h139)))))))))
set_option maxRecDepth 100000 in
set_option maxHeartbeats 4000000 in
theorem t_L_18 {X : zCx} {b L : Nat} {xs : Nat → Int32} {c1 c2 : Nat} (hX : zScr X b L xs) (hc : c1 ≤ 600000 ∧ c2 ≤ 7200000) (x y o : Nat) (i : Int32) (h0 : zHp) : zG X M_L_law (c1, c2) 874 [(0, .ref b), (1, .ref x), (2, .ref y), (3, .ref o), (4, .int i)] [] h0 (f_L_18 L xs x y o i h0) (fun r h' => zsl r (fun _ => zSW X M_L_law (c1, c2) 1595 [(0, .ref b), (1, .ref x), (2, .ref y), (3, .ref o), (4, .int i)] [] h') (fun v => zKe X (some (.int v)) h')) := by
  unfold f_L_18
  refine zg_aload_n 1 rfl d_L_law_874 ?_
  refine zg_aload_n 0 rfl d_L_law_875 ?_
  refine zg_iload 4 rfl d_L_law_876 ?_
  refine zg_iconst 1 rfl d_L_law_878 ?_
  refine zg_iadd d_L_law_879 ?_
  refine zg_sld hX d_L_law_880 (fun v131 => ?_)
  refine zg_aload_n 0 rfl d_L_law_881 ?_
  refine zg_iload 4 rfl d_L_law_882 ?_
  refine zg_iconst 2 rfl d_L_law_884 ?_
  refine zg_iadd d_L_law_885 ?_
  refine zg_sld hX d_L_law_886 (fun v132 => ?_)
  refine zg_aload_n 0 rfl d_L_law_887 ?_
  refine zg_iload 4 rfl d_L_law_888 ?_
  refine zg_iconst 3 rfl d_L_law_890 ?_
  refine zg_iadd d_L_law_891 ?_
  refine zg_sld hX d_L_law_892 (fun v133 => ?_)
  refine zg_cVi (b := x) (As := [.int v131, .int v132, .int v133]) (rest := []) (c1, c2) d_L_law_893 zc_7 rfl cw_L_105 wi_X7_station ws_X7_station rfl rfl (Nat.le_of_ble_eq_true rfl) (by decide) (by decide) ⟨by show c1 + 0 ≤ 601024; omega, by show c2 + 0 ≤ 7293034; omega⟩ rfl (t_X7_station x v131 v132 v133 h0) (fun v135 h134 => ?_)
  refine zg_aload_n 2 rfl d_L_law_896 ?_
  refine zg_aload_n 0 rfl d_L_law_897 ?_
  refine zg_iload 4 rfl d_L_law_898 ?_
  refine zg_iconst 1 rfl d_L_law_900 ?_
  refine zg_iadd d_L_law_901 ?_
  refine zg_sld hX d_L_law_902 (fun v136 => ?_)
  refine zg_aload_n 0 rfl d_L_law_903 ?_
  refine zg_iload 4 rfl d_L_law_904 ?_
  refine zg_iconst 2 rfl d_L_law_906 ?_
  refine zg_iadd d_L_law_907 ?_
  refine zg_sld hX d_L_law_908 (fun v137 => ?_)
  refine zg_aload_n 0 rfl d_L_law_909 ?_
  refine zg_iload 4 rfl d_L_law_910 ?_
  refine zg_iconst 3 rfl d_L_law_912 ?_
  refine zg_iadd d_L_law_913 ?_
  refine zg_sld hX d_L_law_914 (fun v138 => ?_)
  refine zg_cVi (b := y) (As := [.int v136, .int v137, .int v138]) (rest := [.int v135]) (c1, c2) d_L_law_915 zc_8 rfl cw_L_109 wi_X8_station ws_X8_station rfl rfl (Nat.le_of_ble_eq_true rfl) (by decide) (by decide) ⟨by show c1 + 0 ≤ 601024; omega, by show c2 + 0 ≤ 7293034; omega⟩ rfl (t_X8_station y v136 v137 v138 h134) (fun v140 h139 => ?_)
  refine zg_icmp_eq d_L_law_918 ?_ ?_
  · exact zg_finK (E := 0) [0, 1, 2, 3, 4] rfl rfl (fun q => q)
  · refine zg_iconst 0 rfl d_L_law_921 ?_
    exact zg_zretK d_L_law_922 rfl ⟨by show c1 ≤ 601024; omega, by show c2 ≤ 7293034; omega⟩ (Or.inl rfl) (fun q => q)
def f_L_19 (L : Nat) (xs : Nat → Int32) (x y o : Nat) (i : Int32) (h0 : zHp) : Option ((Unit ⊕ Int32) × zHp) :=
  zbd (zcv 7 x h0 (f_X7_lacks x h0)) (fun v142 h141 =>
  zbd (zcv 8 y h141 (f_X8_lacks y h141)) (fun v144 h143 =>
  if v142 = v144 then
  some ((.inl ()), h143)
  else
  some ((.inr 0), h143)))
set_option maxRecDepth 100000 in
set_option maxHeartbeats 4000000 in
theorem t_L_19 {X : zCx} {b L : Nat} {xs : Nat → Int32} {c1 c2 : Nat} (hX : zScr X b L xs) (hc : c1 ≤ 600000 ∧ c2 ≤ 7200000) (x y o : Nat) (i : Int32) (h0 : zHp) : zG X M_L_law (c1, c2) 923 [(0, .ref b), (1, .ref x), (2, .ref y), (3, .ref o), (4, .int i)] [] h0 (f_L_19 L xs x y o i h0) (fun r h' => zsl r (fun _ => zSW X M_L_law (c1, c2) 1595 [(0, .ref b), (1, .ref x), (2, .ref y), (3, .ref o), (4, .int i)] [] h') (fun v => zKe X (some (.int v)) h')) := by
  unfold f_L_19
  refine zg_aload_n 1 rfl d_L_law_923 ?_
  refine zg_cVi (b := x) (As := []) (rest := []) (c1, c2) d_L_law_924 zc_7 rfl cw_L_110 wi_X7_lacks ws_X7_lacks rfl rfl (Nat.le_of_ble_eq_true rfl) (by decide) (by decide) ⟨by show c1 + 0 ≤ 601024; omega, by show c2 + 0 ≤ 7293034; omega⟩ rfl (t_X7_lacks x h0) (fun v142 h141 => ?_)
  refine zg_aload_n 2 rfl d_L_law_927 ?_
  refine zg_cVi (b := y) (As := []) (rest := [.int v142]) (c1, c2) d_L_law_928 zc_8 rfl cw_L_113 wi_X8_lacks ws_X8_lacks rfl rfl (Nat.le_of_ble_eq_true rfl) (by decide) (by decide) ⟨by show c1 + 0 ≤ 601024; omega, by show c2 + 0 ≤ 7293034; omega⟩ rfl (t_X8_lacks y h141) (fun v144 h143 => ?_)
  refine zg_icmp_eq d_L_law_931 ?_ ?_
  · exact zg_finK (E := 0) [0, 1, 2, 3, 4] rfl rfl (fun q => q)
  · refine zg_iconst 0 rfl d_L_law_934 ?_
    exact zg_zretK d_L_law_935 rfl ⟨by show c1 ≤ 601024; omega, by show c2 ≤ 7293034; omega⟩ (Or.inl rfl) (fun q => q)
def f_L_20 (L : Nat) (xs : Nat → Int32) (x y o : Nat) (i : Int32) (h0 : zHp) : Option ((Unit ⊕ Int32) × zHp) :=
  zob (zsc L xs (i + 1)) (fun v145 =>
  zbd (zcv 7 x h0 (f_X7_enough x v145 h0)) (fun v147 h146 =>
  zob (zsc L xs (i + 1)) (fun v148 =>
  zbd (zcv 8 y h146 (f_X8_enough y v148 h146)) (fun v150 h149 =>
  if v147 = v150 then
  some ((.inl ()), h149)
  else
  some ((.inr 0), h149)))))
set_option maxRecDepth 100000 in
set_option maxHeartbeats 4000000 in
theorem t_L_20 {X : zCx} {b L : Nat} {xs : Nat → Int32} {c1 c2 : Nat} (hX : zScr X b L xs) (hc : c1 ≤ 600000 ∧ c2 ≤ 7200000) (x y o : Nat) (i : Int32) (h0 : zHp) : zG X M_L_law (c1, c2) 936 [(0, .ref b), (1, .ref x), (2, .ref y), (3, .ref o), (4, .int i)] [] h0 (f_L_20 L xs x y o i h0) (fun r h' => zsl r (fun _ => zSW X M_L_law (c1, c2) 1595 [(0, .ref b), (1, .ref x), (2, .ref y), (3, .ref o), (4, .int i)] [] h') (fun v => zKe X (some (.int v)) h')) := by
  unfold f_L_20
  refine zg_aload_n 1 rfl d_L_law_936 ?_
  refine zg_aload_n 0 rfl d_L_law_937 ?_
  refine zg_iload 4 rfl d_L_law_938 ?_
  refine zg_iconst 1 rfl d_L_law_940 ?_
  refine zg_iadd d_L_law_941 ?_
  refine zg_sld hX d_L_law_942 (fun v145 => ?_)
  refine zg_cVi (b := x) (As := [.int v145]) (rest := []) (c1, c2) d_L_law_943 zc_7 rfl cw_L_114 wi_X7_enough ws_X7_enough rfl rfl (Nat.le_of_ble_eq_true rfl) (by decide) (by decide) ⟨by show c1 + 0 ≤ 601024; omega, by show c2 + 0 ≤ 7293034; omega⟩ rfl (t_X7_enough x v145 h0) (fun v147 h146 => ?_)
  refine zg_aload_n 2 rfl d_L_law_946 ?_
  refine zg_aload_n 0 rfl d_L_law_947 ?_
  refine zg_iload 4 rfl d_L_law_948 ?_
  refine zg_iconst 1 rfl d_L_law_950 ?_
  refine zg_iadd d_L_law_951 ?_
  refine zg_sld hX d_L_law_952 (fun v148 => ?_)
  refine zg_cVi (b := y) (As := [.int v148]) (rest := [.int v147]) (c1, c2) d_L_law_953 zc_8 rfl cw_L_117 wi_X8_enough ws_X8_enough rfl rfl (Nat.le_of_ble_eq_true rfl) (by decide) (by decide) ⟨by show c1 + 0 ≤ 601024; omega, by show c2 + 0 ≤ 7293034; omega⟩ rfl (t_X8_enough y v148 h146) (fun v150 h149 => ?_)
  refine zg_icmp_eq d_L_law_956 ?_ ?_
  · exact zg_finK (E := 0) [0, 1, 2, 3, 4] rfl rfl (fun q => q)
  · refine zg_iconst 0 rfl d_L_law_959 ?_
    exact zg_zretK d_L_law_960 rfl ⟨by show c1 ≤ 601024; omega, by show c2 ≤ 7293034; omega⟩ (Or.inl rfl) (fun q => q)
def f_L_21 (L : Nat) (xs : Nat → Int32) (x y o : Nat) (i : Int32) (h0 : zHp) : Option ((Unit ⊕ Int32) × zHp) :=
  zob (zsc L xs (i + 1)) (fun v151 =>
  zbd (zcv 7 x h0 (f_X7_whose x v151 h0)) (fun v153 h152 =>
  zob (zsc L xs (i + 1)) (fun v154 =>
  zbd (zcv 8 y h152 (f_X8_whose y v154 h152)) (fun v156 h155 =>
  if v153 = v156 then
  some ((.inl ()), h155)
  else
  some ((.inr 0), h155)))))
set_option maxRecDepth 100000 in
set_option maxHeartbeats 4000000 in
theorem t_L_21 {X : zCx} {b L : Nat} {xs : Nat → Int32} {c1 c2 : Nat} (hX : zScr X b L xs) (hc : c1 ≤ 600000 ∧ c2 ≤ 7200000) (x y o : Nat) (i : Int32) (h0 : zHp) : zG X M_L_law (c1, c2) 961 [(0, .ref b), (1, .ref x), (2, .ref y), (3, .ref o), (4, .int i)] [] h0 (f_L_21 L xs x y o i h0) (fun r h' => zsl r (fun _ => zSW X M_L_law (c1, c2) 1595 [(0, .ref b), (1, .ref x), (2, .ref y), (3, .ref o), (4, .int i)] [] h') (fun v => zKe X (some (.int v)) h')) := by
  unfold f_L_21
  refine zg_aload_n 1 rfl d_L_law_961 ?_
  refine zg_aload_n 0 rfl d_L_law_962 ?_
  refine zg_iload 4 rfl d_L_law_963 ?_
  refine zg_iconst 1 rfl d_L_law_965 ?_
  refine zg_iadd d_L_law_966 ?_
  refine zg_sld hX d_L_law_967 (fun v151 => ?_)
  refine zg_cVi (b := x) (As := [.int v151]) (rest := []) (c1, c2) d_L_law_968 zc_7 rfl cw_L_118 wi_X7_whose ws_X7_whose rfl rfl (Nat.le_of_ble_eq_true rfl) (by decide) (by decide) ⟨by show c1 + 0 ≤ 601024; omega, by show c2 + 0 ≤ 7293034; omega⟩ rfl (t_X7_whose x v151 h0) (fun v153 h152 => ?_)
  refine zg_aload_n 2 rfl d_L_law_971 ?_
  refine zg_aload_n 0 rfl d_L_law_972 ?_
  refine zg_iload 4 rfl d_L_law_973 ?_
  refine zg_iconst 1 rfl d_L_law_975 ?_
  refine zg_iadd d_L_law_976 ?_
  refine zg_sld hX d_L_law_977 (fun v154 => ?_)
  refine zg_cVi (b := y) (As := [.int v154]) (rest := [.int v153]) (c1, c2) d_L_law_978 zc_8 rfl cw_L_121 wi_X8_whose ws_X8_whose rfl rfl (Nat.le_of_ble_eq_true rfl) (by decide) (by decide) ⟨by show c1 + 0 ≤ 601024; omega, by show c2 + 0 ≤ 7293034; omega⟩ rfl (t_X8_whose y v154 h152) (fun v156 h155 => ?_)
  refine zg_icmp_eq d_L_law_981 ?_ ?_
  · exact zg_finK (E := 0) [0, 1, 2, 3, 4] rfl rfl (fun q => q)
  · refine zg_iconst 0 rfl d_L_law_984 ?_
    exact zg_zretK d_L_law_985 rfl ⟨by show c1 ≤ 601024; omega, by show c2 ≤ 7293034; omega⟩ (Or.inl rfl) (fun q => q)
def f_L_22 (L : Nat) (xs : Nat → Int32) (x y o : Nat) (i : Int32) (h0 : zHp) : Option ((Unit ⊕ Int32) × zHp) :=
  zbd (zcv 7 x h0 (f_X7_swaps x h0)) (fun v158 h157 =>
  zbd (zcv 8 y h157 (f_X8_swaps y h157)) (fun v160 h159 =>
  if v158 = v160 then
  some ((.inl ()), h159)
  else
  some ((.inr 0), h159)))
set_option maxRecDepth 100000 in
set_option maxHeartbeats 4000000 in
theorem t_L_22 {X : zCx} {b L : Nat} {xs : Nat → Int32} {c1 c2 : Nat} (hX : zScr X b L xs) (hc : c1 ≤ 600000 ∧ c2 ≤ 7200000) (x y o : Nat) (i : Int32) (h0 : zHp) : zG X M_L_law (c1, c2) 986 [(0, .ref b), (1, .ref x), (2, .ref y), (3, .ref o), (4, .int i)] [] h0 (f_L_22 L xs x y o i h0) (fun r h' => zsl r (fun _ => zSW X M_L_law (c1, c2) 1595 [(0, .ref b), (1, .ref x), (2, .ref y), (3, .ref o), (4, .int i)] [] h') (fun v => zKe X (some (.int v)) h')) := by
  unfold f_L_22
  refine zg_aload_n 1 rfl d_L_law_986 ?_
  refine zg_cVi (b := x) (As := []) (rest := []) (c1, c2) d_L_law_987 zc_7 rfl cw_L_122 wi_X7_swaps ws_X7_swaps rfl rfl (Nat.le_of_ble_eq_true rfl) (by decide) (by decide) ⟨by show c1 + 0 ≤ 601024; omega, by show c2 + 0 ≤ 7293034; omega⟩ rfl (t_X7_swaps x h0) (fun v158 h157 => ?_)
  refine zg_aload_n 2 rfl d_L_law_990 ?_
  refine zg_cVi (b := y) (As := []) (rest := [.int v158]) (c1, c2) d_L_law_991 zc_8 rfl cw_L_125 wi_X8_swaps ws_X8_swaps rfl rfl (Nat.le_of_ble_eq_true rfl) (by decide) (by decide) ⟨by show c1 + 0 ≤ 601024; omega, by show c2 + 0 ≤ 7293034; omega⟩ rfl (t_X8_swaps y h157) (fun v160 h159 => ?_)
  refine zg_icmp_eq d_L_law_994 ?_ ?_
  · exact zg_finK (E := 0) [0, 1, 2, 3, 4] rfl rfl (fun q => q)
  · refine zg_iconst 0 rfl d_L_law_997 ?_
    exact zg_zretK d_L_law_998 rfl ⟨by show c1 ≤ 601024; omega, by show c2 ≤ 7293034; omega⟩ (Or.inl rfl) (fun q => q)
def f_L_23 (L : Nat) (xs : Nat → Int32) (x y o : Nat) (i : Int32) (h0 : zHp) : Option ((Unit ⊕ Int32) × zHp) :=
  zob (zsc L xs (i + 1)) (fun v161 =>
  zbd (zcv 7 x h0 (f_X7_swap x v161 h0)) (fun v163 h162 =>
  zob (zsc L xs (i + 1)) (fun v164 =>
  zbd (zcv 8 y h162 (f_X8_swap y v164 h162)) (fun v166 h165 =>
  if v163 = v166 then
  some ((.inl ()), h165)
  else
  some ((.inr 0), h165)))))
set_option maxRecDepth 100000 in
set_option maxHeartbeats 4000000 in
theorem t_L_23 {X : zCx} {b L : Nat} {xs : Nat → Int32} {c1 c2 : Nat} (hX : zScr X b L xs) (hc : c1 ≤ 600000 ∧ c2 ≤ 7200000) (x y o : Nat) (i : Int32) (h0 : zHp) : zG X M_L_law (c1, c2) 999 [(0, .ref b), (1, .ref x), (2, .ref y), (3, .ref o), (4, .int i)] [] h0 (f_L_23 L xs x y o i h0) (fun r h' => zsl r (fun _ => zSW X M_L_law (c1, c2) 1595 [(0, .ref b), (1, .ref x), (2, .ref y), (3, .ref o), (4, .int i)] [] h') (fun v => zKe X (some (.int v)) h')) := by
  unfold f_L_23
  refine zg_aload_n 1 rfl d_L_law_999 ?_
  refine zg_aload_n 0 rfl d_L_law_1000 ?_
  refine zg_iload 4 rfl d_L_law_1001 ?_
  refine zg_iconst 1 rfl d_L_law_1003 ?_
  refine zg_iadd d_L_law_1004 ?_
  refine zg_sld hX d_L_law_1005 (fun v161 => ?_)
  refine zg_cVi (b := x) (As := [.int v161]) (rest := []) (c1, c2) d_L_law_1006 zc_7 rfl cw_L_126 wi_X7_swap ws_X7_swap rfl rfl (Nat.le_of_ble_eq_true rfl) (by decide) (by decide) ⟨by show c1 + 0 ≤ 601024; omega, by show c2 + 0 ≤ 7293034; omega⟩ rfl (t_X7_swap x v161 h0) (fun v163 h162 => ?_)
  refine zg_aload_n 2 rfl d_L_law_1009 ?_
  refine zg_aload_n 0 rfl d_L_law_1010 ?_
  refine zg_iload 4 rfl d_L_law_1011 ?_
  refine zg_iconst 1 rfl d_L_law_1013 ?_
  refine zg_iadd d_L_law_1014 ?_
  refine zg_sld hX d_L_law_1015 (fun v164 => ?_)
  refine zg_cVi (b := y) (As := [.int v164]) (rest := [.int v163]) (c1, c2) d_L_law_1016 zc_8 rfl cw_L_129 wi_X8_swap ws_X8_swap rfl rfl (Nat.le_of_ble_eq_true rfl) (by decide) (by decide) ⟨by show c1 + 0 ≤ 601024; omega, by show c2 + 0 ≤ 7293034; omega⟩ rfl (t_X8_swap y v164 h162) (fun v166 h165 => ?_)
  refine zg_icmp_eq d_L_law_1019 ?_ ?_
  · exact zg_finK (E := 0) [0, 1, 2, 3, 4] rfl rfl (fun q => q)
  · refine zg_iconst 0 rfl d_L_law_1022 ?_
    exact zg_zretK d_L_law_1023 rfl ⟨by show c1 ≤ 601024; omega, by show c2 ≤ 7293034; omega⟩ (Or.inl rfl) (fun q => q)
def f_L_24 (L : Nat) (xs : Nat → Int32) (x y o : Nat) (i : Int32) (h0 : zHp) : Option ((Unit ⊕ Int32) × zHp) :=
  zob (zsc L xs (i + 1)) (fun v167 =>
  zob (zsc L xs (i + 2)) (fun v168 =>
  zob (zsc L xs (i + 3)) (fun v169 =>
  zbd (zcv 7 x h0 (f_X7_likely x v167 v168 v169 h0)) (fun v171 h170 =>
  zob (zsc L xs (i + 1)) (fun v172 =>
  zob (zsc L xs (i + 2)) (fun v173 =>
  zob (zsc L xs (i + 3)) (fun v174 =>
  zbd (zcv 8 y h170 (f_X8_likely y v172 v173 v174 h170)) (fun v176 h175 =>
  if v171 = v176 then
  some ((.inl ()), h175)
  else
  some ((.inr 0), h175)))))))))
set_option maxRecDepth 100000 in
set_option maxHeartbeats 4000000 in
theorem t_L_24 {X : zCx} {b L : Nat} {xs : Nat → Int32} {c1 c2 : Nat} (hX : zScr X b L xs) (hc : c1 ≤ 600000 ∧ c2 ≤ 7200000) (x y o : Nat) (i : Int32) (h0 : zHp) : zG X M_L_law (c1, c2) 1024 [(0, .ref b), (1, .ref x), (2, .ref y), (3, .ref o), (4, .int i)] [] h0 (f_L_24 L xs x y o i h0) (fun r h' => zsl r (fun _ => zSW X M_L_law (c1, c2) 1595 [(0, .ref b), (1, .ref x), (2, .ref y), (3, .ref o), (4, .int i)] [] h') (fun v => zKe X (some (.int v)) h')) := by
  unfold f_L_24
  refine zg_aload_n 1 rfl d_L_law_1024 ?_
  refine zg_aload_n 0 rfl d_L_law_1025 ?_
  refine zg_iload 4 rfl d_L_law_1026 ?_
  refine zg_iconst 1 rfl d_L_law_1028 ?_
  refine zg_iadd d_L_law_1029 ?_
  refine zg_sld hX d_L_law_1030 (fun v167 => ?_)
  refine zg_aload_n 0 rfl d_L_law_1031 ?_
  refine zg_iload 4 rfl d_L_law_1032 ?_
  refine zg_iconst 2 rfl d_L_law_1034 ?_
  refine zg_iadd d_L_law_1035 ?_
  refine zg_sld hX d_L_law_1036 (fun v168 => ?_)
  refine zg_aload_n 0 rfl d_L_law_1037 ?_
  refine zg_iload 4 rfl d_L_law_1038 ?_
  refine zg_iconst 3 rfl d_L_law_1040 ?_
  refine zg_iadd d_L_law_1041 ?_
  refine zg_sld hX d_L_law_1042 (fun v169 => ?_)
  refine zg_cVi (b := x) (As := [.int v167, .int v168, .int v169]) (rest := []) (c1, c2) d_L_law_1043 zc_7 rfl cw_L_130 wi_X7_likely ws_X7_likely rfl rfl (Nat.le_of_ble_eq_true rfl) (by decide) (by decide) ⟨by show c1 + 0 ≤ 601024; omega, by show c2 + 0 ≤ 7293034; omega⟩ rfl (t_X7_likely x v167 v168 v169 h0) (fun v171 h170 => ?_)
  refine zg_aload_n 2 rfl d_L_law_1046 ?_
  refine zg_aload_n 0 rfl d_L_law_1047 ?_
  refine zg_iload 4 rfl d_L_law_1048 ?_
  refine zg_iconst 1 rfl d_L_law_1050 ?_
  refine zg_iadd d_L_law_1051 ?_
  refine zg_sld hX d_L_law_1052 (fun v172 => ?_)
  refine zg_aload_n 0 rfl d_L_law_1053 ?_
  refine zg_iload 4 rfl d_L_law_1054 ?_
  refine zg_iconst 2 rfl d_L_law_1056 ?_
  refine zg_iadd d_L_law_1057 ?_
  refine zg_sld hX d_L_law_1058 (fun v173 => ?_)
  refine zg_aload_n 0 rfl d_L_law_1059 ?_
  refine zg_iload 4 rfl d_L_law_1060 ?_
  refine zg_iconst 3 rfl d_L_law_1062 ?_
  refine zg_iadd d_L_law_1063 ?_
  refine zg_sld hX d_L_law_1064 (fun v174 => ?_)
  refine zg_cVi (b := y) (As := [.int v172, .int v173, .int v174]) (rest := [.int v171]) (c1, c2) d_L_law_1065 zc_8 rfl cw_L_133 wi_X8_likely ws_X8_likely rfl rfl (Nat.le_of_ble_eq_true rfl) (by decide) (by decide) ⟨by show c1 + 0 ≤ 601024; omega, by show c2 + 0 ≤ 7293034; omega⟩ rfl (t_X8_likely y v172 v173 v174 h170) (fun v176 h175 => ?_)
  refine zg_icmp_eq d_L_law_1068 ?_ ?_
  · exact zg_finK (E := 0) [0, 1, 2, 3, 4] rfl rfl (fun q => q)
  · refine zg_iconst 0 rfl d_L_law_1071 ?_
    exact zg_zretK d_L_law_1072 rfl ⟨by show c1 ≤ 601024; omega, by show c2 ≤ 7293034; omega⟩ (Or.inl rfl) (fun q => q)
def f_L_25 (L : Nat) (xs : Nat → Int32) (x y o : Nat) (i : Int32) (h0 : zHp) : Option ((Unit ⊕ Int32) × zHp) :=
  zob (zsc L xs (i + 1)) (fun v177 =>
  zob (zsc L xs (i + 2)) (fun v178 =>
  zob (zsc L xs (i + 3)) (fun v179 =>
  zbd (zcv 7 x h0 (f_X7_plan x v177 v178 v179 h0)) (fun v181 h180 =>
  zob (zsc L xs (i + 1)) (fun v182 =>
  zob (zsc L xs (i + 2)) (fun v183 =>
  zob (zsc L xs (i + 3)) (fun v184 =>
  zbd (zcv 8 y h180 (f_X8_plan y v182 v183 v184 h180)) (fun v186 h185 =>
  if v181 = v186 then
  some ((.inl ()), h185)
  else
  some ((.inr 0), h185)))))))))
set_option maxRecDepth 100000 in
set_option maxHeartbeats 4000000 in
theorem t_L_25 {X : zCx} {b L : Nat} {xs : Nat → Int32} {c1 c2 : Nat} (hX : zScr X b L xs) (hc : c1 ≤ 600000 ∧ c2 ≤ 7200000) (x y o : Nat) (i : Int32) (h0 : zHp) : zG X M_L_law (c1, c2) 1073 [(0, .ref b), (1, .ref x), (2, .ref y), (3, .ref o), (4, .int i)] [] h0 (f_L_25 L xs x y o i h0) (fun r h' => zsl r (fun _ => zSW X M_L_law (c1, c2) 1595 [(0, .ref b), (1, .ref x), (2, .ref y), (3, .ref o), (4, .int i)] [] h') (fun v => zKe X (some (.int v)) h')) := by
  unfold f_L_25
  refine zg_aload_n 1 rfl d_L_law_1073 ?_
  refine zg_aload_n 0 rfl d_L_law_1074 ?_
  refine zg_iload 4 rfl d_L_law_1075 ?_
  refine zg_iconst 1 rfl d_L_law_1077 ?_
  refine zg_iadd d_L_law_1078 ?_
  refine zg_sld hX d_L_law_1079 (fun v177 => ?_)
  refine zg_aload_n 0 rfl d_L_law_1080 ?_
  refine zg_iload 4 rfl d_L_law_1081 ?_
  refine zg_iconst 2 rfl d_L_law_1083 ?_
  refine zg_iadd d_L_law_1084 ?_
  refine zg_sld hX d_L_law_1085 (fun v178 => ?_)
  refine zg_aload_n 0 rfl d_L_law_1086 ?_
  refine zg_iload 4 rfl d_L_law_1087 ?_
  refine zg_iconst 3 rfl d_L_law_1089 ?_
  refine zg_iadd d_L_law_1090 ?_
  refine zg_sld hX d_L_law_1091 (fun v179 => ?_)
  refine zg_cVi (b := x) (As := [.int v177, .int v178, .int v179]) (rest := []) (c1, c2) d_L_law_1092 zc_7 rfl cw_L_134 wi_X7_plan ws_X7_plan rfl rfl (Nat.le_of_ble_eq_true rfl) (by decide) (by decide) ⟨by show c1 + 0 ≤ 601024; omega, by show c2 + 0 ≤ 7293034; omega⟩ rfl (t_X7_plan x v177 v178 v179 h0) (fun v181 h180 => ?_)
  refine zg_aload_n 2 rfl d_L_law_1095 ?_
  refine zg_aload_n 0 rfl d_L_law_1096 ?_
  refine zg_iload 4 rfl d_L_law_1097 ?_
  refine zg_iconst 1 rfl d_L_law_1099 ?_
  refine zg_iadd d_L_law_1100 ?_
  refine zg_sld hX d_L_law_1101 (fun v182 => ?_)
  refine zg_aload_n 0 rfl d_L_law_1102 ?_
  refine zg_iload 4 rfl d_L_law_1103 ?_
  refine zg_iconst 2 rfl d_L_law_1105 ?_
  refine zg_iadd d_L_law_1106 ?_
  refine zg_sld hX d_L_law_1107 (fun v183 => ?_)
  refine zg_aload_n 0 rfl d_L_law_1108 ?_
  refine zg_iload 4 rfl d_L_law_1109 ?_
  refine zg_iconst 3 rfl d_L_law_1111 ?_
  refine zg_iadd d_L_law_1112 ?_
  refine zg_sld hX d_L_law_1113 (fun v184 => ?_)
  refine zg_cVi (b := y) (As := [.int v182, .int v183, .int v184]) (rest := [.int v181]) (c1, c2) d_L_law_1114 zc_8 rfl cw_L_137 wi_X8_plan ws_X8_plan rfl rfl (Nat.le_of_ble_eq_true rfl) (by decide) (by decide) ⟨by show c1 + 0 ≤ 601024; omega, by show c2 + 0 ≤ 7293034; omega⟩ rfl (t_X8_plan y v182 v183 v184 h180) (fun v186 h185 => ?_)
  refine zg_icmp_eq d_L_law_1117 ?_ ?_
  · exact zg_finK (E := 0) [0, 1, 2, 3, 4] rfl rfl (fun q => q)
  · refine zg_iconst 0 rfl d_L_law_1120 ?_
    exact zg_zretK d_L_law_1121 rfl ⟨by show c1 ≤ 601024; omega, by show c2 ≤ 7293034; omega⟩ (Or.inl rfl) (fun q => q)
def f_L_26 (L : Nat) (xs : Nat → Int32) (x y o : Nat) (i : Int32) (h0 : zHp) : Option ((Unit ⊕ Int32) × zHp) :=
  zob (zsc L xs (i + 1)) (fun v187 =>
  zob (zsc L xs (i + 2)) (fun v188 =>
  zob (zsc L xs (i + 3)) (fun v189 =>
  zob (zsc L xs (i + 4)) (fun v190 =>
  zbd (zcv 7 x h0 (f_X7_step x v187 v188 v189 v190 h0)) (fun v192 h191 =>
  zob (zsc L xs (i + 1)) (fun v193 =>
  zob (zsc L xs (i + 2)) (fun v194 =>
  zob (zsc L xs (i + 3)) (fun v195 =>
  zob (zsc L xs (i + 4)) (fun v196 =>
  zbd (zcv 8 y h191 (f_X8_step y v193 v194 v195 v196 h191)) (fun v198 h197 =>
  if v192 = v198 then
  some ((.inl ()), h197)
  else
  some ((.inr 0), h197)))))))))))
set_option maxRecDepth 100000 in
set_option maxHeartbeats 4000000 in
theorem t_L_26 {X : zCx} {b L : Nat} {xs : Nat → Int32} {c1 c2 : Nat} (hX : zScr X b L xs) (hc : c1 ≤ 600000 ∧ c2 ≤ 7200000) (x y o : Nat) (i : Int32) (h0 : zHp) : zG X M_L_law (c1, c2) 1122 [(0, .ref b), (1, .ref x), (2, .ref y), (3, .ref o), (4, .int i)] [] h0 (f_L_26 L xs x y o i h0) (fun r h' => zsl r (fun _ => zSW X M_L_law (c1, c2) 1595 [(0, .ref b), (1, .ref x), (2, .ref y), (3, .ref o), (4, .int i)] [] h') (fun v => zKe X (some (.int v)) h')) := by
  unfold f_L_26
  refine zg_aload_n 1 rfl d_L_law_1122 ?_
  refine zg_aload_n 0 rfl d_L_law_1123 ?_
  refine zg_iload 4 rfl d_L_law_1124 ?_
  refine zg_iconst 1 rfl d_L_law_1126 ?_
  refine zg_iadd d_L_law_1127 ?_
  refine zg_sld hX d_L_law_1128 (fun v187 => ?_)
  refine zg_aload_n 0 rfl d_L_law_1129 ?_
  refine zg_iload 4 rfl d_L_law_1130 ?_
  refine zg_iconst 2 rfl d_L_law_1132 ?_
  refine zg_iadd d_L_law_1133 ?_
  refine zg_sld hX d_L_law_1134 (fun v188 => ?_)
  refine zg_aload_n 0 rfl d_L_law_1135 ?_
  refine zg_iload 4 rfl d_L_law_1136 ?_
  refine zg_iconst 3 rfl d_L_law_1138 ?_
  refine zg_iadd d_L_law_1139 ?_
  refine zg_sld hX d_L_law_1140 (fun v189 => ?_)
  refine zg_aload_n 0 rfl d_L_law_1141 ?_
  refine zg_iload 4 rfl d_L_law_1142 ?_
  refine zg_iconst 4 rfl d_L_law_1144 ?_
  refine zg_iadd d_L_law_1145 ?_
  refine zg_sld hX d_L_law_1146 (fun v190 => ?_)
  refine zg_cVi (b := x) (As := [.int v187, .int v188, .int v189, .int v190]) (rest := []) (c1, c2) d_L_law_1147 zc_7 rfl cw_L_138 wi_X7_step ws_X7_step rfl rfl (Nat.le_of_ble_eq_true rfl) (by decide) (by decide) ⟨by show c1 + 0 ≤ 601024; omega, by show c2 + 0 ≤ 7293034; omega⟩ rfl (t_X7_step x v187 v188 v189 v190 h0) (fun v192 h191 => ?_)
  refine zg_aload_n 2 rfl d_L_law_1150 ?_
  refine zg_aload_n 0 rfl d_L_law_1151 ?_
  refine zg_iload 4 rfl d_L_law_1152 ?_
  refine zg_iconst 1 rfl d_L_law_1154 ?_
  refine zg_iadd d_L_law_1155 ?_
  refine zg_sld hX d_L_law_1156 (fun v193 => ?_)
  refine zg_aload_n 0 rfl d_L_law_1157 ?_
  refine zg_iload 4 rfl d_L_law_1158 ?_
  refine zg_iconst 2 rfl d_L_law_1160 ?_
  refine zg_iadd d_L_law_1161 ?_
  refine zg_sld hX d_L_law_1162 (fun v194 => ?_)
  refine zg_aload_n 0 rfl d_L_law_1163 ?_
  refine zg_iload 4 rfl d_L_law_1164 ?_
  refine zg_iconst 3 rfl d_L_law_1166 ?_
  refine zg_iadd d_L_law_1167 ?_
  refine zg_sld hX d_L_law_1168 (fun v195 => ?_)
  refine zg_aload_n 0 rfl d_L_law_1169 ?_
  refine zg_iload 4 rfl d_L_law_1170 ?_
  refine zg_iconst 4 rfl d_L_law_1172 ?_
  refine zg_iadd d_L_law_1173 ?_
  refine zg_sld hX d_L_law_1174 (fun v196 => ?_)
  refine zg_cVi (b := y) (As := [.int v193, .int v194, .int v195, .int v196]) (rest := [.int v192]) (c1, c2) d_L_law_1175 zc_8 rfl cw_L_142 wi_X8_step ws_X8_step rfl rfl (Nat.le_of_ble_eq_true rfl) (by decide) (by decide) ⟨by show c1 + 0 ≤ 601024; omega, by show c2 + 0 ≤ 7293034; omega⟩ rfl (t_X8_step y v193 v194 v195 v196 h191) (fun v198 h197 => ?_)
  refine zg_icmp_eq d_L_law_1178 ?_ ?_
  · exact zg_finK (E := 0) [0, 1, 2, 3, 4] rfl rfl (fun q => q)
  · refine zg_iconst 0 rfl d_L_law_1181 ?_
    exact zg_zretK d_L_law_1182 rfl ⟨by show c1 ≤ 601024; omega, by show c2 ≤ 7293034; omega⟩ (Or.inl rfl) (fun q => q)
def f_L_27 (L : Nat) (xs : Nat → Int32) (x y o : Nat) (i : Int32) (h0 : zHp) : Option ((Unit ⊕ Int32) × zHp) :=
  zob (zsc L xs (i + 1)) (fun v199 =>
  zob (zsc L xs (i + 2)) (fun v200 =>
  zbd (zcv 7 x h0 (f_X7_rests x v199 v200 h0)) (fun v202 h201 =>
  zob (zsc L xs (i + 1)) (fun v203 =>
  zob (zsc L xs (i + 2)) (fun v204 =>
  zbd (zcv 8 y h201 (f_X8_rests y v203 v204 h201)) (fun v206 h205 =>
  if v202 = v206 then
  some ((.inl ()), h205)
  else
  some ((.inr 0), h205)))))))
set_option maxRecDepth 100000 in
set_option maxHeartbeats 4000000 in
theorem t_L_27 {X : zCx} {b L : Nat} {xs : Nat → Int32} {c1 c2 : Nat} (hX : zScr X b L xs) (hc : c1 ≤ 600000 ∧ c2 ≤ 7200000) (x y o : Nat) (i : Int32) (h0 : zHp) : zG X M_L_law (c1, c2) 1183 [(0, .ref b), (1, .ref x), (2, .ref y), (3, .ref o), (4, .int i)] [] h0 (f_L_27 L xs x y o i h0) (fun r h' => zsl r (fun _ => zSW X M_L_law (c1, c2) 1595 [(0, .ref b), (1, .ref x), (2, .ref y), (3, .ref o), (4, .int i)] [] h') (fun v => zKe X (some (.int v)) h')) := by
  unfold f_L_27
  refine zg_aload_n 1 rfl d_L_law_1183 ?_
  refine zg_aload_n 0 rfl d_L_law_1184 ?_
  refine zg_iload 4 rfl d_L_law_1185 ?_
  refine zg_iconst 1 rfl d_L_law_1187 ?_
  refine zg_iadd d_L_law_1188 ?_
  refine zg_sld hX d_L_law_1189 (fun v199 => ?_)
  refine zg_aload_n 0 rfl d_L_law_1190 ?_
  refine zg_iload 4 rfl d_L_law_1191 ?_
  refine zg_iconst 2 rfl d_L_law_1193 ?_
  refine zg_iadd d_L_law_1194 ?_
  refine zg_sld hX d_L_law_1195 (fun v200 => ?_)
  refine zg_cVi (b := x) (As := [.int v199, .int v200]) (rest := []) (c1, c2) d_L_law_1196 zc_7 rfl cw_L_143 wi_X7_rests ws_X7_rests rfl rfl (Nat.le_of_ble_eq_true rfl) (by decide) (by decide) ⟨by show c1 + 0 ≤ 601024; omega, by show c2 + 0 ≤ 7293034; omega⟩ rfl (t_X7_rests x v199 v200 h0) (fun v202 h201 => ?_)
  refine zg_aload_n 2 rfl d_L_law_1199 ?_
  refine zg_aload_n 0 rfl d_L_law_1200 ?_
  refine zg_iload 4 rfl d_L_law_1201 ?_
  refine zg_iconst 1 rfl d_L_law_1203 ?_
  refine zg_iadd d_L_law_1204 ?_
  refine zg_sld hX d_L_law_1205 (fun v203 => ?_)
  refine zg_aload_n 0 rfl d_L_law_1206 ?_
  refine zg_iload 4 rfl d_L_law_1207 ?_
  refine zg_iconst 2 rfl d_L_law_1209 ?_
  refine zg_iadd d_L_law_1210 ?_
  refine zg_sld hX d_L_law_1211 (fun v204 => ?_)
  refine zg_cVi (b := y) (As := [.int v203, .int v204]) (rest := [.int v202]) (c1, c2) d_L_law_1212 zc_8 rfl cw_L_146 wi_X8_rests ws_X8_rests rfl rfl (Nat.le_of_ble_eq_true rfl) (by decide) (by decide) ⟨by show c1 + 0 ≤ 601024; omega, by show c2 + 0 ≤ 7293034; omega⟩ rfl (t_X8_rests y v203 v204 h201) (fun v206 h205 => ?_)
  refine zg_icmp_eq d_L_law_1215 ?_ ?_
  · exact zg_finK (E := 0) [0, 1, 2, 3, 4] rfl rfl (fun q => q)
  · refine zg_iconst 0 rfl d_L_law_1218 ?_
    exact zg_zretK d_L_law_1219 rfl ⟨by show c1 ≤ 601024; omega, by show c2 ≤ 7293034; omega⟩ (Or.inl rfl) (fun q => q)
def f_L_28 (L : Nat) (xs : Nat → Int32) (x y o : Nat) (i : Int32) (h0 : zHp) : Option ((Unit ⊕ Int32) × zHp) :=
  zob (zsc L xs (i + 1)) (fun v207 =>
  zob (zsc L xs (i + 2)) (fun v208 =>
  zob (zsc L xs (i + 3)) (fun v209 =>
  zbd (zcv 7 x h0 (f_X7_rest x v207 v208 v209 h0)) (fun v211 h210 =>
  zob (zsc L xs (i + 1)) (fun v212 =>
  zob (zsc L xs (i + 2)) (fun v213 =>
  zob (zsc L xs (i + 3)) (fun v214 =>
  zbd (zcv 8 y h210 (f_X8_rest y v212 v213 v214 h210)) (fun v216 h215 =>
  if v211 = v216 then
  some ((.inl ()), h215)
  else
  some ((.inr 0), h215)))))))))
set_option maxRecDepth 100000 in
set_option maxHeartbeats 4000000 in
theorem t_L_28 {X : zCx} {b L : Nat} {xs : Nat → Int32} {c1 c2 : Nat} (hX : zScr X b L xs) (hc : c1 ≤ 600000 ∧ c2 ≤ 7200000) (x y o : Nat) (i : Int32) (h0 : zHp) : zG X M_L_law (c1, c2) 1220 [(0, .ref b), (1, .ref x), (2, .ref y), (3, .ref o), (4, .int i)] [] h0 (f_L_28 L xs x y o i h0) (fun r h' => zsl r (fun _ => zSW X M_L_law (c1, c2) 1595 [(0, .ref b), (1, .ref x), (2, .ref y), (3, .ref o), (4, .int i)] [] h') (fun v => zKe X (some (.int v)) h')) := by
  unfold f_L_28
  refine zg_aload_n 1 rfl d_L_law_1220 ?_
  refine zg_aload_n 0 rfl d_L_law_1221 ?_
  refine zg_iload 4 rfl d_L_law_1222 ?_
  refine zg_iconst 1 rfl d_L_law_1224 ?_
  refine zg_iadd d_L_law_1225 ?_
  refine zg_sld hX d_L_law_1226 (fun v207 => ?_)
  refine zg_aload_n 0 rfl d_L_law_1227 ?_
  refine zg_iload 4 rfl d_L_law_1228 ?_
  refine zg_iconst 2 rfl d_L_law_1230 ?_
  refine zg_iadd d_L_law_1231 ?_
  refine zg_sld hX d_L_law_1232 (fun v208 => ?_)
  refine zg_aload_n 0 rfl d_L_law_1233 ?_
  refine zg_iload 4 rfl d_L_law_1234 ?_
  refine zg_iconst 3 rfl d_L_law_1236 ?_
  refine zg_iadd d_L_law_1237 ?_
  refine zg_sld hX d_L_law_1238 (fun v209 => ?_)
  refine zg_cVi (b := x) (As := [.int v207, .int v208, .int v209]) (rest := []) (c1, c2) d_L_law_1239 zc_7 rfl cw_L_147 wi_X7_rest ws_X7_rest rfl rfl (Nat.le_of_ble_eq_true rfl) (by decide) (by decide) ⟨by show c1 + 0 ≤ 601024; omega, by show c2 + 0 ≤ 7293034; omega⟩ rfl (t_X7_rest x v207 v208 v209 h0) (fun v211 h210 => ?_)
  refine zg_aload_n 2 rfl d_L_law_1242 ?_
  refine zg_aload_n 0 rfl d_L_law_1243 ?_
  refine zg_iload 4 rfl d_L_law_1244 ?_
  refine zg_iconst 1 rfl d_L_law_1246 ?_
  refine zg_iadd d_L_law_1247 ?_
  refine zg_sld hX d_L_law_1248 (fun v212 => ?_)
  refine zg_aload_n 0 rfl d_L_law_1249 ?_
  refine zg_iload 4 rfl d_L_law_1250 ?_
  refine zg_iconst 2 rfl d_L_law_1252 ?_
  refine zg_iadd d_L_law_1253 ?_
  refine zg_sld hX d_L_law_1254 (fun v213 => ?_)
  refine zg_aload_n 0 rfl d_L_law_1255 ?_
  refine zg_iload 4 rfl d_L_law_1256 ?_
  refine zg_iconst 3 rfl d_L_law_1258 ?_
  refine zg_iadd d_L_law_1259 ?_
  refine zg_sld hX d_L_law_1260 (fun v214 => ?_)
  refine zg_cVi (b := y) (As := [.int v212, .int v213, .int v214]) (rest := [.int v211]) (c1, c2) d_L_law_1261 zc_8 rfl cw_L_150 wi_X8_rest ws_X8_rest rfl rfl (Nat.le_of_ble_eq_true rfl) (by decide) (by decide) ⟨by show c1 + 0 ≤ 601024; omega, by show c2 + 0 ≤ 7293034; omega⟩ rfl (t_X8_rest y v212 v213 v214 h210) (fun v216 h215 => ?_)
  refine zg_icmp_eq d_L_law_1264 ?_ ?_
  · exact zg_finK (E := 0) [0, 1, 2, 3, 4] rfl rfl (fun q => q)
  · refine zg_iconst 0 rfl d_L_law_1267 ?_
    exact zg_zretK d_L_law_1268 rfl ⟨by show c1 ≤ 601024; omega, by show c2 ≤ 7293034; omega⟩ (Or.inl rfl) (fun q => q)
def f_L_29 (L : Nat) (xs : Nat → Int32) (x y o : Nat) (i : Int32) (h0 : zHp) : Option ((Unit ⊕ Int32) × zHp) :=
  zob (zsc L xs (i + 1)) (fun v217 =>
  zob (zsc L xs (i + 2)) (fun v218 =>
  zob (zsc L xs (i + 3)) (fun v219 =>
  zob (zsc L xs (i + 4)) (fun v220 =>
  zbd (α := Int32) (
  if v220 = 0 then
  some (0, h0)
  else
  some (1, h0)) (fun e221 h222 =>
  zbd (zcv 7 x h222 (f_X7_note x v217 v218 v219 e221 h222)) (fun v224 h223 =>
  zob (zsc L xs (i + 1)) (fun v225 =>
  zob (zsc L xs (i + 2)) (fun v226 =>
  zob (zsc L xs (i + 3)) (fun v227 =>
  zob (zsc L xs (i + 4)) (fun v228 =>
  zbd (α := Int32) (
  if v228 = 0 then
  some (0, h223)
  else
  some (1, h223)) (fun e229 h230 =>
  zbd (zcv 8 y h230 (f_X8_note y v225 v226 v227 e229 h230)) (fun v232 h231 =>
  if v224 = v232 then
  some ((.inl ()), h231)
  else
  some ((.inr 0), h231)))))))))))))
set_option maxRecDepth 100000 in
set_option maxHeartbeats 4000000 in
theorem t_L_29 {X : zCx} {b L : Nat} {xs : Nat → Int32} {c1 c2 : Nat} (hX : zScr X b L xs) (hc : c1 ≤ 600000 ∧ c2 ≤ 7200000) (x y o : Nat) (i : Int32) (h0 : zHp) : zG X M_L_law (c1, c2) 1269 [(0, .ref b), (1, .ref x), (2, .ref y), (3, .ref o), (4, .int i)] [] h0 (f_L_29 L xs x y o i h0) (fun r h' => zsl r (fun _ => zSW X M_L_law (c1, c2) 1595 [(0, .ref b), (1, .ref x), (2, .ref y), (3, .ref o), (4, .int i)] [] h') (fun v => zKe X (some (.int v)) h')) := by
  unfold f_L_29
  refine zg_aload_n 1 rfl d_L_law_1269 ?_
  refine zg_aload_n 0 rfl d_L_law_1270 ?_
  refine zg_iload 4 rfl d_L_law_1271 ?_
  refine zg_iconst 1 rfl d_L_law_1273 ?_
  refine zg_iadd d_L_law_1274 ?_
  refine zg_sld hX d_L_law_1275 (fun v217 => ?_)
  refine zg_aload_n 0 rfl d_L_law_1276 ?_
  refine zg_iload 4 rfl d_L_law_1277 ?_
  refine zg_iconst 2 rfl d_L_law_1279 ?_
  refine zg_iadd d_L_law_1280 ?_
  refine zg_sld hX d_L_law_1281 (fun v218 => ?_)
  refine zg_aload_n 0 rfl d_L_law_1282 ?_
  refine zg_iload 4 rfl d_L_law_1283 ?_
  refine zg_iconst 3 rfl d_L_law_1285 ?_
  refine zg_iadd d_L_law_1286 ?_
  refine zg_sld hX d_L_law_1287 (fun v219 => ?_)
  refine zg_aload_n 0 rfl d_L_law_1288 ?_
  refine zg_iload 4 rfl d_L_law_1289 ?_
  refine zg_iconst 4 rfl d_L_law_1291 ?_
  refine zg_iadd d_L_law_1292 ?_
  refine zg_sld hX d_L_law_1293 (fun v220 => ?_)
  refine zg_bd (E := 1302) (el := (fun (e221 : Int32) => [(0, .ref b), (1, .ref x), (2, .ref y), (3, .ref o), (4, .int i)])) (es := (fun (e221 : Int32) => [.int e221, .int v219, .int v218, .int v217, .ref x])) ?_ (fun e221 h222 => ?_)
  · refine zg_if_eq d_L_law_1294 ?_ ?_
    · refine zg_iconst 0 rfl d_L_law_1301 ?_
      exact zg_finK (E := 0) [0, 1, 2, 3, 4] rfl rfl (fun q => q)
    · refine zg_iconst 1 rfl d_L_law_1297 ?_
      refine zg_goto d_L_law_1298 ?_
      exact zg_finK (E := 0) [0, 1, 2, 3, 4] rfl rfl (fun q => q)
  · refine zg_cVi (b := x) (As := [.int v217, .int v218, .int v219, .int e221]) (rest := []) (c1, c2) d_L_law_1302 zc_7 rfl cw_L_151 wi_X7_note ws_X7_note rfl rfl (Nat.le_of_ble_eq_true rfl) (by decide) (by decide) ⟨by show c1 + 0 ≤ 601024; omega, by show c2 + 0 ≤ 7293034; omega⟩ rfl (t_X7_note x v217 v218 v219 e221 h222) (fun v224 h223 => ?_)
    refine zg_aload_n 2 rfl d_L_law_1305 ?_
    refine zg_aload_n 0 rfl d_L_law_1306 ?_
    refine zg_iload 4 rfl d_L_law_1307 ?_
    refine zg_iconst 1 rfl d_L_law_1309 ?_
    refine zg_iadd d_L_law_1310 ?_
    refine zg_sld hX d_L_law_1311 (fun v225 => ?_)
    refine zg_aload_n 0 rfl d_L_law_1312 ?_
    refine zg_iload 4 rfl d_L_law_1313 ?_
    refine zg_iconst 2 rfl d_L_law_1315 ?_
    refine zg_iadd d_L_law_1316 ?_
    refine zg_sld hX d_L_law_1317 (fun v226 => ?_)
    refine zg_aload_n 0 rfl d_L_law_1318 ?_
    refine zg_iload 4 rfl d_L_law_1319 ?_
    refine zg_iconst 3 rfl d_L_law_1321 ?_
    refine zg_iadd d_L_law_1322 ?_
    refine zg_sld hX d_L_law_1323 (fun v227 => ?_)
    refine zg_aload_n 0 rfl d_L_law_1324 ?_
    refine zg_iload 4 rfl d_L_law_1325 ?_
    refine zg_iconst 4 rfl d_L_law_1327 ?_
    refine zg_iadd d_L_law_1328 ?_
    refine zg_sld hX d_L_law_1329 (fun v228 => ?_)
    refine zg_bd (E := 1338) (el := (fun (e229 : Int32) => [(0, .ref b), (1, .ref x), (2, .ref y), (3, .ref o), (4, .int i)])) (es := (fun (e229 : Int32) => [.int e229, .int v227, .int v226, .int v225, .ref y, .int v224])) ?_ (fun e229 h230 => ?_)
    · refine zg_if_eq d_L_law_1330 ?_ ?_
      · refine zg_iconst 0 rfl d_L_law_1337 ?_
        exact zg_finK (E := 0) [0, 1, 2, 3, 4] rfl rfl (fun q => q)
      · refine zg_iconst 1 rfl d_L_law_1333 ?_
        refine zg_goto d_L_law_1334 ?_
        exact zg_finK (E := 0) [0, 1, 2, 3, 4] rfl rfl (fun q => q)
    · refine zg_cVi (b := y) (As := [.int v225, .int v226, .int v227, .int e229]) (rest := [.int v224]) (c1, c2) d_L_law_1338 zc_8 rfl cw_L_155 wi_X8_note ws_X8_note rfl rfl (Nat.le_of_ble_eq_true rfl) (by decide) (by decide) ⟨by show c1 + 0 ≤ 601024; omega, by show c2 + 0 ≤ 7293034; omega⟩ rfl (t_X8_note y v225 v226 v227 e229 h230) (fun v232 h231 => ?_)
      refine zg_icmp_eq d_L_law_1341 ?_ ?_
      · exact zg_finK (E := 0) [0, 1, 2, 3, 4] rfl rfl (fun q => q)
      · refine zg_iconst 0 rfl d_L_law_1344 ?_
        exact zg_zretK d_L_law_1345 rfl ⟨by show c1 ≤ 601024; omega, by show c2 ≤ 7293034; omega⟩ (Or.inl rfl) (fun q => q)
def f_L_30 (L : Nat) (xs : Nat → Int32) (x y o : Nat) (i : Int32) (h0 : zHp) : Option ((Unit ⊕ Int32) × zHp) :=
  zob (zsc L xs (i + 1)) (fun v233 =>
  zbd (zcv 7 x h0 (f_X7_out x v233 h0)) (fun v235 h234 =>
  zob (zsc L xs (i + 1)) (fun v236 =>
  zbd (zcv 8 y h234 (f_X8_out y v236 h234)) (fun v238 h237 =>
  if v235 = v238 then
  some ((.inl ()), h237)
  else
  some ((.inr 0), h237)))))
set_option maxRecDepth 100000 in
set_option maxHeartbeats 4000000 in
theorem t_L_30 {X : zCx} {b L : Nat} {xs : Nat → Int32} {c1 c2 : Nat} (hX : zScr X b L xs) (hc : c1 ≤ 600000 ∧ c2 ≤ 7200000) (x y o : Nat) (i : Int32) (h0 : zHp) : zG X M_L_law (c1, c2) 1346 [(0, .ref b), (1, .ref x), (2, .ref y), (3, .ref o), (4, .int i)] [] h0 (f_L_30 L xs x y o i h0) (fun r h' => zsl r (fun _ => zSW X M_L_law (c1, c2) 1595 [(0, .ref b), (1, .ref x), (2, .ref y), (3, .ref o), (4, .int i)] [] h') (fun v => zKe X (some (.int v)) h')) := by
  unfold f_L_30
  refine zg_aload_n 1 rfl d_L_law_1346 ?_
  refine zg_aload_n 0 rfl d_L_law_1347 ?_
  refine zg_iload 4 rfl d_L_law_1348 ?_
  refine zg_iconst 1 rfl d_L_law_1350 ?_
  refine zg_iadd d_L_law_1351 ?_
  refine zg_sld hX d_L_law_1352 (fun v233 => ?_)
  refine zg_cVi (b := x) (As := [.int v233]) (rest := []) (c1, c2) d_L_law_1353 zc_7 rfl cw_L_156 wi_X7_out ws_X7_out rfl rfl (Nat.le_of_ble_eq_true rfl) (by decide) (by decide) ⟨by show c1 + 0 ≤ 601024; omega, by show c2 + 0 ≤ 7293034; omega⟩ rfl (t_X7_out x v233 h0) (fun v235 h234 => ?_)
  refine zg_aload_n 2 rfl d_L_law_1356 ?_
  refine zg_aload_n 0 rfl d_L_law_1357 ?_
  refine zg_iload 4 rfl d_L_law_1358 ?_
  refine zg_iconst 1 rfl d_L_law_1360 ?_
  refine zg_iadd d_L_law_1361 ?_
  refine zg_sld hX d_L_law_1362 (fun v236 => ?_)
  refine zg_cVi (b := y) (As := [.int v236]) (rest := [.int v235]) (c1, c2) d_L_law_1363 zc_8 rfl cw_L_159 wi_X8_out ws_X8_out rfl rfl (Nat.le_of_ble_eq_true rfl) (by decide) (by decide) ⟨by show c1 + 0 ≤ 601024; omega, by show c2 + 0 ≤ 7293034; omega⟩ rfl (t_X8_out y v236 h234) (fun v238 h237 => ?_)
  refine zg_icmp_eq d_L_law_1366 ?_ ?_
  · exact zg_finK (E := 0) [0, 1, 2, 3, 4] rfl rfl (fun q => q)
  · refine zg_iconst 0 rfl d_L_law_1369 ?_
    exact zg_zretK d_L_law_1370 rfl ⟨by show c1 ≤ 601024; omega, by show c2 ≤ 7293034; omega⟩ (Or.inl rfl) (fun q => q)
def f_L_31 (L : Nat) (xs : Nat → Int32) (x y o : Nat) (i : Int32) (h0 : zHp) : Option ((Unit ⊕ Int32) × zHp) :=
  zob (zsc L xs (i + 1)) (fun v239 =>
  zbd (zcv 7 x h0 (f_X7_known x v239 h0)) (fun v241 h240 =>
  zob (zsc L xs (i + 1)) (fun v242 =>
  zbd (zcv 8 y h240 (f_X8_known y v242 h240)) (fun v244 h243 =>
  if v241 = v244 then
  some ((.inl ()), h243)
  else
  some ((.inr 0), h243)))))
set_option maxRecDepth 100000 in
set_option maxHeartbeats 4000000 in
theorem t_L_31 {X : zCx} {b L : Nat} {xs : Nat → Int32} {c1 c2 : Nat} (hX : zScr X b L xs) (hc : c1 ≤ 600000 ∧ c2 ≤ 7200000) (x y o : Nat) (i : Int32) (h0 : zHp) : zG X M_L_law (c1, c2) 1371 [(0, .ref b), (1, .ref x), (2, .ref y), (3, .ref o), (4, .int i)] [] h0 (f_L_31 L xs x y o i h0) (fun r h' => zsl r (fun _ => zSW X M_L_law (c1, c2) 1595 [(0, .ref b), (1, .ref x), (2, .ref y), (3, .ref o), (4, .int i)] [] h') (fun v => zKe X (some (.int v)) h')) := by
  unfold f_L_31
  refine zg_aload_n 1 rfl d_L_law_1371 ?_
  refine zg_aload_n 0 rfl d_L_law_1372 ?_
  refine zg_iload 4 rfl d_L_law_1373 ?_
  refine zg_iconst 1 rfl d_L_law_1375 ?_
  refine zg_iadd d_L_law_1376 ?_
  refine zg_sld hX d_L_law_1377 (fun v239 => ?_)
  refine zg_cVi (b := x) (As := [.int v239]) (rest := []) (c1, c2) d_L_law_1378 zc_7 rfl cw_L_160 wi_X7_known ws_X7_known rfl rfl (Nat.le_of_ble_eq_true rfl) (by decide) (by decide) ⟨by show c1 + 0 ≤ 601024; omega, by show c2 + 0 ≤ 7293034; omega⟩ rfl (t_X7_known x v239 h0) (fun v241 h240 => ?_)
  refine zg_aload_n 2 rfl d_L_law_1381 ?_
  refine zg_aload_n 0 rfl d_L_law_1382 ?_
  refine zg_iload 4 rfl d_L_law_1383 ?_
  refine zg_iconst 1 rfl d_L_law_1385 ?_
  refine zg_iadd d_L_law_1386 ?_
  refine zg_sld hX d_L_law_1387 (fun v242 => ?_)
  refine zg_cVi (b := y) (As := [.int v242]) (rest := [.int v241]) (c1, c2) d_L_law_1388 zc_8 rfl cw_L_163 wi_X8_known ws_X8_known rfl rfl (Nat.le_of_ble_eq_true rfl) (by decide) (by decide) ⟨by show c1 + 0 ≤ 601024; omega, by show c2 + 0 ≤ 7293034; omega⟩ rfl (t_X8_known y v242 h240) (fun v244 h243 => ?_)
  refine zg_icmp_eq d_L_law_1391 ?_ ?_
  · exact zg_finK (E := 0) [0, 1, 2, 3, 4] rfl rfl (fun q => q)
  · refine zg_iconst 0 rfl d_L_law_1394 ?_
    exact zg_zretK d_L_law_1395 rfl ⟨by show c1 ≤ 601024; omega, by show c2 ≤ 7293034; omega⟩ (Or.inl rfl) (fun q => q)
def f_L_32 (L : Nat) (xs : Nat → Int32) (x y o : Nat) (i : Int32) (h0 : zHp) : Option ((Unit ⊕ Int32) × zHp) :=
  zob (zsc L xs (i + 1)) (fun v245 =>
  zbd (zcv 7 x h0 (f_X7_sizes x v245 h0)) (fun v247 h246 =>
  zob (zsc L xs (i + 1)) (fun v248 =>
  zbd (zcv 8 y h246 (f_X8_sizes y v248 h246)) (fun v250 h249 =>
  if v247 = v250 then
  some ((.inl ()), h249)
  else
  some ((.inr 0), h249)))))
set_option maxRecDepth 100000 in
set_option maxHeartbeats 4000000 in
theorem t_L_32 {X : zCx} {b L : Nat} {xs : Nat → Int32} {c1 c2 : Nat} (hX : zScr X b L xs) (hc : c1 ≤ 600000 ∧ c2 ≤ 7200000) (x y o : Nat) (i : Int32) (h0 : zHp) : zG X M_L_law (c1, c2) 1396 [(0, .ref b), (1, .ref x), (2, .ref y), (3, .ref o), (4, .int i)] [] h0 (f_L_32 L xs x y o i h0) (fun r h' => zsl r (fun _ => zSW X M_L_law (c1, c2) 1595 [(0, .ref b), (1, .ref x), (2, .ref y), (3, .ref o), (4, .int i)] [] h') (fun v => zKe X (some (.int v)) h')) := by
  unfold f_L_32
  refine zg_aload_n 1 rfl d_L_law_1396 ?_
  refine zg_aload_n 0 rfl d_L_law_1397 ?_
  refine zg_iload 4 rfl d_L_law_1398 ?_
  refine zg_iconst 1 rfl d_L_law_1400 ?_
  refine zg_iadd d_L_law_1401 ?_
  refine zg_sld hX d_L_law_1402 (fun v245 => ?_)
  refine zg_cVi (b := x) (As := [.int v245]) (rest := []) (c1, c2) d_L_law_1403 zc_7 rfl cw_L_164 wi_X7_sizes ws_X7_sizes rfl rfl (Nat.le_of_ble_eq_true rfl) (by decide) (by decide) ⟨by show c1 + 0 ≤ 601024; omega, by show c2 + 0 ≤ 7293034; omega⟩ rfl (t_X7_sizes x v245 h0) (fun v247 h246 => ?_)
  refine zg_aload_n 2 rfl d_L_law_1406 ?_
  refine zg_aload_n 0 rfl d_L_law_1407 ?_
  refine zg_iload 4 rfl d_L_law_1408 ?_
  refine zg_iconst 1 rfl d_L_law_1410 ?_
  refine zg_iadd d_L_law_1411 ?_
  refine zg_sld hX d_L_law_1412 (fun v248 => ?_)
  refine zg_cVi (b := y) (As := [.int v248]) (rest := [.int v247]) (c1, c2) d_L_law_1413 zc_8 rfl cw_L_167 wi_X8_sizes ws_X8_sizes rfl rfl (Nat.le_of_ble_eq_true rfl) (by decide) (by decide) ⟨by show c1 + 0 ≤ 601024; omega, by show c2 + 0 ≤ 7293034; omega⟩ rfl (t_X8_sizes y v248 h246) (fun v250 h249 => ?_)
  refine zg_icmp_eq d_L_law_1416 ?_ ?_
  · exact zg_finK (E := 0) [0, 1, 2, 3, 4] rfl rfl (fun q => q)
  · refine zg_iconst 0 rfl d_L_law_1419 ?_
    exact zg_zretK d_L_law_1420 rfl ⟨by show c1 ≤ 601024; omega, by show c2 ≤ 7293034; omega⟩ (Or.inl rfl) (fun q => q)
def f_L_33 (L : Nat) (xs : Nat → Int32) (x y o : Nat) (i : Int32) (h0 : zHp) : Option ((Unit ⊕ Int32) × zHp) :=
  zob (zsc L xs (i + 1)) (fun v251 =>
  zob (zsc L xs (i + 2)) (fun v252 =>
  zob (zsc L xs (i + 3)) (fun v253 =>
  zob (zsc L xs (i + 4)) (fun v254 =>
  zbd (zcv 7 x h0 (f_X7_chance x v251 v252 v253 v254 h0)) (fun v256 h255 =>
  zob (zsc L xs (i + 1)) (fun v257 =>
  zob (zsc L xs (i + 2)) (fun v258 =>
  zob (zsc L xs (i + 3)) (fun v259 =>
  zob (zsc L xs (i + 4)) (fun v260 =>
  zbd (zcv 8 y h255 (f_X8_chance y v257 v258 v259 v260 h255)) (fun v262 h261 =>
  if v256 = v262 then
  some ((.inl ()), h261)
  else
  some ((.inr 0), h261)))))))))))
set_option maxRecDepth 100000 in
set_option maxHeartbeats 4000000 in
theorem t_L_33 {X : zCx} {b L : Nat} {xs : Nat → Int32} {c1 c2 : Nat} (hX : zScr X b L xs) (hc : c1 ≤ 600000 ∧ c2 ≤ 7200000) (x y o : Nat) (i : Int32) (h0 : zHp) : zG X M_L_law (c1, c2) 1421 [(0, .ref b), (1, .ref x), (2, .ref y), (3, .ref o), (4, .int i)] [] h0 (f_L_33 L xs x y o i h0) (fun r h' => zsl r (fun _ => zSW X M_L_law (c1, c2) 1595 [(0, .ref b), (1, .ref x), (2, .ref y), (3, .ref o), (4, .int i)] [] h') (fun v => zKe X (some (.int v)) h')) := by
  unfold f_L_33
  refine zg_aload_n 1 rfl d_L_law_1421 ?_
  refine zg_aload_n 0 rfl d_L_law_1422 ?_
  refine zg_iload 4 rfl d_L_law_1423 ?_
  refine zg_iconst 1 rfl d_L_law_1425 ?_
  refine zg_iadd d_L_law_1426 ?_
  refine zg_sld hX d_L_law_1427 (fun v251 => ?_)
  refine zg_aload_n 0 rfl d_L_law_1428 ?_
  refine zg_iload 4 rfl d_L_law_1429 ?_
  refine zg_iconst 2 rfl d_L_law_1431 ?_
  refine zg_iadd d_L_law_1432 ?_
  refine zg_sld hX d_L_law_1433 (fun v252 => ?_)
  refine zg_aload_n 0 rfl d_L_law_1434 ?_
  refine zg_iload 4 rfl d_L_law_1435 ?_
  refine zg_iconst 3 rfl d_L_law_1437 ?_
  refine zg_iadd d_L_law_1438 ?_
  refine zg_sld hX d_L_law_1439 (fun v253 => ?_)
  refine zg_aload_n 0 rfl d_L_law_1440 ?_
  refine zg_iload 4 rfl d_L_law_1441 ?_
  refine zg_iconst 4 rfl d_L_law_1443 ?_
  refine zg_iadd d_L_law_1444 ?_
  refine zg_sld hX d_L_law_1445 (fun v254 => ?_)
  refine zg_cVi (b := x) (As := [.int v251, .int v252, .int v253, .int v254]) (rest := []) (c1, c2) d_L_law_1446 zc_7 rfl cw_L_168 wi_X7_chance ws_X7_chance rfl rfl (Nat.le_of_ble_eq_true rfl) (by decide) (by decide) ⟨by show c1 + 0 ≤ 601024; omega, by show c2 + 0 ≤ 7293034; omega⟩ rfl (t_X7_chance x v251 v252 v253 v254 h0) (fun v256 h255 => ?_)
  refine zg_aload_n 2 rfl d_L_law_1449 ?_
  refine zg_aload_n 0 rfl d_L_law_1450 ?_
  refine zg_iload 4 rfl d_L_law_1451 ?_
  refine zg_iconst 1 rfl d_L_law_1453 ?_
  refine zg_iadd d_L_law_1454 ?_
  refine zg_sld hX d_L_law_1455 (fun v257 => ?_)
  refine zg_aload_n 0 rfl d_L_law_1456 ?_
  refine zg_iload 4 rfl d_L_law_1457 ?_
  refine zg_iconst 2 rfl d_L_law_1459 ?_
  refine zg_iadd d_L_law_1460 ?_
  refine zg_sld hX d_L_law_1461 (fun v258 => ?_)
  refine zg_aload_n 0 rfl d_L_law_1462 ?_
  refine zg_iload 4 rfl d_L_law_1463 ?_
  refine zg_iconst 3 rfl d_L_law_1465 ?_
  refine zg_iadd d_L_law_1466 ?_
  refine zg_sld hX d_L_law_1467 (fun v259 => ?_)
  refine zg_aload_n 0 rfl d_L_law_1468 ?_
  refine zg_iload 4 rfl d_L_law_1469 ?_
  refine zg_iconst 4 rfl d_L_law_1471 ?_
  refine zg_iadd d_L_law_1472 ?_
  refine zg_sld hX d_L_law_1473 (fun v260 => ?_)
  refine zg_cVi (b := y) (As := [.int v257, .int v258, .int v259, .int v260]) (rest := [.int v256]) (c1, c2) d_L_law_1474 zc_8 rfl cw_L_171 wi_X8_chance ws_X8_chance rfl rfl (Nat.le_of_ble_eq_true rfl) (by decide) (by decide) ⟨by show c1 + 0 ≤ 601024; omega, by show c2 + 0 ≤ 7293034; omega⟩ rfl (t_X8_chance y v257 v258 v259 v260 h255) (fun v262 h261 => ?_)
  refine zg_icmp_eq d_L_law_1477 ?_ ?_
  · exact zg_finK (E := 0) [0, 1, 2, 3, 4] rfl rfl (fun q => q)
  · refine zg_iconst 0 rfl d_L_law_1480 ?_
    exact zg_zretK d_L_law_1481 rfl ⟨by show c1 ≤ 601024; omega, by show c2 ≤ 7293034; omega⟩ (Or.inl rfl) (fun q => q)
def f_L_34 (L : Nat) (xs : Nat → Int32) (x y o : Nat) (i : Int32) (h0 : zHp) : Option ((Unit ⊕ Int32) × zHp) :=
  zob (zsc L xs (i + 1)) (fun v263 =>
  zob (zsc L xs (i + 2)) (fun v264 =>
  zob (zsc L xs (i + 3)) (fun v265 =>
  zbd (zcv 7 x h0 (f_X7_tried x v263 v264 v265 h0)) (fun v267 h266 =>
  zob (zsc L xs (i + 1)) (fun v268 =>
  zob (zsc L xs (i + 2)) (fun v269 =>
  zob (zsc L xs (i + 3)) (fun v270 =>
  zbd (zcv 8 y h266 (f_X8_tried y v268 v269 v270 h266)) (fun v272 h271 =>
  if v267 = v272 then
  some ((.inl ()), h271)
  else
  some ((.inr 0), h271)))))))))
set_option maxRecDepth 100000 in
set_option maxHeartbeats 4000000 in
theorem t_L_34 {X : zCx} {b L : Nat} {xs : Nat → Int32} {c1 c2 : Nat} (hX : zScr X b L xs) (hc : c1 ≤ 600000 ∧ c2 ≤ 7200000) (x y o : Nat) (i : Int32) (h0 : zHp) : zG X M_L_law (c1, c2) 1482 [(0, .ref b), (1, .ref x), (2, .ref y), (3, .ref o), (4, .int i)] [] h0 (f_L_34 L xs x y o i h0) (fun r h' => zsl r (fun _ => zSW X M_L_law (c1, c2) 1595 [(0, .ref b), (1, .ref x), (2, .ref y), (3, .ref o), (4, .int i)] [] h') (fun v => zKe X (some (.int v)) h')) := by
  unfold f_L_34
  refine zg_aload_n 1 rfl d_L_law_1482 ?_
  refine zg_aload_n 0 rfl d_L_law_1483 ?_
  refine zg_iload 4 rfl d_L_law_1484 ?_
  refine zg_iconst 1 rfl d_L_law_1486 ?_
  refine zg_iadd d_L_law_1487 ?_
  refine zg_sld hX d_L_law_1488 (fun v263 => ?_)
  refine zg_aload_n 0 rfl d_L_law_1489 ?_
  refine zg_iload 4 rfl d_L_law_1490 ?_
  refine zg_iconst 2 rfl d_L_law_1492 ?_
  refine zg_iadd d_L_law_1493 ?_
  refine zg_sld hX d_L_law_1494 (fun v264 => ?_)
  refine zg_aload_n 0 rfl d_L_law_1495 ?_
  refine zg_iload 4 rfl d_L_law_1496 ?_
  refine zg_iconst 3 rfl d_L_law_1498 ?_
  refine zg_iadd d_L_law_1499 ?_
  refine zg_sld hX d_L_law_1500 (fun v265 => ?_)
  refine zg_cVi (b := x) (As := [.int v263, .int v264, .int v265]) (rest := []) (c1, c2) d_L_law_1501 zc_7 rfl cw_L_172 wi_X7_tried ws_X7_tried rfl rfl (Nat.le_of_ble_eq_true rfl) (by decide) (by decide) ⟨by show c1 + 0 ≤ 601024; omega, by show c2 + 0 ≤ 7293034; omega⟩ rfl (t_X7_tried x v263 v264 v265 h0) (fun v267 h266 => ?_)
  refine zg_aload_n 2 rfl d_L_law_1504 ?_
  refine zg_aload_n 0 rfl d_L_law_1505 ?_
  refine zg_iload 4 rfl d_L_law_1506 ?_
  refine zg_iconst 1 rfl d_L_law_1508 ?_
  refine zg_iadd d_L_law_1509 ?_
  refine zg_sld hX d_L_law_1510 (fun v268 => ?_)
  refine zg_aload_n 0 rfl d_L_law_1511 ?_
  refine zg_iload 4 rfl d_L_law_1512 ?_
  refine zg_iconst 2 rfl d_L_law_1514 ?_
  refine zg_iadd d_L_law_1515 ?_
  refine zg_sld hX d_L_law_1516 (fun v269 => ?_)
  refine zg_aload_n 0 rfl d_L_law_1517 ?_
  refine zg_iload 4 rfl d_L_law_1518 ?_
  refine zg_iconst 3 rfl d_L_law_1520 ?_
  refine zg_iadd d_L_law_1521 ?_
  refine zg_sld hX d_L_law_1522 (fun v270 => ?_)
  refine zg_cVi (b := y) (As := [.int v268, .int v269, .int v270]) (rest := [.int v267]) (c1, c2) d_L_law_1523 zc_8 rfl cw_L_175 wi_X8_tried ws_X8_tried rfl rfl (Nat.le_of_ble_eq_true rfl) (by decide) (by decide) ⟨by show c1 + 0 ≤ 601024; omega, by show c2 + 0 ≤ 7293034; omega⟩ rfl (t_X8_tried y v268 v269 v270 h266) (fun v272 h271 => ?_)
  refine zg_icmp_eq d_L_law_1526 ?_ ?_
  · exact zg_finK (E := 0) [0, 1, 2, 3, 4] rfl rfl (fun q => q)
  · refine zg_iconst 0 rfl d_L_law_1529 ?_
    exact zg_zretK d_L_law_1530 rfl ⟨by show c1 ≤ 601024; omega, by show c2 ≤ 7293034; omega⟩ (Or.inl rfl) (fun q => q)
def f_L_35 (L : Nat) (xs : Nat → Int32) (x y o : Nat) (i : Int32) (h0 : zHp) : Option ((Unit ⊕ Int32) × zHp) :=
  zbd (zcv 7 x h0 (f_X7_undo x h0)) (fun v274 h273 =>
  zbd (zcv 8 y h273 (f_X8_undo y h273)) (fun v276 h275 =>
  if v274 = v276 then
  some ((.inl ()), h275)
  else
  some ((.inr 0), h275)))
set_option maxRecDepth 100000 in
set_option maxHeartbeats 4000000 in
theorem t_L_35 {X : zCx} {b L : Nat} {xs : Nat → Int32} {c1 c2 : Nat} (hX : zScr X b L xs) (hc : c1 ≤ 600000 ∧ c2 ≤ 7200000) (x y o : Nat) (i : Int32) (h0 : zHp) : zG X M_L_law (c1, c2) 1531 [(0, .ref b), (1, .ref x), (2, .ref y), (3, .ref o), (4, .int i)] [] h0 (f_L_35 L xs x y o i h0) (fun r h' => zsl r (fun _ => zSW X M_L_law (c1, c2) 1595 [(0, .ref b), (1, .ref x), (2, .ref y), (3, .ref o), (4, .int i)] [] h') (fun v => zKe X (some (.int v)) h')) := by
  unfold f_L_35
  refine zg_aload_n 1 rfl d_L_law_1531 ?_
  refine zg_cVi (b := x) (As := []) (rest := []) (c1, c2) d_L_law_1532 zc_7 rfl cw_L_176 wi_X7_undo ws_X7_undo rfl rfl (Nat.le_of_ble_eq_true rfl) (by decide) (by decide) ⟨by show c1 + 0 ≤ 601024; omega, by show c2 + 0 ≤ 7293034; omega⟩ rfl (t_X7_undo x h0) (fun v274 h273 => ?_)
  refine zg_aload_n 2 rfl d_L_law_1535 ?_
  refine zg_cVi (b := y) (As := []) (rest := [.int v274]) (c1, c2) d_L_law_1536 zc_8 rfl cw_L_179 wi_X8_undo ws_X8_undo rfl rfl (Nat.le_of_ble_eq_true rfl) (by decide) (by decide) ⟨by show c1 + 0 ≤ 601024; omega, by show c2 + 0 ≤ 7293034; omega⟩ rfl (t_X8_undo y h273) (fun v276 h275 => ?_)
  refine zg_icmp_eq d_L_law_1539 ?_ ?_
  · exact zg_finK (E := 0) [0, 1, 2, 3, 4] rfl rfl (fun q => q)
  · refine zg_iconst 0 rfl d_L_law_1542 ?_
    exact zg_zretK d_L_law_1543 rfl ⟨by show c1 ≤ 601024; omega, by show c2 ≤ 7293034; omega⟩ (Or.inl rfl) (fun q => q)
def f_L_36 (L : Nat) (xs : Nat → Int32) (x y o : Nat) (i : Int32) (h0 : zHp) : Option ((Unit ⊕ Int32) × zHp) :=
  zbd (zcv 7 x h0 (f_X7_keep x h0)) (fun v278 h277 =>
  zbd (zcv 8 y h277 (f_X8_keep y h277)) (fun v280 h279 =>
  if v278 = v280 then
  some ((.inl ()), h279)
  else
  some ((.inr 0), h279)))
set_option maxRecDepth 100000 in
set_option maxHeartbeats 4000000 in
theorem t_L_36 {X : zCx} {b L : Nat} {xs : Nat → Int32} {c1 c2 : Nat} (hX : zScr X b L xs) (hc : c1 ≤ 600000 ∧ c2 ≤ 7200000) (x y o : Nat) (i : Int32) (h0 : zHp) : zG X M_L_law (c1, c2) 1544 [(0, .ref b), (1, .ref x), (2, .ref y), (3, .ref o), (4, .int i)] [] h0 (f_L_36 L xs x y o i h0) (fun r h' => zsl r (fun _ => zSW X M_L_law (c1, c2) 1595 [(0, .ref b), (1, .ref x), (2, .ref y), (3, .ref o), (4, .int i)] [] h') (fun v => zKe X (some (.int v)) h')) := by
  unfold f_L_36
  refine zg_aload_n 1 rfl d_L_law_1544 ?_
  refine zg_cVi (b := x) (As := []) (rest := []) (c1, c2) d_L_law_1545 zc_7 rfl cw_L_180 wi_X7_keep ws_X7_keep rfl rfl (Nat.le_of_ble_eq_true rfl) (by decide) (by decide) ⟨by show c1 + 0 ≤ 601024; omega, by show c2 + 0 ≤ 7293034; omega⟩ rfl (t_X7_keep x h0) (fun v278 h277 => ?_)
  refine zg_aload_n 2 rfl d_L_law_1548 ?_
  refine zg_cVi (b := y) (As := []) (rest := [.int v278]) (c1, c2) d_L_law_1549 zc_8 rfl cw_L_183 wi_X8_keep ws_X8_keep rfl rfl (Nat.le_of_ble_eq_true rfl) (by decide) (by decide) ⟨by show c1 + 0 ≤ 601024; omega, by show c2 + 0 ≤ 7293034; omega⟩ rfl (t_X8_keep y h277) (fun v280 h279 => ?_)
  refine zg_icmp_eq d_L_law_1552 ?_ ?_
  · exact zg_finK (E := 0) [0, 1, 2, 3, 4] rfl rfl (fun q => q)
  · refine zg_iconst 0 rfl d_L_law_1555 ?_
    exact zg_zretK d_L_law_1556 rfl ⟨by show c1 ≤ 601024; omega, by show c2 ≤ 7293034; omega⟩ (Or.inl rfl) (fun q => q)
def f_L_37 (L : Nat) (xs : Nat → Int32) (x y o : Nat) (i : Int32) (h0 : zHp) : Option ((Unit ⊕ Int32) × zHp) :=
  zbd (zcv 7 x h0 (f_X7_back x h0)) (fun v282 h281 =>
  zbd (zcv 8 y h281 (f_X8_back y h281)) (fun v284 h283 =>
  if v282 = v284 then
  some ((.inl ()), h283)
  else
  some ((.inr 0), h283)))
set_option maxRecDepth 100000 in
set_option maxHeartbeats 4000000 in
theorem t_L_37 {X : zCx} {b L : Nat} {xs : Nat → Int32} {c1 c2 : Nat} (hX : zScr X b L xs) (hc : c1 ≤ 600000 ∧ c2 ≤ 7200000) (x y o : Nat) (i : Int32) (h0 : zHp) : zG X M_L_law (c1, c2) 1557 [(0, .ref b), (1, .ref x), (2, .ref y), (3, .ref o), (4, .int i)] [] h0 (f_L_37 L xs x y o i h0) (fun r h' => zsl r (fun _ => zSW X M_L_law (c1, c2) 1595 [(0, .ref b), (1, .ref x), (2, .ref y), (3, .ref o), (4, .int i)] [] h') (fun v => zKe X (some (.int v)) h')) := by
  unfold f_L_37
  refine zg_aload_n 1 rfl d_L_law_1557 ?_
  refine zg_cVi (b := x) (As := []) (rest := []) (c1, c2) d_L_law_1558 zc_7 rfl cw_L_184 wi_X7_back ws_X7_back rfl rfl (Nat.le_of_ble_eq_true rfl) (by decide) (by decide) ⟨by show c1 + 0 ≤ 601024; omega, by show c2 + 0 ≤ 7293034; omega⟩ rfl (t_X7_back x h0) (fun v282 h281 => ?_)
  refine zg_aload_n 2 rfl d_L_law_1561 ?_
  refine zg_cVi (b := y) (As := []) (rest := [.int v282]) (c1, c2) d_L_law_1562 zc_8 rfl cw_L_187 wi_X8_back ws_X8_back rfl rfl (Nat.le_of_ble_eq_true rfl) (by decide) (by decide) ⟨by show c1 + 0 ≤ 601024; omega, by show c2 + 0 ≤ 7293034; omega⟩ rfl (t_X8_back y h281) (fun v284 h283 => ?_)
  refine zg_icmp_eq d_L_law_1565 ?_ ?_
  · exact zg_finK (E := 0) [0, 1, 2, 3, 4] rfl rfl (fun q => q)
  · refine zg_iconst 0 rfl d_L_law_1568 ?_
    exact zg_zretK d_L_law_1569 rfl ⟨by show c1 ≤ 601024; omega, by show c2 ≤ 7293034; omega⟩ (Or.inl rfl) (fun q => q)
def f_L_38 (L : Nat) (xs : Nat → Int32) (x y o : Nat) (i : Int32) (h0 : zHp) : Option ((Unit ⊕ Int32) × zHp) :=
  zob (zsc L xs (i + 1)) (fun v285 =>
  zbd (zcv 7 x h0 (f_X7_count x v285 h0)) (fun v287 h286 =>
  zob (zsc L xs (i + 1)) (fun v288 =>
  zbd (zcv 8 y h286 (f_X8_count y v288 h286)) (fun v290 h289 =>
  if v287 = v290 then
  some ((.inl ()), h289)
  else
  some ((.inr 0), h289)))))
set_option maxRecDepth 100000 in
set_option maxHeartbeats 4000000 in
theorem t_L_38 {X : zCx} {b L : Nat} {xs : Nat → Int32} {c1 c2 : Nat} (hX : zScr X b L xs) (hc : c1 ≤ 600000 ∧ c2 ≤ 7200000) (x y o : Nat) (i : Int32) (h0 : zHp) : zG X M_L_law (c1, c2) 1570 [(0, .ref b), (1, .ref x), (2, .ref y), (3, .ref o), (4, .int i)] [] h0 (f_L_38 L xs x y o i h0) (fun r h' => zsl r (fun _ => zSW X M_L_law (c1, c2) 1595 [(0, .ref b), (1, .ref x), (2, .ref y), (3, .ref o), (4, .int i)] [] h') (fun v => zKe X (some (.int v)) h')) := by
  unfold f_L_38
  refine zg_aload_n 1 rfl d_L_law_1570 ?_
  refine zg_aload_n 0 rfl d_L_law_1571 ?_
  refine zg_iload 4 rfl d_L_law_1572 ?_
  refine zg_iconst 1 rfl d_L_law_1574 ?_
  refine zg_iadd d_L_law_1575 ?_
  refine zg_sld hX d_L_law_1576 (fun v285 => ?_)
  refine zg_cVi (b := x) (As := [.int v285]) (rest := []) (c1, c2) d_L_law_1577 zc_7 rfl cw_L_188 wi_X7_count ws_X7_count rfl rfl (Nat.le_of_ble_eq_true rfl) (by decide) (by decide) ⟨by show c1 + 0 ≤ 601024; omega, by show c2 + 0 ≤ 7293034; omega⟩ rfl (t_X7_count x v285 h0) (fun v287 h286 => ?_)
  refine zg_aload_n 2 rfl d_L_law_1580 ?_
  refine zg_aload_n 0 rfl d_L_law_1581 ?_
  refine zg_iload 4 rfl d_L_law_1582 ?_
  refine zg_iconst 1 rfl d_L_law_1584 ?_
  refine zg_iadd d_L_law_1585 ?_
  refine zg_sld hX d_L_law_1586 (fun v288 => ?_)
  refine zg_cVi (b := y) (As := [.int v288]) (rest := [.int v287]) (c1, c2) d_L_law_1587 zc_8 rfl cw_L_191 wi_X8_count ws_X8_count rfl rfl (Nat.le_of_ble_eq_true rfl) (by decide) (by decide) ⟨by show c1 + 0 ≤ 601024; omega, by show c2 + 0 ≤ 7293034; omega⟩ rfl (t_X8_count y v288 h286) (fun v290 h289 => ?_)
  refine zg_icmp_eq d_L_law_1590 ?_ ?_
  · exact zg_finK (E := 0) [0, 1, 2, 3, 4] rfl rfl (fun q => q)
  · refine zg_iconst 0 rfl d_L_law_1593 ?_
    exact zg_zretK d_L_law_1594 rfl ⟨by show c1 ≤ 601024; omega, by show c2 ≤ 7293034; omega⟩ (Or.inl rfl) (fun q => q)
