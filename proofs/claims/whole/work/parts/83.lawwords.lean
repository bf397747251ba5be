/-! words of the law's calls -/
theorem ql_582 : Cond.methodLink RL 13 yX11_feed ∈ qwords := q_mem (i := 582) (by decide +kernel) (by decide +kernel)
theorem ql_583 : Cond.instanceMethod yX11_feed ∈ qwords := q_mem (i := 583) (by decide +kernel) (by decide +kernel)
theorem ql_584 : Cond.selects RX11 yX11_feed yX11_feed ∈ qwords := q_mem (i := 584) (by decide +kernel) (by decide +kernel)
theorem ql_125 : Cond.initialized RX11 ∈ qwords := q_mem (i := 125) (by decide +kernel) (by decide +kernel)
theorem ql_585 : Cond.code yX11_feed cX11_feed 6 (some .int) ∈ qwords := q_mem (i := 585) (by decide +kernel) (by decide +kernel)
theorem ml_L_13 : qML RL 13 yX11_feed cX11_feed 6 (some .int) 5 := ⟨ql_582, ql_583, ql_584, ql_125, ql_585, ⟨by decide +kernel, by decide +kernel, by decide +kernel⟩, by decide⟩
theorem ql_1476 : Cond.methodLink RL 17 yX12_feed ∈ qwords := q_mem (i := 1476) (by decide +kernel) (by decide +kernel)
theorem ql_1477 : Cond.instanceMethod yX12_feed ∈ qwords := q_mem (i := 1477) (by decide +kernel) (by decide +kernel)
theorem ql_1478 : Cond.selects RX12 yX12_feed yX12_feed ∈ qwords := q_mem (i := 1478) (by decide +kernel) (by decide +kernel)
theorem ql_139 : Cond.initialized RX12 ∈ qwords := q_mem (i := 139) (by decide +kernel) (by decide +kernel)
theorem ql_1479 : Cond.code yX12_feed cX12_feed 6 (some .int) ∈ qwords := q_mem (i := 1479) (by decide +kernel) (by decide +kernel)
theorem ml_L_17 : qML RL 17 yX12_feed cX12_feed 6 (some .int) 5 := ⟨ql_1476, ql_1477, ql_1478, ql_139, ql_1479, ⟨by decide +kernel, by decide +kernel, by decide +kernel⟩, by decide⟩
theorem ql_590 : Cond.methodLink RL 18 yX11_text ∈ qwords := q_mem (i := 590) (by decide +kernel) (by decide +kernel)
theorem ql_591 : Cond.instanceMethod yX11_text ∈ qwords := q_mem (i := 591) (by decide +kernel) (by decide +kernel)
theorem ql_592 : Cond.selects RX11 yX11_text yX11_text ∈ qwords := q_mem (i := 592) (by decide +kernel) (by decide +kernel)
theorem ql_593 : Cond.code yX11_text cX11_text 3 (some .int) ∈ qwords := q_mem (i := 593) (by decide +kernel) (by decide +kernel)
theorem ml_L_18 : qML RL 18 yX11_text cX11_text 3 (some .int) 1 := ⟨ql_590, ql_591, ql_592, ql_125, ql_593, ⟨by decide +kernel, by decide +kernel, by decide +kernel⟩, by decide⟩
theorem ql_1484 : Cond.methodLink RL 22 yX12_text ∈ qwords := q_mem (i := 1484) (by decide +kernel) (by decide +kernel)
theorem ql_1485 : Cond.instanceMethod yX12_text ∈ qwords := q_mem (i := 1485) (by decide +kernel) (by decide +kernel)
theorem ql_1486 : Cond.selects RX12 yX12_text yX12_text ∈ qwords := q_mem (i := 1486) (by decide +kernel) (by decide +kernel)
theorem ql_1487 : Cond.code yX12_text cX12_text 2 (some .int) ∈ qwords := q_mem (i := 1487) (by decide +kernel) (by decide +kernel)
theorem ml_L_22 : qML RL 22 yX12_text cX12_text 2 (some .int) 1 := ⟨ql_1484, ql_1485, ql_1486, ql_139, ql_1487, ⟨by decide +kernel, by decide +kernel, by decide +kernel⟩, by decide⟩
theorem ql_770 : Cond.methodLink RL 23 yX11_fault ∈ qwords := q_mem (i := 770) (by decide +kernel) (by decide +kernel)
theorem ql_771 : Cond.instanceMethod yX11_fault ∈ qwords := q_mem (i := 771) (by decide +kernel) (by decide +kernel)
theorem ql_772 : Cond.selects RX11 yX11_fault yX11_fault ∈ qwords := q_mem (i := 772) (by decide +kernel) (by decide +kernel)
theorem ql_773 : Cond.code yX11_fault cX11_fault 2 (some .int) ∈ qwords := q_mem (i := 773) (by decide +kernel) (by decide +kernel)
theorem ml_L_23 : qML RL 23 yX11_fault cX11_fault 2 (some .int) 1 := ⟨ql_770, ql_771, ql_772, ql_125, ql_773, ⟨by decide +kernel, by decide +kernel, by decide +kernel⟩, by decide⟩
theorem ql_1597 : Cond.methodLink RL 26 yX12_fault ∈ qwords := q_mem (i := 1597) (by decide +kernel) (by decide +kernel)
theorem ql_1598 : Cond.instanceMethod yX12_fault ∈ qwords := q_mem (i := 1598) (by decide +kernel) (by decide +kernel)
theorem ql_1599 : Cond.selects RX12 yX12_fault yX12_fault ∈ qwords := q_mem (i := 1599) (by decide +kernel) (by decide +kernel)
theorem ql_1600 : Cond.code yX12_fault cX12_fault 2 (some .int) ∈ qwords := q_mem (i := 1600) (by decide +kernel) (by decide +kernel)
theorem ml_L_26 : qML RL 26 yX12_fault cX12_fault 2 (some .int) 1 := ⟨ql_1597, ql_1598, ql_1599, ql_139, ql_1600, ⟨by decide +kernel, by decide +kernel, by decide +kernel⟩, by decide⟩
theorem ql_774 : Cond.methodLink RL 27 yX11_count ∈ qwords := q_mem (i := 774) (by decide +kernel) (by decide +kernel)
theorem ql_775 : Cond.instanceMethod yX11_count ∈ qwords := q_mem (i := 775) (by decide +kernel) (by decide +kernel)
theorem ql_776 : Cond.selects RX11 yX11_count yX11_count ∈ qwords := q_mem (i := 776) (by decide +kernel) (by decide +kernel)
theorem ql_777 : Cond.code yX11_count cX11_count 2 (some .int) ∈ qwords := q_mem (i := 777) (by decide +kernel) (by decide +kernel)
theorem ml_L_27 : qML RL 27 yX11_count cX11_count 2 (some .int) 1 := ⟨ql_774, ql_775, ql_776, ql_125, ql_777, ⟨by decide +kernel, by decide +kernel, by decide +kernel⟩, by decide⟩
theorem ql_1601 : Cond.methodLink RL 30 yX12_count ∈ qwords := q_mem (i := 1601) (by decide +kernel) (by decide +kernel)
theorem ql_1602 : Cond.instanceMethod yX12_count ∈ qwords := q_mem (i := 1602) (by decide +kernel) (by decide +kernel)
theorem ql_1603 : Cond.selects RX12 yX12_count yX12_count ∈ qwords := q_mem (i := 1603) (by decide +kernel) (by decide +kernel)
theorem ql_1604 : Cond.code yX12_count cX12_count 2 (some .int) ∈ qwords := q_mem (i := 1604) (by decide +kernel) (by decide +kernel)
theorem ml_L_30 : qML RL 30 yX12_count cX12_count 2 (some .int) 1 := ⟨ql_1601, ql_1602, ql_1603, ql_139, ql_1604, ⟨by decide +kernel, by decide +kernel, by decide +kernel⟩, by decide⟩
theorem ql_818 : Cond.methodLink RL 31 yX11_depth ∈ qwords := q_mem (i := 818) (by decide +kernel) (by decide +kernel)
theorem ql_819 : Cond.instanceMethod yX11_depth ∈ qwords := q_mem (i := 819) (by decide +kernel) (by decide +kernel)
theorem ql_820 : Cond.selects RX11 yX11_depth yX11_depth ∈ qwords := q_mem (i := 820) (by decide +kernel) (by decide +kernel)
theorem ql_821 : Cond.code yX11_depth cX11_depth 2 (some .int) ∈ qwords := q_mem (i := 821) (by decide +kernel) (by decide +kernel)
theorem ml_L_31 : qML RL 31 yX11_depth cX11_depth 2 (some .int) 1 := ⟨ql_818, ql_819, ql_820, ql_125, ql_821, ⟨by decide +kernel, by decide +kernel, by decide +kernel⟩, by decide⟩
theorem ql_1638 : Cond.methodLink RL 34 yX12_depth ∈ qwords := q_mem (i := 1638) (by decide +kernel) (by decide +kernel)
theorem ql_1639 : Cond.instanceMethod yX12_depth ∈ qwords := q_mem (i := 1639) (by decide +kernel) (by decide +kernel)
theorem ql_1640 : Cond.selects RX12 yX12_depth yX12_depth ∈ qwords := q_mem (i := 1640) (by decide +kernel) (by decide +kernel)
theorem ql_1641 : Cond.code yX12_depth cX12_depth 2 (some .int) ∈ qwords := q_mem (i := 1641) (by decide +kernel) (by decide +kernel)
theorem ml_L_34 : qML RL 34 yX12_depth cX12_depth 2 (some .int) 1 := ⟨ql_1638, ql_1639, ql_1640, ql_139, ql_1641, ⟨by decide +kernel, by decide +kernel, by decide +kernel⟩, by decide⟩
theorem ql_830 : Cond.methodLink RL 35 yX11_shallow ∈ qwords := q_mem (i := 830) (by decide +kernel) (by decide +kernel)
theorem ql_831 : Cond.instanceMethod yX11_shallow ∈ qwords := q_mem (i := 831) (by decide +kernel) (by decide +kernel)
theorem ql_832 : Cond.selects RX11 yX11_shallow yX11_shallow ∈ qwords := q_mem (i := 832) (by decide +kernel) (by decide +kernel)
theorem ql_833 : Cond.code yX11_shallow cX11_shallow 3 (some .int) ∈ qwords := q_mem (i := 833) (by decide +kernel) (by decide +kernel)
theorem ml_L_35 : qML RL 35 yX11_shallow cX11_shallow 3 (some .int) 2 := ⟨ql_830, ql_831, ql_832, ql_125, ql_833, ⟨by decide +kernel, by decide +kernel, by decide +kernel⟩, by decide⟩
theorem ql_1646 : Cond.methodLink RL 39 yX12_shallow ∈ qwords := q_mem (i := 1646) (by decide +kernel) (by decide +kernel)
theorem ql_1647 : Cond.instanceMethod yX12_shallow ∈ qwords := q_mem (i := 1647) (by decide +kernel) (by decide +kernel)
theorem ql_1648 : Cond.selects RX12 yX12_shallow yX12_shallow ∈ qwords := q_mem (i := 1648) (by decide +kernel) (by decide +kernel)
theorem ql_1649 : Cond.code yX12_shallow cX12_shallow 3 (some .int) ∈ qwords := q_mem (i := 1649) (by decide +kernel) (by decide +kernel)
theorem ml_L_39 : qML RL 39 yX12_shallow cX12_shallow 3 (some .int) 2 := ⟨ql_1646, ql_1647, ql_1648, ql_139, ql_1649, ⟨by decide +kernel, by decide +kernel, by decide +kernel⟩, by decide⟩
theorem ql_840 : Cond.methodLink RL 40 yX11_level ∈ qwords := q_mem (i := 840) (by decide +kernel) (by decide +kernel)
theorem ql_841 : Cond.instanceMethod yX11_level ∈ qwords := q_mem (i := 841) (by decide +kernel) (by decide +kernel)
theorem ql_842 : Cond.selects RX11 yX11_level yX11_level ∈ qwords := q_mem (i := 842) (by decide +kernel) (by decide +kernel)
theorem ql_843 : Cond.code yX11_level cX11_level 2 (some .int) ∈ qwords := q_mem (i := 843) (by decide +kernel) (by decide +kernel)
theorem ml_L_40 : qML RL 40 yX11_level cX11_level 2 (some .int) 1 := ⟨ql_840, ql_841, ql_842, ql_125, ql_843, ⟨by decide +kernel, by decide +kernel, by decide +kernel⟩, by decide⟩
theorem ql_1654 : Cond.methodLink RL 43 yX12_level ∈ qwords := q_mem (i := 1654) (by decide +kernel) (by decide +kernel)
theorem ql_1655 : Cond.instanceMethod yX12_level ∈ qwords := q_mem (i := 1655) (by decide +kernel) (by decide +kernel)
theorem ql_1656 : Cond.selects RX12 yX12_level yX12_level ∈ qwords := q_mem (i := 1656) (by decide +kernel) (by decide +kernel)
theorem ql_1657 : Cond.code yX12_level cX12_level 2 (some .int) ∈ qwords := q_mem (i := 1657) (by decide +kernel) (by decide +kernel)
theorem ml_L_43 : qML RL 43 yX12_level cX12_level 2 (some .int) 1 := ⟨ql_1654, ql_1655, ql_1656, ql_139, ql_1657, ⟨by decide +kernel, by decide +kernel, by decide +kernel⟩, by decide⟩
theorem ql_847 : Cond.methodLink RL 44 yX11_gangs ∈ qwords := q_mem (i := 847) (by decide +kernel) (by decide +kernel)
theorem ql_848 : Cond.instanceMethod yX11_gangs ∈ qwords := q_mem (i := 848) (by decide +kernel) (by decide +kernel)
theorem ql_849 : Cond.selects RX11 yX11_gangs yX11_gangs ∈ qwords := q_mem (i := 849) (by decide +kernel) (by decide +kernel)
theorem ql_850 : Cond.code yX11_gangs cX11_gangs 3 (some .int) ∈ qwords := q_mem (i := 850) (by decide +kernel) (by decide +kernel)
theorem ml_L_44 : qML RL 44 yX11_gangs cX11_gangs 3 (some .int) 2 := ⟨ql_847, ql_848, ql_849, ql_125, ql_850, ⟨by decide +kernel, by decide +kernel, by decide +kernel⟩, by decide⟩
theorem ql_1662 : Cond.methodLink RL 47 yX12_gangs ∈ qwords := q_mem (i := 1662) (by decide +kernel) (by decide +kernel)
theorem ql_1663 : Cond.instanceMethod yX12_gangs ∈ qwords := q_mem (i := 1663) (by decide +kernel) (by decide +kernel)
theorem ql_1664 : Cond.selects RX12 yX12_gangs yX12_gangs ∈ qwords := q_mem (i := 1664) (by decide +kernel) (by decide +kernel)
theorem ql_1665 : Cond.code yX12_gangs cX12_gangs 3 (some .int) ∈ qwords := q_mem (i := 1665) (by decide +kernel) (by decide +kernel)
theorem ml_L_47 : qML RL 47 yX12_gangs cX12_gangs 3 (some .int) 2 := ⟨ql_1662, ql_1663, ql_1664, ql_139, ql_1665, ⟨by decide +kernel, by decide +kernel, by decide +kernel⟩, by decide⟩
theorem ql_858 : Cond.methodLink RL 48 yX11_crane ∈ qwords := q_mem (i := 858) (by decide +kernel) (by decide +kernel)
theorem ql_859 : Cond.instanceMethod yX11_crane ∈ qwords := q_mem (i := 859) (by decide +kernel) (by decide +kernel)
theorem ql_860 : Cond.selects RX11 yX11_crane yX11_crane ∈ qwords := q_mem (i := 860) (by decide +kernel) (by decide +kernel)
theorem ql_861 : Cond.code yX11_crane cX11_crane 3 (some .int) ∈ qwords := q_mem (i := 861) (by decide +kernel) (by decide +kernel)
theorem ml_L_48 : qML RL 48 yX11_crane cX11_crane 3 (some .int) 2 := ⟨ql_858, ql_859, ql_860, ql_125, ql_861, ⟨by decide +kernel, by decide +kernel, by decide +kernel⟩, by decide⟩
theorem ql_1675 : Cond.methodLink RL 51 yX12_crane ∈ qwords := q_mem (i := 1675) (by decide +kernel) (by decide +kernel)
theorem ql_1676 : Cond.instanceMethod yX12_crane ∈ qwords := q_mem (i := 1676) (by decide +kernel) (by decide +kernel)
theorem ql_1677 : Cond.selects RX12 yX12_crane yX12_crane ∈ qwords := q_mem (i := 1677) (by decide +kernel) (by decide +kernel)
theorem ql_1678 : Cond.code yX12_crane cX12_crane 3 (some .int) ∈ qwords := q_mem (i := 1678) (by decide +kernel) (by decide +kernel)
theorem ml_L_51 : qML RL 51 yX12_crane cX12_crane 3 (some .int) 2 := ⟨ql_1675, ql_1676, ql_1677, ql_139, ql_1678, ⟨by decide +kernel, by decide +kernel, by decide +kernel⟩, by decide⟩
theorem ql_866 : Cond.methodLink RL 52 yX11_ship ∈ qwords := q_mem (i := 866) (by decide +kernel) (by decide +kernel)
theorem ql_867 : Cond.instanceMethod yX11_ship ∈ qwords := q_mem (i := 867) (by decide +kernel) (by decide +kernel)
theorem ql_868 : Cond.selects RX11 yX11_ship yX11_ship ∈ qwords := q_mem (i := 868) (by decide +kernel) (by decide +kernel)
theorem ql_869 : Cond.code yX11_ship cX11_ship 3 (some .int) ∈ qwords := q_mem (i := 869) (by decide +kernel) (by decide +kernel)
theorem ml_L_52 : qML RL 52 yX11_ship cX11_ship 3 (some .int) 2 := ⟨ql_866, ql_867, ql_868, ql_125, ql_869, ⟨by decide +kernel, by decide +kernel, by decide +kernel⟩, by decide⟩
theorem ql_1730 : Cond.methodLink RL 55 yX12_ship ∈ qwords := q_mem (i := 1730) (by decide +kernel) (by decide +kernel)
theorem ql_1731 : Cond.instanceMethod yX12_ship ∈ qwords := q_mem (i := 1731) (by decide +kernel) (by decide +kernel)
theorem ql_1732 : Cond.selects RX12 yX12_ship yX12_ship ∈ qwords := q_mem (i := 1732) (by decide +kernel) (by decide +kernel)
theorem ql_1733 : Cond.code yX12_ship cX12_ship 3 (some .int) ∈ qwords := q_mem (i := 1733) (by decide +kernel) (by decide +kernel)
theorem ml_L_55 : qML RL 55 yX12_ship cX12_ship 3 (some .int) 2 := ⟨ql_1730, ql_1731, ql_1732, ql_139, ql_1733, ⟨by decide +kernel, by decide +kernel, by decide +kernel⟩, by decide⟩
theorem ql_880 : Cond.methodLink RL 56 yX11_letter ∈ qwords := q_mem (i := 880) (by decide +kernel) (by decide +kernel)
theorem ql_881 : Cond.instanceMethod yX11_letter ∈ qwords := q_mem (i := 881) (by decide +kernel) (by decide +kernel)
theorem ql_882 : Cond.selects RX11 yX11_letter yX11_letter ∈ qwords := q_mem (i := 882) (by decide +kernel) (by decide +kernel)
theorem ql_883 : Cond.code yX11_letter cX11_letter 4 (some .int) ∈ qwords := q_mem (i := 883) (by decide +kernel) (by decide +kernel)
theorem ml_L_56 : qML RL 56 yX11_letter cX11_letter 4 (some .int) 2 := ⟨ql_880, ql_881, ql_882, ql_125, ql_883, ⟨by decide +kernel, by decide +kernel, by decide +kernel⟩, by decide⟩
theorem ql_1688 : Cond.methodLink RL 59 yX12_letter ∈ qwords := q_mem (i := 1688) (by decide +kernel) (by decide +kernel)
theorem ql_1689 : Cond.instanceMethod yX12_letter ∈ qwords := q_mem (i := 1689) (by decide +kernel) (by decide +kernel)
theorem ql_1690 : Cond.selects RX12 yX12_letter yX12_letter ∈ qwords := q_mem (i := 1690) (by decide +kernel) (by decide +kernel)
theorem ql_1691 : Cond.code yX12_letter cX12_letter 7 (some .int) ∈ qwords := q_mem (i := 1691) (by decide +kernel) (by decide +kernel)
theorem ml_L_59 : qML RL 59 yX12_letter cX12_letter 7 (some .int) 2 := ⟨ql_1688, ql_1689, ql_1690, ql_139, ql_1691, ⟨by decide +kernel, by decide +kernel, by decide +kernel⟩, by decide⟩
theorem ql_885 : Cond.methodLink RL 60 yX11_moves ∈ qwords := q_mem (i := 885) (by decide +kernel) (by decide +kernel)
theorem ql_886 : Cond.instanceMethod yX11_moves ∈ qwords := q_mem (i := 886) (by decide +kernel) (by decide +kernel)
theorem ql_887 : Cond.selects RX11 yX11_moves yX11_moves ∈ qwords := q_mem (i := 887) (by decide +kernel) (by decide +kernel)
theorem ql_888 : Cond.code yX11_moves cX11_moves 2 (some .int) ∈ qwords := q_mem (i := 888) (by decide +kernel) (by decide +kernel)
theorem ml_L_60 : qML RL 60 yX11_moves cX11_moves 2 (some .int) 1 := ⟨ql_885, ql_886, ql_887, ql_125, ql_888, ⟨by decide +kernel, by decide +kernel, by decide +kernel⟩, by decide⟩
theorem ql_1679 : Cond.methodLink RL 63 yX12_moves ∈ qwords := q_mem (i := 1679) (by decide +kernel) (by decide +kernel)
theorem ql_1680 : Cond.instanceMethod yX12_moves ∈ qwords := q_mem (i := 1680) (by decide +kernel) (by decide +kernel)
theorem ql_1681 : Cond.selects RX12 yX12_moves yX12_moves ∈ qwords := q_mem (i := 1681) (by decide +kernel) (by decide +kernel)
theorem ql_1682 : Cond.code yX12_moves cX12_moves 2 (some .int) ∈ qwords := q_mem (i := 1682) (by decide +kernel) (by decide +kernel)
theorem ml_L_63 : qML RL 63 yX12_moves cX12_moves 2 (some .int) 1 := ⟨ql_1679, ql_1680, ql_1681, ql_139, ql_1682, ⟨by decide +kernel, by decide +kernel, by decide +kernel⟩, by decide⟩
theorem ql_897 : Cond.methodLink RL 64 yX11_open ∈ qwords := q_mem (i := 897) (by decide +kernel) (by decide +kernel)
theorem ql_898 : Cond.instanceMethod yX11_open ∈ qwords := q_mem (i := 898) (by decide +kernel) (by decide +kernel)
theorem ql_899 : Cond.selects RX11 yX11_open yX11_open ∈ qwords := q_mem (i := 899) (by decide +kernel) (by decide +kernel)
theorem ql_900 : Cond.code yX11_open cX11_open 3 (some .int) ∈ qwords := q_mem (i := 900) (by decide +kernel) (by decide +kernel)
theorem ml_L_64 : qML RL 64 yX11_open cX11_open 3 (some .int) 2 := ⟨ql_897, ql_898, ql_899, ql_125, ql_900, ⟨by decide +kernel, by decide +kernel, by decide +kernel⟩, by decide⟩
theorem ql_1701 : Cond.methodLink RL 67 yX12_open ∈ qwords := q_mem (i := 1701) (by decide +kernel) (by decide +kernel)
theorem ql_1702 : Cond.instanceMethod yX12_open ∈ qwords := q_mem (i := 1702) (by decide +kernel) (by decide +kernel)
theorem ql_1703 : Cond.selects RX12 yX12_open yX12_open ∈ qwords := q_mem (i := 1703) (by decide +kernel) (by decide +kernel)
theorem ql_1704 : Cond.code yX12_open cX12_open 3 (some .int) ∈ qwords := q_mem (i := 1704) (by decide +kernel) (by decide +kernel)
theorem ml_L_67 : qML RL 67 yX12_open cX12_open 3 (some .int) 2 := ⟨ql_1701, ql_1702, ql_1703, ql_139, ql_1704, ⟨by decide +kernel, by decide +kernel, by decide +kernel⟩, by decide⟩
theorem ql_908 : Cond.methodLink RL 68 yX11_next ∈ qwords := q_mem (i := 908) (by decide +kernel) (by decide +kernel)
theorem ql_909 : Cond.instanceMethod yX11_next ∈ qwords := q_mem (i := 909) (by decide +kernel) (by decide +kernel)
theorem ql_910 : Cond.selects RX11 yX11_next yX11_next ∈ qwords := q_mem (i := 910) (by decide +kernel) (by decide +kernel)
theorem ql_911 : Cond.code yX11_next cX11_next 4 (some .int) ∈ qwords := q_mem (i := 911) (by decide +kernel) (by decide +kernel)
theorem ml_L_68 : qML RL 68 yX11_next cX11_next 4 (some .int) 2 := ⟨ql_908, ql_909, ql_910, ql_125, ql_911, ⟨by decide +kernel, by decide +kernel, by decide +kernel⟩, by decide⟩
theorem ql_1713 : Cond.methodLink RL 71 yX12_next ∈ qwords := q_mem (i := 1713) (by decide +kernel) (by decide +kernel)
theorem ql_1714 : Cond.instanceMethod yX12_next ∈ qwords := q_mem (i := 1714) (by decide +kernel) (by decide +kernel)
theorem ql_1715 : Cond.selects RX12 yX12_next yX12_next ∈ qwords := q_mem (i := 1715) (by decide +kernel) (by decide +kernel)
theorem ql_1716 : Cond.code yX12_next cX12_next 4 (some .int) ∈ qwords := q_mem (i := 1716) (by decide +kernel) (by decide +kernel)
theorem ml_L_71 : qML RL 71 yX12_next cX12_next 4 (some .int) 2 := ⟨ql_1713, ql_1714, ql_1715, ql_139, ql_1716, ⟨by decide +kernel, by decide +kernel, by decide +kernel⟩, by decide⟩
theorem ql_917 : Cond.methodLink RL 72 yX11_shut ∈ qwords := q_mem (i := 917) (by decide +kernel) (by decide +kernel)
theorem ql_918 : Cond.instanceMethod yX11_shut ∈ qwords := q_mem (i := 918) (by decide +kernel) (by decide +kernel)
theorem ql_919 : Cond.selects RX11 yX11_shut yX11_shut ∈ qwords := q_mem (i := 919) (by decide +kernel) (by decide +kernel)
theorem ql_920 : Cond.code yX11_shut cX11_shut 7 (some .int) ∈ qwords := q_mem (i := 920) (by decide +kernel) (by decide +kernel)
theorem ml_L_72 : qML RL 72 yX11_shut cX11_shut 7 (some .int) 2 := ⟨ql_917, ql_918, ql_919, ql_125, ql_920, ⟨by decide +kernel, by decide +kernel, by decide +kernel⟩, by decide⟩
theorem ql_1721 : Cond.methodLink RL 75 yX12_shut ∈ qwords := q_mem (i := 1721) (by decide +kernel) (by decide +kernel)
theorem ql_1722 : Cond.instanceMethod yX12_shut ∈ qwords := q_mem (i := 1722) (by decide +kernel) (by decide +kernel)
theorem ql_1723 : Cond.selects RX12 yX12_shut yX12_shut ∈ qwords := q_mem (i := 1723) (by decide +kernel) (by decide +kernel)
theorem ql_1724 : Cond.code yX12_shut cX12_shut 7 (some .int) ∈ qwords := q_mem (i := 1724) (by decide +kernel) (by decide +kernel)
theorem ml_L_75 : qML RL 75 yX12_shut cX12_shut 7 (some .int) 2 := ⟨ql_1721, ql_1722, ql_1723, ql_139, ql_1724, ⟨by decide +kernel, by decide +kernel, by decide +kernel⟩, by decide⟩
theorem ql_921 : Cond.methodLink RL 76 yX11_tide ∈ qwords := q_mem (i := 921) (by decide +kernel) (by decide +kernel)
theorem ql_922 : Cond.instanceMethod yX11_tide ∈ qwords := q_mem (i := 922) (by decide +kernel) (by decide +kernel)
theorem ql_923 : Cond.selects RX11 yX11_tide yX11_tide ∈ qwords := q_mem (i := 923) (by decide +kernel) (by decide +kernel)
theorem ql_924 : Cond.code yX11_tide cX11_tide 7 (some .int) ∈ qwords := q_mem (i := 924) (by decide +kernel) (by decide +kernel)
theorem ml_L_76 : qML RL 76 yX11_tide cX11_tide 7 (some .int) 3 := ⟨ql_921, ql_922, ql_923, ql_125, ql_924, ⟨by decide +kernel, by decide +kernel, by decide +kernel⟩, by decide⟩
theorem ql_1725 : Cond.methodLink RL 80 yX12_tide ∈ qwords := q_mem (i := 1725) (by decide +kernel) (by decide +kernel)
theorem ql_1726 : Cond.instanceMethod yX12_tide ∈ qwords := q_mem (i := 1726) (by decide +kernel) (by decide +kernel)
theorem ql_1727 : Cond.selects RX12 yX12_tide yX12_tide ∈ qwords := q_mem (i := 1727) (by decide +kernel) (by decide +kernel)
theorem ql_1728 : Cond.code yX12_tide cX12_tide 7 (some .int) ∈ qwords := q_mem (i := 1728) (by decide +kernel) (by decide +kernel)
theorem ml_L_80 : qML RL 80 yX12_tide cX12_tide 7 (some .int) 3 := ⟨ql_1725, ql_1726, ql_1727, ql_139, ql_1728, ⟨by decide +kernel, by decide +kernel, by decide +kernel⟩, by decide⟩
theorem ql_925 : Cond.methodLink RL 81 yX11_breaks ∈ qwords := q_mem (i := 925) (by decide +kernel) (by decide +kernel)
theorem ql_926 : Cond.instanceMethod yX11_breaks ∈ qwords := q_mem (i := 926) (by decide +kernel) (by decide +kernel)
theorem ql_927 : Cond.selects RX11 yX11_breaks yX11_breaks ∈ qwords := q_mem (i := 927) (by decide +kernel) (by decide +kernel)
theorem ql_928 : Cond.code yX11_breaks cX11_breaks 6 (some .int) ∈ qwords := q_mem (i := 928) (by decide +kernel) (by decide +kernel)
theorem ml_L_81 : qML RL 81 yX11_breaks cX11_breaks 6 (some .int) 4 := ⟨ql_925, ql_926, ql_927, ql_125, ql_928, ⟨by decide +kernel, by decide +kernel, by decide +kernel⟩, by decide⟩
theorem ql_1735 : Cond.methodLink RL 85 yX12_breaks ∈ qwords := q_mem (i := 1735) (by decide +kernel) (by decide +kernel)
theorem ql_1736 : Cond.instanceMethod yX12_breaks ∈ qwords := q_mem (i := 1736) (by decide +kernel) (by decide +kernel)
theorem ql_1737 : Cond.selects RX12 yX12_breaks yX12_breaks ∈ qwords := q_mem (i := 1737) (by decide +kernel) (by decide +kernel)
theorem ql_1738 : Cond.code yX12_breaks cX12_breaks 5 (some .int) ∈ qwords := q_mem (i := 1738) (by decide +kernel) (by decide +kernel)
theorem ml_L_85 : qML RL 85 yX12_breaks cX12_breaks 5 (some .int) 4 := ⟨ql_1735, ql_1736, ql_1737, ql_139, ql_1738, ⟨by decide +kernel, by decide +kernel, by decide +kernel⟩, by decide⟩
theorem ql_1024 : Cond.methodLink RL 86 yX11_inWay ∈ qwords := q_mem (i := 1024) (by decide +kernel) (by decide +kernel)
theorem ql_1025 : Cond.instanceMethod yX11_inWay ∈ qwords := q_mem (i := 1025) (by decide +kernel) (by decide +kernel)
theorem ql_1026 : Cond.selects RX11 yX11_inWay yX11_inWay ∈ qwords := q_mem (i := 1026) (by decide +kernel) (by decide +kernel)
theorem ql_1027 : Cond.code yX11_inWay cX11_inWay 7 (some .int) ∈ qwords := q_mem (i := 1027) (by decide +kernel) (by decide +kernel)
theorem ml_L_86 : qML RL 86 yX11_inWay cX11_inWay 7 (some .int) 4 := ⟨ql_1024, ql_1025, ql_1026, ql_125, ql_1027, ⟨by decide +kernel, by decide +kernel, by decide +kernel⟩, by decide⟩
theorem ql_1819 : Cond.methodLink RL 89 yX12_inWay ∈ qwords := q_mem (i := 1819) (by decide +kernel) (by decide +kernel)
theorem ql_1820 : Cond.instanceMethod yX12_inWay ∈ qwords := q_mem (i := 1820) (by decide +kernel) (by decide +kernel)
theorem ql_1821 : Cond.selects RX12 yX12_inWay yX12_inWay ∈ qwords := q_mem (i := 1821) (by decide +kernel) (by decide +kernel)
theorem ql_1822 : Cond.code yX12_inWay cX12_inWay 9 (some .int) ∈ qwords := q_mem (i := 1822) (by decide +kernel) (by decide +kernel)
theorem ml_L_89 : qML RL 89 yX12_inWay cX12_inWay 9 (some .int) 4 := ⟨ql_1819, ql_1820, ql_1821, ql_139, ql_1822, ⟨by decide +kernel, by decide +kernel, by decide +kernel⟩, by decide⟩
theorem ql_1031 : Cond.methodLink RL 90 yX11_earliest ∈ qwords := q_mem (i := 1031) (by decide +kernel) (by decide +kernel)
theorem ql_1032 : Cond.instanceMethod yX11_earliest ∈ qwords := q_mem (i := 1032) (by decide +kernel) (by decide +kernel)
theorem ql_1033 : Cond.selects RX11 yX11_earliest yX11_earliest ∈ qwords := q_mem (i := 1033) (by decide +kernel) (by decide +kernel)
theorem ql_1034 : Cond.code yX11_earliest cX11_earliest 5 (some .int) ∈ qwords := q_mem (i := 1034) (by decide +kernel) (by decide +kernel)
theorem ml_L_90 : qML RL 90 yX11_earliest cX11_earliest 5 (some .int) 3 := ⟨ql_1031, ql_1032, ql_1033, ql_125, ql_1034, ⟨by decide +kernel, by decide +kernel, by decide +kernel⟩, by decide⟩
theorem ql_1823 : Cond.methodLink RL 93 yX12_earliest ∈ qwords := q_mem (i := 1823) (by decide +kernel) (by decide +kernel)
theorem ql_1824 : Cond.instanceMethod yX12_earliest ∈ qwords := q_mem (i := 1824) (by decide +kernel) (by decide +kernel)
theorem ql_1825 : Cond.selects RX12 yX12_earliest yX12_earliest ∈ qwords := q_mem (i := 1825) (by decide +kernel) (by decide +kernel)
theorem ql_1826 : Cond.code yX12_earliest cX12_earliest 4 (some .int) ∈ qwords := q_mem (i := 1826) (by decide +kernel) (by decide +kernel)
theorem ml_L_93 : qML RL 93 yX12_earliest cX12_earliest 4 (some .int) 3 := ⟨ql_1823, ql_1824, ql_1825, ql_139, ql_1826, ⟨by decide +kernel, by decide +kernel, by decide +kernel⟩, by decide⟩
theorem ql_1060 : Cond.methodLink RL 94 yX11_put ∈ qwords := q_mem (i := 1060) (by decide +kernel) (by decide +kernel)
theorem ql_1061 : Cond.instanceMethod yX11_put ∈ qwords := q_mem (i := 1061) (by decide +kernel) (by decide +kernel)
theorem ql_1062 : Cond.selects RX11 yX11_put yX11_put ∈ qwords := q_mem (i := 1062) (by decide +kernel) (by decide +kernel)
theorem ql_1063 : Cond.code yX11_put cX11_put 6 (some .int) ∈ qwords := q_mem (i := 1063) (by decide +kernel) (by decide +kernel)
theorem ml_L_94 : qML RL 94 yX11_put cX11_put 6 (some .int) 4 := ⟨ql_1060, ql_1061, ql_1062, ql_125, ql_1063, ⟨by decide +kernel, by decide +kernel, by decide +kernel⟩, by decide⟩
theorem ql_1839 : Cond.methodLink RL 97 yX12_put ∈ qwords := q_mem (i := 1839) (by decide +kernel) (by decide +kernel)
theorem ql_1840 : Cond.instanceMethod yX12_put ∈ qwords := q_mem (i := 1840) (by decide +kernel) (by decide +kernel)
theorem ql_1841 : Cond.selects RX12 yX12_put yX12_put ∈ qwords := q_mem (i := 1841) (by decide +kernel) (by decide +kernel)
theorem ql_1842 : Cond.code yX12_put cX12_put 6 (some .int) ∈ qwords := q_mem (i := 1842) (by decide +kernel) (by decide +kernel)
theorem ml_L_97 : qML RL 97 yX12_put cX12_put 6 (some .int) 4 := ⟨ql_1839, ql_1840, ql_1841, ql_139, ql_1842, ⟨by decide +kernel, by decide +kernel, by decide +kernel⟩, by decide⟩
theorem ql_1081 : Cond.methodLink RL 98 yX11_itself ∈ qwords := q_mem (i := 1081) (by decide +kernel) (by decide +kernel)
theorem ql_1082 : Cond.instanceMethod yX11_itself ∈ qwords := q_mem (i := 1082) (by decide +kernel) (by decide +kernel)
theorem ql_1083 : Cond.selects RX11 yX11_itself yX11_itself ∈ qwords := q_mem (i := 1083) (by decide +kernel) (by decide +kernel)
theorem ql_1084 : Cond.code yX11_itself cX11_itself 2 (some .int) ∈ qwords := q_mem (i := 1084) (by decide +kernel) (by decide +kernel)
theorem ml_L_98 : qML RL 98 yX11_itself cX11_itself 2 (some .int) 1 := ⟨ql_1081, ql_1082, ql_1083, ql_125, ql_1084, ⟨by decide +kernel, by decide +kernel, by decide +kernel⟩, by decide⟩
theorem ql_1855 : Cond.methodLink RL 101 yX12_itself ∈ qwords := q_mem (i := 1855) (by decide +kernel) (by decide +kernel)
theorem ql_1856 : Cond.instanceMethod yX12_itself ∈ qwords := q_mem (i := 1856) (by decide +kernel) (by decide +kernel)
theorem ql_1857 : Cond.selects RX12 yX12_itself yX12_itself ∈ qwords := q_mem (i := 1857) (by decide +kernel) (by decide +kernel)
theorem ql_1858 : Cond.code yX12_itself cX12_itself 2 (some .int) ∈ qwords := q_mem (i := 1858) (by decide +kernel) (by decide +kernel)
theorem ml_L_101 : qML RL 101 yX12_itself cX12_itself 2 (some .int) 1 := ⟨ql_1855, ql_1856, ql_1857, ql_139, ql_1858, ⟨by decide +kernel, by decide +kernel, by decide +kernel⟩, by decide⟩
theorem ql_1089 : Cond.methodLink RL 102 yX11_away ∈ qwords := q_mem (i := 1089) (by decide +kernel) (by decide +kernel)
theorem ql_1090 : Cond.instanceMethod yX11_away ∈ qwords := q_mem (i := 1090) (by decide +kernel) (by decide +kernel)
theorem ql_1091 : Cond.selects RX11 yX11_away yX11_away ∈ qwords := q_mem (i := 1091) (by decide +kernel) (by decide +kernel)
theorem ql_1092 : Cond.code yX11_away cX11_away 2 (some .boolean) ∈ qwords := q_mem (i := 1092) (by decide +kernel) (by decide +kernel)
theorem ml_L_102 : qML RL 102 yX11_away cX11_away 2 (some .boolean) 1 := ⟨ql_1089, ql_1090, ql_1091, ql_125, ql_1092, ⟨by decide +kernel, by decide +kernel, by decide +kernel⟩, by decide⟩
theorem ql_1867 : Cond.methodLink RL 106 yX12_away ∈ qwords := q_mem (i := 1867) (by decide +kernel) (by decide +kernel)
theorem ql_1868 : Cond.instanceMethod yX12_away ∈ qwords := q_mem (i := 1868) (by decide +kernel) (by decide +kernel)
theorem ql_1869 : Cond.selects RX12 yX12_away yX12_away ∈ qwords := q_mem (i := 1869) (by decide +kernel) (by decide +kernel)
theorem ql_1870 : Cond.code yX12_away cX12_away 2 (some .boolean) ∈ qwords := q_mem (i := 1870) (by decide +kernel) (by decide +kernel)
theorem ml_L_106 : qML RL 106 yX12_away cX12_away 2 (some .boolean) 1 := ⟨ql_1867, ql_1868, ql_1869, ql_139, ql_1870, ⟨by decide +kernel, by decide +kernel, by decide +kernel⟩, by decide⟩
theorem ql_1094 : Cond.methodLink RL 107 yX11_move ∈ qwords := q_mem (i := 1094) (by decide +kernel) (by decide +kernel)
theorem ql_1095 : Cond.instanceMethod yX11_move ∈ qwords := q_mem (i := 1095) (by decide +kernel) (by decide +kernel)
theorem ql_1096 : Cond.selects RX11 yX11_move yX11_move ∈ qwords := q_mem (i := 1096) (by decide +kernel) (by decide +kernel)
theorem ql_1097 : Cond.code yX11_move cX11_move 8 (some .int) ∈ qwords := q_mem (i := 1097) (by decide +kernel) (by decide +kernel)
theorem ml_L_107 : qML RL 107 yX11_move cX11_move 8 (some .int) 3 := ⟨ql_1094, ql_1095, ql_1096, ql_125, ql_1097, ⟨by decide +kernel, by decide +kernel, by decide +kernel⟩, by decide⟩
theorem ql_1871 : Cond.methodLink RL 110 yX12_move ∈ qwords := q_mem (i := 1871) (by decide +kernel) (by decide +kernel)
theorem ql_1872 : Cond.instanceMethod yX12_move ∈ qwords := q_mem (i := 1872) (by decide +kernel) (by decide +kernel)
theorem ql_1873 : Cond.selects RX12 yX12_move yX12_move ∈ qwords := q_mem (i := 1873) (by decide +kernel) (by decide +kernel)
theorem ql_1874 : Cond.code yX12_move cX12_move 5 (some .int) ∈ qwords := q_mem (i := 1874) (by decide +kernel) (by decide +kernel)
theorem ml_L_110 : qML RL 110 yX12_move cX12_move 5 (some .int) 3 := ⟨ql_1871, ql_1872, ql_1873, ql_139, ql_1874, ⟨by decide +kernel, by decide +kernel, by decide +kernel⟩, by decide⟩
theorem ql_1109 : Cond.methodLink RL 111 yX11_swap ∈ qwords := q_mem (i := 1109) (by decide +kernel) (by decide +kernel)
theorem ql_1110 : Cond.instanceMethod yX11_swap ∈ qwords := q_mem (i := 1110) (by decide +kernel) (by decide +kernel)
theorem ql_1111 : Cond.selects RX11 yX11_swap yX11_swap ∈ qwords := q_mem (i := 1111) (by decide +kernel) (by decide +kernel)
theorem ql_1112 : Cond.code yX11_swap cX11_swap 10 (some .int) ∈ qwords := q_mem (i := 1112) (by decide +kernel) (by decide +kernel)
theorem ml_L_111 : qML RL 111 yX11_swap cX11_swap 10 (some .int) 2 := ⟨ql_1109, ql_1110, ql_1111, ql_125, ql_1112, ⟨by decide +kernel, by decide +kernel, by decide +kernel⟩, by decide⟩
theorem ql_1875 : Cond.methodLink RL 114 yX12_swap ∈ qwords := q_mem (i := 1875) (by decide +kernel) (by decide +kernel)
theorem ql_1876 : Cond.instanceMethod yX12_swap ∈ qwords := q_mem (i := 1876) (by decide +kernel) (by decide +kernel)
theorem ql_1877 : Cond.selects RX12 yX12_swap yX12_swap ∈ qwords := q_mem (i := 1877) (by decide +kernel) (by decide +kernel)
theorem ql_1878 : Cond.code yX12_swap cX12_swap 4 (some .int) ∈ qwords := q_mem (i := 1878) (by decide +kernel) (by decide +kernel)
theorem ml_L_114 : qML RL 114 yX12_swap cX12_swap 4 (some .int) 2 := ⟨ql_1875, ql_1876, ql_1877, ql_139, ql_1878, ⟨by decide +kernel, by decide +kernel, by decide +kernel⟩, by decide⟩
theorem ql_1122 : Cond.methodLink RL 115 yX11_squeeze ∈ qwords := q_mem (i := 1122) (by decide +kernel) (by decide +kernel)
theorem ql_1123 : Cond.instanceMethod yX11_squeeze ∈ qwords := q_mem (i := 1123) (by decide +kernel) (by decide +kernel)
theorem ql_1124 : Cond.selects RX11 yX11_squeeze yX11_squeeze ∈ qwords := q_mem (i := 1124) (by decide +kernel) (by decide +kernel)
theorem ql_1125 : Cond.code yX11_squeeze cX11_squeeze 6 (some .int) ∈ qwords := q_mem (i := 1125) (by decide +kernel) (by decide +kernel)
theorem ml_L_115 : qML RL 115 yX11_squeeze cX11_squeeze 6 (some .int) 0 := ⟨ql_1122, ql_1123, ql_1124, ql_125, ql_1125, ⟨by decide +kernel, by decide +kernel, by decide +kernel⟩, by decide⟩
theorem ql_1887 : Cond.methodLink RL 119 yX12_squeeze ∈ qwords := q_mem (i := 1887) (by decide +kernel) (by decide +kernel)
theorem ql_1888 : Cond.instanceMethod yX12_squeeze ∈ qwords := q_mem (i := 1888) (by decide +kernel) (by decide +kernel)
theorem ql_1889 : Cond.selects RX12 yX12_squeeze yX12_squeeze ∈ qwords := q_mem (i := 1889) (by decide +kernel) (by decide +kernel)
theorem ql_1890 : Cond.code yX12_squeeze cX12_squeeze 3 (some .int) ∈ qwords := q_mem (i := 1890) (by decide +kernel) (by decide +kernel)
theorem ml_L_119 : qML RL 119 yX12_squeeze cX12_squeeze 3 (some .int) 0 := ⟨ql_1887, ql_1888, ql_1889, ql_139, ql_1890, ⟨by decide +kernel, by decide +kernel, by decide +kernel⟩, by decide⟩
theorem ql_1134 : Cond.methodLink RL 120 yX11_places ∈ qwords := q_mem (i := 1134) (by decide +kernel) (by decide +kernel)
theorem ql_1135 : Cond.instanceMethod yX11_places ∈ qwords := q_mem (i := 1135) (by decide +kernel) (by decide +kernel)
theorem ql_1136 : Cond.selects RX11 yX11_places yX11_places ∈ qwords := q_mem (i := 1136) (by decide +kernel) (by decide +kernel)
theorem ql_1137 : Cond.code yX11_places cX11_places 9 (some .int) ∈ qwords := q_mem (i := 1137) (by decide +kernel) (by decide +kernel)
theorem ml_L_120 : qML RL 120 yX11_places cX11_places 9 (some .int) 4 := ⟨ql_1134, ql_1135, ql_1136, ql_125, ql_1137, ⟨by decide +kernel, by decide +kernel, by decide +kernel⟩, by decide⟩
theorem ql_1899 : Cond.methodLink RL 123 yX12_places ∈ qwords := q_mem (i := 1899) (by decide +kernel) (by decide +kernel)
theorem ql_1900 : Cond.instanceMethod yX12_places ∈ qwords := q_mem (i := 1900) (by decide +kernel) (by decide +kernel)
theorem ql_1901 : Cond.selects RX12 yX12_places yX12_places ∈ qwords := q_mem (i := 1901) (by decide +kernel) (by decide +kernel)
theorem ql_1902 : Cond.code yX12_places cX12_places 7 (some .int) ∈ qwords := q_mem (i := 1902) (by decide +kernel) (by decide +kernel)
theorem ml_L_123 : qML RL 123 yX12_places cX12_places 7 (some .int) 4 := ⟨ql_1899, ql_1900, ql_1901, ql_139, ql_1902, ⟨by decide +kernel, by decide +kernel, by decide +kernel⟩, by decide⟩
theorem ql_1138 : Cond.methodLink RL 124 yX11_hopeless ∈ qwords := q_mem (i := 1138) (by decide +kernel) (by decide +kernel)
theorem ql_1139 : Cond.instanceMethod yX11_hopeless ∈ qwords := q_mem (i := 1139) (by decide +kernel) (by decide +kernel)
theorem ql_1140 : Cond.selects RX11 yX11_hopeless yX11_hopeless ∈ qwords := q_mem (i := 1140) (by decide +kernel) (by decide +kernel)
theorem ql_1141 : Cond.code yX11_hopeless cX11_hopeless 3 (some .int) ∈ qwords := q_mem (i := 1141) (by decide +kernel) (by decide +kernel)
theorem ml_L_124 : qML RL 124 yX11_hopeless cX11_hopeless 3 (some .int) 0 := ⟨ql_1138, ql_1139, ql_1140, ql_125, ql_1141, ⟨by decide +kernel, by decide +kernel, by decide +kernel⟩, by decide⟩
theorem ql_1903 : Cond.methodLink RL 127 yX12_hopeless ∈ qwords := q_mem (i := 1903) (by decide +kernel) (by decide +kernel)
theorem ql_1904 : Cond.instanceMethod yX12_hopeless ∈ qwords := q_mem (i := 1904) (by decide +kernel) (by decide +kernel)
theorem ql_1905 : Cond.selects RX12 yX12_hopeless yX12_hopeless ∈ qwords := q_mem (i := 1905) (by decide +kernel) (by decide +kernel)
theorem ql_1906 : Cond.code yX12_hopeless cX12_hopeless 3 (some .int) ∈ qwords := q_mem (i := 1906) (by decide +kernel) (by decide +kernel)
theorem ml_L_127 : qML RL 127 yX12_hopeless cX12_hopeless 3 (some .int) 0 := ⟨ql_1903, ql_1904, ql_1905, ql_139, ql_1906, ⟨by decide +kernel, by decide +kernel, by decide +kernel⟩, by decide⟩
theorem ql_1142 : Cond.methodLink RL 128 yX11_slack ∈ qwords := q_mem (i := 1142) (by decide +kernel) (by decide +kernel)
theorem ql_1143 : Cond.instanceMethod yX11_slack ∈ qwords := q_mem (i := 1143) (by decide +kernel) (by decide +kernel)
theorem ql_1144 : Cond.selects RX11 yX11_slack yX11_slack ∈ qwords := q_mem (i := 1144) (by decide +kernel) (by decide +kernel)
theorem ql_1145 : Cond.code yX11_slack cX11_slack 6 (some .int) ∈ qwords := q_mem (i := 1145) (by decide +kernel) (by decide +kernel)
theorem ml_L_128 : qML RL 128 yX11_slack cX11_slack 6 (some .int) 1 := ⟨ql_1142, ql_1143, ql_1144, ql_125, ql_1145, ⟨by decide +kernel, by decide +kernel, by decide +kernel⟩, by decide⟩
theorem ql_1907 : Cond.methodLink RL 131 yX12_slack ∈ qwords := q_mem (i := 1907) (by decide +kernel) (by decide +kernel)
theorem ql_1908 : Cond.instanceMethod yX12_slack ∈ qwords := q_mem (i := 1908) (by decide +kernel) (by decide +kernel)
theorem ql_1909 : Cond.selects RX12 yX12_slack yX12_slack ∈ qwords := q_mem (i := 1909) (by decide +kernel) (by decide +kernel)
theorem ql_1910 : Cond.code yX12_slack cX12_slack 3 (some .int) ∈ qwords := q_mem (i := 1910) (by decide +kernel) (by decide +kernel)
theorem ml_L_131 : qML RL 131 yX12_slack cX12_slack 3 (some .int) 1 := ⟨ql_1907, ql_1908, ql_1909, ql_139, ql_1910, ⟨by decide +kernel, by decide +kernel, by decide +kernel⟩, by decide⟩
theorem ql_1146 : Cond.methodLink RL 132 yX11_along ∈ qwords := q_mem (i := 1146) (by decide +kernel) (by decide +kernel)
theorem ql_1147 : Cond.instanceMethod yX11_along ∈ qwords := q_mem (i := 1147) (by decide +kernel) (by decide +kernel)
theorem ql_1148 : Cond.selects RX11 yX11_along yX11_along ∈ qwords := q_mem (i := 1148) (by decide +kernel) (by decide +kernel)
theorem ql_1149 : Cond.code yX11_along cX11_along 8 (some .int) ∈ qwords := q_mem (i := 1149) (by decide +kernel) (by decide +kernel)
theorem ml_L_132 : qML RL 132 yX11_along cX11_along 8 (some .int) 2 := ⟨ql_1146, ql_1147, ql_1148, ql_125, ql_1149, ⟨by decide +kernel, by decide +kernel, by decide +kernel⟩, by decide⟩
theorem ql_1911 : Cond.methodLink RL 135 yX12_along ∈ qwords := q_mem (i := 1911) (by decide +kernel) (by decide +kernel)
theorem ql_1912 : Cond.instanceMethod yX12_along ∈ qwords := q_mem (i := 1912) (by decide +kernel) (by decide +kernel)
theorem ql_1913 : Cond.selects RX12 yX12_along yX12_along ∈ qwords := q_mem (i := 1913) (by decide +kernel) (by decide +kernel)
theorem ql_1914 : Cond.code yX12_along cX12_along 5 (some .int) ∈ qwords := q_mem (i := 1914) (by decide +kernel) (by decide +kernel)
theorem ml_L_135 : qML RL 135 yX12_along cX12_along 5 (some .int) 2 := ⟨ql_1911, ql_1912, ql_1913, ql_139, ql_1914, ⟨by decide +kernel, by decide +kernel, by decide +kernel⟩, by decide⟩
theorem ql_1150 : Cond.methodLink RL 136 yX11_order ∈ qwords := q_mem (i := 1150) (by decide +kernel) (by decide +kernel)
theorem ql_1151 : Cond.instanceMethod yX11_order ∈ qwords := q_mem (i := 1151) (by decide +kernel) (by decide +kernel)
theorem ql_1152 : Cond.selects RX11 yX11_order yX11_order ∈ qwords := q_mem (i := 1152) (by decide +kernel) (by decide +kernel)
theorem ql_1153 : Cond.code yX11_order cX11_order 3 (some .int) ∈ qwords := q_mem (i := 1153) (by decide +kernel) (by decide +kernel)
theorem ml_L_136 : qML RL 136 yX11_order cX11_order 3 (some .int) 2 := ⟨ql_1150, ql_1151, ql_1152, ql_125, ql_1153, ⟨by decide +kernel, by decide +kernel, by decide +kernel⟩, by decide⟩
theorem ql_1915 : Cond.methodLink RL 139 yX12_order ∈ qwords := q_mem (i := 1915) (by decide +kernel) (by decide +kernel)
theorem ql_1916 : Cond.instanceMethod yX12_order ∈ qwords := q_mem (i := 1916) (by decide +kernel) (by decide +kernel)
theorem ql_1917 : Cond.selects RX12 yX12_order yX12_order ∈ qwords := q_mem (i := 1917) (by decide +kernel) (by decide +kernel)
theorem ql_1918 : Cond.code yX12_order cX12_order 3 (some .int) ∈ qwords := q_mem (i := 1918) (by decide +kernel) (by decide +kernel)
theorem ml_L_139 : qML RL 139 yX12_order cX12_order 3 (some .int) 2 := ⟨ql_1915, ql_1916, ql_1917, ql_139, ql_1918, ⟨by decide +kernel, by decide +kernel, by decide +kernel⟩, by decide⟩
theorem ql_1170 : Cond.methodLink RL 140 yX11_all ∈ qwords := q_mem (i := 1170) (by decide +kernel) (by decide +kernel)
theorem ql_1171 : Cond.instanceMethod yX11_all ∈ qwords := q_mem (i := 1171) (by decide +kernel) (by decide +kernel)
theorem ql_1172 : Cond.selects RX11 yX11_all yX11_all ∈ qwords := q_mem (i := 1172) (by decide +kernel) (by decide +kernel)
theorem ql_1173 : Cond.code yX11_all cX11_all 5 (some .int) ∈ qwords := q_mem (i := 1173) (by decide +kernel) (by decide +kernel)
theorem ml_L_140 : qML RL 140 yX11_all cX11_all 5 (some .int) 1 := ⟨ql_1170, ql_1171, ql_1172, ql_125, ql_1173, ⟨by decide +kernel, by decide +kernel, by decide +kernel⟩, by decide⟩
theorem ql_1930 : Cond.methodLink RL 143 yX12_all ∈ qwords := q_mem (i := 1930) (by decide +kernel) (by decide +kernel)
theorem ql_1931 : Cond.instanceMethod yX12_all ∈ qwords := q_mem (i := 1931) (by decide +kernel) (by decide +kernel)
theorem ql_1932 : Cond.selects RX12 yX12_all yX12_all ∈ qwords := q_mem (i := 1932) (by decide +kernel) (by decide +kernel)
theorem ql_1933 : Cond.code yX12_all cX12_all 4 (some .int) ∈ qwords := q_mem (i := 1933) (by decide +kernel) (by decide +kernel)
theorem ml_L_143 : qML RL 143 yX12_all cX12_all 4 (some .int) 1 := ⟨ql_1930, ql_1931, ql_1932, ql_139, ql_1933, ⟨by decide +kernel, by decide +kernel, by decide +kernel⟩, by decide⟩
theorem ql_1174 : Cond.methodLink RL 144 yX11_best ∈ qwords := q_mem (i := 1174) (by decide +kernel) (by decide +kernel)
theorem ql_1175 : Cond.instanceMethod yX11_best ∈ qwords := q_mem (i := 1175) (by decide +kernel) (by decide +kernel)
theorem ql_1176 : Cond.selects RX11 yX11_best yX11_best ∈ qwords := q_mem (i := 1176) (by decide +kernel) (by decide +kernel)
theorem ql_1177 : Cond.code yX11_best cX11_best 2 (some .int) ∈ qwords := q_mem (i := 1177) (by decide +kernel) (by decide +kernel)
theorem ml_L_144 : qML RL 144 yX11_best cX11_best 2 (some .int) 1 := ⟨ql_1174, ql_1175, ql_1176, ql_125, ql_1177, ⟨by decide +kernel, by decide +kernel, by decide +kernel⟩, by decide⟩
theorem ql_1934 : Cond.methodLink RL 147 yX12_best ∈ qwords := q_mem (i := 1934) (by decide +kernel) (by decide +kernel)
theorem ql_1935 : Cond.instanceMethod yX12_best ∈ qwords := q_mem (i := 1935) (by decide +kernel) (by decide +kernel)
theorem ql_1936 : Cond.selects RX12 yX12_best yX12_best ∈ qwords := q_mem (i := 1936) (by decide +kernel) (by decide +kernel)
theorem ql_1937 : Cond.code yX12_best cX12_best 2 (some .int) ∈ qwords := q_mem (i := 1937) (by decide +kernel) (by decide +kernel)
theorem ml_L_147 : qML RL 147 yX12_best cX12_best 2 (some .int) 1 := ⟨ql_1934, ql_1935, ql_1936, ql_139, ql_1937, ⟨by decide +kernel, by decide +kernel, by decide +kernel⟩, by decide⟩
theorem ql_1193 : Cond.methodLink RL 148 yX11_four ∈ qwords := q_mem (i := 1193) (by decide +kernel) (by decide +kernel)
theorem ql_1194 : Cond.instanceMethod yX11_four ∈ qwords := q_mem (i := 1194) (by decide +kernel) (by decide +kernel)
theorem ql_1195 : Cond.selects RX11 yX11_four yX11_four ∈ qwords := q_mem (i := 1195) (by decide +kernel) (by decide +kernel)
theorem ql_1196 : Cond.code yX11_four cX11_four 3 (some .int) ∈ qwords := q_mem (i := 1196) (by decide +kernel) (by decide +kernel)
theorem ml_L_148 : qML RL 148 yX11_four cX11_four 3 (some .int) 0 := ⟨ql_1193, ql_1194, ql_1195, ql_125, ql_1196, ⟨by decide +kernel, by decide +kernel, by decide +kernel⟩, by decide⟩
theorem ql_1959 : Cond.methodLink RL 151 yX12_four_ ∈ qwords := q_mem (i := 1959) (by decide +kernel) (by decide +kernel)
theorem ql_1960 : Cond.instanceMethod yX12_four_ ∈ qwords := q_mem (i := 1960) (by decide +kernel) (by decide +kernel)
theorem ql_1961 : Cond.selects RX12 yX12_four_ yX12_four_ ∈ qwords := q_mem (i := 1961) (by decide +kernel) (by decide +kernel)
theorem ql_1962 : Cond.code yX12_four_ cX12_four_ 3 (some .int) ∈ qwords := q_mem (i := 1962) (by decide +kernel) (by decide +kernel)
theorem ml_L_151 : qML RL 151 yX12_four_ cX12_four_ 3 (some .int) 0 := ⟨ql_1959, ql_1960, ql_1961, ql_139, ql_1962, ⟨by decide +kernel, by decide +kernel, by decide +kernel⟩, by decide⟩
theorem ql_1197 : Cond.methodLink RL 152 yX11_at ∈ qwords := q_mem (i := 1197) (by decide +kernel) (by decide +kernel)
theorem ql_1198 : Cond.instanceMethod yX11_at ∈ qwords := q_mem (i := 1198) (by decide +kernel) (by decide +kernel)
theorem ql_1199 : Cond.selects RX11 yX11_at yX11_at ∈ qwords := q_mem (i := 1199) (by decide +kernel) (by decide +kernel)
theorem ql_1200 : Cond.code yX11_at cX11_at 4 (some .int) ∈ qwords := q_mem (i := 1200) (by decide +kernel) (by decide +kernel)
theorem ml_L_152 : qML RL 152 yX11_at cX11_at 4 (some .int) 2 := ⟨ql_1197, ql_1198, ql_1199, ql_125, ql_1200, ⟨by decide +kernel, by decide +kernel, by decide +kernel⟩, by decide⟩
theorem ql_1963 : Cond.methodLink RL 155 yX12_at ∈ qwords := q_mem (i := 1963) (by decide +kernel) (by decide +kernel)
theorem ql_1964 : Cond.instanceMethod yX12_at ∈ qwords := q_mem (i := 1964) (by decide +kernel) (by decide +kernel)
theorem ql_1965 : Cond.selects RX12 yX12_at yX12_at ∈ qwords := q_mem (i := 1965) (by decide +kernel) (by decide +kernel)
theorem ql_1966 : Cond.code yX12_at cX12_at 3 (some .int) ∈ qwords := q_mem (i := 1966) (by decide +kernel) (by decide +kernel)
theorem ml_L_155 : qML RL 155 yX12_at cX12_at 3 (some .int) 2 := ⟨ql_1963, ql_1964, ql_1965, ql_139, ql_1966, ⟨by decide +kernel, by decide +kernel, by decide +kernel⟩, by decide⟩
theorem ql_1205 : Cond.methodLink RL 156 yX11_lies ∈ qwords := q_mem (i := 1205) (by decide +kernel) (by decide +kernel)
theorem ql_1206 : Cond.instanceMethod yX11_lies ∈ qwords := q_mem (i := 1206) (by decide +kernel) (by decide +kernel)
theorem ql_1207 : Cond.selects RX11 yX11_lies yX11_lies ∈ qwords := q_mem (i := 1207) (by decide +kernel) (by decide +kernel)
theorem ql_1208 : Cond.code yX11_lies cX11_lies 7 (some .int) ∈ qwords := q_mem (i := 1208) (by decide +kernel) (by decide +kernel)
theorem ml_L_156 : qML RL 156 yX11_lies cX11_lies 7 (some .int) 2 := ⟨ql_1205, ql_1206, ql_1207, ql_125, ql_1208, ⟨by decide +kernel, by decide +kernel, by decide +kernel⟩, by decide⟩
theorem ql_1975 : Cond.methodLink RL 159 yX12_lies ∈ qwords := q_mem (i := 1975) (by decide +kernel) (by decide +kernel)
theorem ql_1976 : Cond.instanceMethod yX12_lies ∈ qwords := q_mem (i := 1976) (by decide +kernel) (by decide +kernel)
theorem ql_1977 : Cond.selects RX12 yX12_lies yX12_lies ∈ qwords := q_mem (i := 1977) (by decide +kernel) (by decide +kernel)
theorem ql_1978 : Cond.code yX12_lies cX12_lies 5 (some .int) ∈ qwords := q_mem (i := 1978) (by decide +kernel) (by decide +kernel)
theorem ml_L_159 : qML RL 159 yX12_lies cX12_lies 5 (some .int) 2 := ⟨ql_1975, ql_1976, ql_1977, ql_139, ql_1978, ⟨by decide +kernel, by decide +kernel, by decide +kernel⟩, by decide⟩
theorem ql_1210 : Cond.methodLink RL 160 yX11_free ∈ qwords := q_mem (i := 1210) (by decide +kernel) (by decide +kernel)
theorem ql_1211 : Cond.instanceMethod yX11_free ∈ qwords := q_mem (i := 1211) (by decide +kernel) (by decide +kernel)
theorem ql_1212 : Cond.selects RX11 yX11_free yX11_free ∈ qwords := q_mem (i := 1212) (by decide +kernel) (by decide +kernel)
theorem ql_1213 : Cond.code yX11_free cX11_free 9 (some .int) ∈ qwords := q_mem (i := 1213) (by decide +kernel) (by decide +kernel)
theorem ml_L_160 : qML RL 160 yX11_free cX11_free 9 (some .int) 2 := ⟨ql_1210, ql_1211, ql_1212, ql_125, ql_1213, ⟨by decide +kernel, by decide +kernel, by decide +kernel⟩, by decide⟩
theorem ql_1983 : Cond.methodLink RL 163 yX12_free ∈ qwords := q_mem (i := 1983) (by decide +kernel) (by decide +kernel)
theorem ql_1984 : Cond.instanceMethod yX12_free ∈ qwords := q_mem (i := 1984) (by decide +kernel) (by decide +kernel)
theorem ql_1985 : Cond.selects RX12 yX12_free yX12_free ∈ qwords := q_mem (i := 1985) (by decide +kernel) (by decide +kernel)
theorem ql_1986 : Cond.code yX12_free cX12_free 7 (some .int) ∈ qwords := q_mem (i := 1986) (by decide +kernel) (by decide +kernel)
theorem ml_L_163 : qML RL 163 yX12_free cX12_free 7 (some .int) 2 := ⟨ql_1983, ql_1984, ql_1985, ql_139, ql_1986, ⟨by decide +kernel, by decide +kernel, by decide +kernel⟩, by decide⟩
theorem ql_1214 : Cond.methodLink RL 164 yX11_works ∈ qwords := q_mem (i := 1214) (by decide +kernel) (by decide +kernel)
theorem ql_1215 : Cond.instanceMethod yX11_works ∈ qwords := q_mem (i := 1215) (by decide +kernel) (by decide +kernel)
theorem ql_1216 : Cond.selects RX11 yX11_works yX11_works ∈ qwords := q_mem (i := 1216) (by decide +kernel) (by decide +kernel)
theorem ql_1217 : Cond.code yX11_works cX11_works 4 (some .int) ∈ qwords := q_mem (i := 1217) (by decide +kernel) (by decide +kernel)
theorem ml_L_164 : qML RL 164 yX11_works cX11_works 4 (some .int) 2 := ⟨ql_1214, ql_1215, ql_1216, ql_125, ql_1217, ⟨by decide +kernel, by decide +kernel, by decide +kernel⟩, by decide⟩
theorem ql_1987 : Cond.methodLink RL 167 yX12_works ∈ qwords := q_mem (i := 1987) (by decide +kernel) (by decide +kernel)
theorem ql_1988 : Cond.instanceMethod yX12_works ∈ qwords := q_mem (i := 1988) (by decide +kernel) (by decide +kernel)
theorem ql_1989 : Cond.selects RX12 yX12_works yX12_works ∈ qwords := q_mem (i := 1989) (by decide +kernel) (by decide +kernel)
theorem ql_1990 : Cond.code yX12_works cX12_works 3 (some .int) ∈ qwords := q_mem (i := 1990) (by decide +kernel) (by decide +kernel)
theorem ml_L_167 : qML RL 167 yX12_works cX12_works 3 (some .int) 2 := ⟨ql_1987, ql_1988, ql_1989, ql_139, ql_1990, ⟨by decide +kernel, by decide +kernel, by decide +kernel⟩, by decide⟩
theorem ql_1219 : Cond.methodLink RL 168 yX11_hours ∈ qwords := q_mem (i := 1219) (by decide +kernel) (by decide +kernel)
theorem ql_1220 : Cond.instanceMethod yX11_hours ∈ qwords := q_mem (i := 1220) (by decide +kernel) (by decide +kernel)
theorem ql_1221 : Cond.selects RX11 yX11_hours yX11_hours ∈ qwords := q_mem (i := 1221) (by decide +kernel) (by decide +kernel)
theorem ql_1222 : Cond.code yX11_hours cX11_hours 4 (some .int) ∈ qwords := q_mem (i := 1222) (by decide +kernel) (by decide +kernel)
theorem ml_L_168 : qML RL 168 yX11_hours cX11_hours 4 (some .int) 1 := ⟨ql_1219, ql_1220, ql_1221, ql_125, ql_1222, ⟨by decide +kernel, by decide +kernel, by decide +kernel⟩, by decide⟩
theorem ql_1999 : Cond.methodLink RL 171 yX12_hours ∈ qwords := q_mem (i := 1999) (by decide +kernel) (by decide +kernel)
theorem ql_2000 : Cond.instanceMethod yX12_hours ∈ qwords := q_mem (i := 2000) (by decide +kernel) (by decide +kernel)
theorem ql_2001 : Cond.selects RX12 yX12_hours yX12_hours ∈ qwords := q_mem (i := 2001) (by decide +kernel) (by decide +kernel)
theorem ql_2002 : Cond.code yX12_hours cX12_hours 4 (some .int) ∈ qwords := q_mem (i := 2002) (by decide +kernel) (by decide +kernel)
theorem ml_L_171 : qML RL 171 yX12_hours cX12_hours 4 (some .int) 1 := ⟨ql_1999, ql_2000, ql_2001, ql_139, ql_2002, ⟨by decide +kernel, by decide +kernel, by decide +kernel⟩, by decide⟩
theorem ql_1223 : Cond.methodLink RL 172 yX11_left ∈ qwords := q_mem (i := 1223) (by decide +kernel) (by decide +kernel)
theorem ql_1224 : Cond.instanceMethod yX11_left ∈ qwords := q_mem (i := 1224) (by decide +kernel) (by decide +kernel)
theorem ql_1225 : Cond.selects RX11 yX11_left yX11_left ∈ qwords := q_mem (i := 1225) (by decide +kernel) (by decide +kernel)
theorem ql_1226 : Cond.code yX11_left cX11_left 3 (some .int) ∈ qwords := q_mem (i := 1226) (by decide +kernel) (by decide +kernel)
theorem ml_L_172 : qML RL 172 yX11_left cX11_left 3 (some .int) 2 := ⟨ql_1223, ql_1224, ql_1225, ql_125, ql_1226, ⟨by decide +kernel, by decide +kernel, by decide +kernel⟩, by decide⟩
theorem ql_2007 : Cond.methodLink RL 175 yX12_left ∈ qwords := q_mem (i := 2007) (by decide +kernel) (by decide +kernel)
theorem ql_2008 : Cond.instanceMethod yX12_left ∈ qwords := q_mem (i := 2008) (by decide +kernel) (by decide +kernel)
theorem ql_2009 : Cond.selects RX12 yX12_left yX12_left ∈ qwords := q_mem (i := 2009) (by decide +kernel) (by decide +kernel)
theorem ql_2010 : Cond.code yX12_left cX12_left 3 (some .int) ∈ qwords := q_mem (i := 2010) (by decide +kernel) (by decide +kernel)
theorem ml_L_175 : qML RL 175 yX12_left cX12_left 3 (some .int) 2 := ⟨ql_2007, ql_2008, ql_2009, ql_139, ql_2010, ⟨by decide +kernel, by decide +kernel, by decide +kernel⟩, by decide⟩
theorem ql_1232 : Cond.methodLink RL 176 yX11_shift ∈ qwords := q_mem (i := 1232) (by decide +kernel) (by decide +kernel)
theorem ql_1233 : Cond.instanceMethod yX11_shift ∈ qwords := q_mem (i := 1233) (by decide +kernel) (by decide +kernel)
theorem ql_1234 : Cond.selects RX11 yX11_shift yX11_shift ∈ qwords := q_mem (i := 1234) (by decide +kernel) (by decide +kernel)
theorem ql_1235 : Cond.code yX11_shift cX11_shift 7 (some .int) ∈ qwords := q_mem (i := 1235) (by decide +kernel) (by decide +kernel)
theorem ml_L_176 : qML RL 176 yX11_shift cX11_shift 7 (some .int) 3 := ⟨ql_1232, ql_1233, ql_1234, ql_125, ql_1235, ⟨by decide +kernel, by decide +kernel, by decide +kernel⟩, by decide⟩
theorem ql_2015 : Cond.methodLink RL 179 yX12_shift ∈ qwords := q_mem (i := 2015) (by decide +kernel) (by decide +kernel)
theorem ql_2016 : Cond.instanceMethod yX12_shift ∈ qwords := q_mem (i := 2016) (by decide +kernel) (by decide +kernel)
theorem ql_2017 : Cond.selects RX12 yX12_shift yX12_shift ∈ qwords := q_mem (i := 2017) (by decide +kernel) (by decide +kernel)
theorem ql_2018 : Cond.code yX12_shift cX12_shift 5 (some .int) ∈ qwords := q_mem (i := 2018) (by decide +kernel) (by decide +kernel)
theorem ml_L_179 : qML RL 179 yX12_shift cX12_shift 5 (some .int) 3 := ⟨ql_2015, ql_2016, ql_2017, ql_139, ql_2018, ⟨by decide +kernel, by decide +kernel, by decide +kernel⟩, by decide⟩
theorem ql_1244 : Cond.methodLink RL 180 yX11_busiest ∈ qwords := q_mem (i := 1244) (by decide +kernel) (by decide +kernel)
theorem ql_1245 : Cond.instanceMethod yX11_busiest ∈ qwords := q_mem (i := 1245) (by decide +kernel) (by decide +kernel)
theorem ql_1246 : Cond.selects RX11 yX11_busiest yX11_busiest ∈ qwords := q_mem (i := 1246) (by decide +kernel) (by decide +kernel)
theorem ql_1247 : Cond.code yX11_busiest cX11_busiest 6 (some .int) ∈ qwords := q_mem (i := 1247) (by decide +kernel) (by decide +kernel)
theorem ml_L_180 : qML RL 180 yX11_busiest cX11_busiest 6 (some .int) 1 := ⟨ql_1244, ql_1245, ql_1246, ql_125, ql_1247, ⟨by decide +kernel, by decide +kernel, by decide +kernel⟩, by decide⟩
theorem ql_2031 : Cond.methodLink RL 183 yX12_busiest ∈ qwords := q_mem (i := 2031) (by decide +kernel) (by decide +kernel)
theorem ql_2032 : Cond.instanceMethod yX12_busiest ∈ qwords := q_mem (i := 2032) (by decide +kernel) (by decide +kernel)
theorem ql_2033 : Cond.selects RX12 yX12_busiest yX12_busiest ∈ qwords := q_mem (i := 2033) (by decide +kernel) (by decide +kernel)
theorem ql_2034 : Cond.code yX12_busiest cX12_busiest 4 (some .int) ∈ qwords := q_mem (i := 2034) (by decide +kernel) (by decide +kernel)
theorem ml_L_183 : qML RL 183 yX12_busiest cX12_busiest 4 (some .int) 1 := ⟨ql_2031, ql_2032, ql_2033, ql_139, ql_2034, ⟨by decide +kernel, by decide +kernel, by decide +kernel⟩, by decide⟩
theorem ql_1248 : Cond.methodLink RL 184 yX11_without ∈ qwords := q_mem (i := 1248) (by decide +kernel) (by decide +kernel)
theorem ql_1249 : Cond.instanceMethod yX11_without ∈ qwords := q_mem (i := 1249) (by decide +kernel) (by decide +kernel)
theorem ql_1250 : Cond.selects RX11 yX11_without yX11_without ∈ qwords := q_mem (i := 1250) (by decide +kernel) (by decide +kernel)
theorem ql_1251 : Cond.code yX11_without cX11_without 4 (some .int) ∈ qwords := q_mem (i := 1251) (by decide +kernel) (by decide +kernel)
theorem ml_L_184 : qML RL 184 yX11_without cX11_without 4 (some .int) 1 := ⟨ql_1248, ql_1249, ql_1250, ql_125, ql_1251, ⟨by decide +kernel, by decide +kernel, by decide +kernel⟩, by decide⟩
theorem ql_2003 : Cond.methodLink RL 187 yX12_without ∈ qwords := q_mem (i := 2003) (by decide +kernel) (by decide +kernel)
theorem ql_2004 : Cond.instanceMethod yX12_without ∈ qwords := q_mem (i := 2004) (by decide +kernel) (by decide +kernel)
theorem ql_2005 : Cond.selects RX12 yX12_without yX12_without ∈ qwords := q_mem (i := 2005) (by decide +kernel) (by decide +kernel)
theorem ql_2006 : Cond.code yX12_without cX12_without 4 (some .int) ∈ qwords := q_mem (i := 2006) (by decide +kernel) (by decide +kernel)
theorem ml_L_187 : qML RL 187 yX12_without cX12_without 4 (some .int) 1 := ⟨ql_2003, ql_2004, ql_2005, ql_139, ql_2006, ⟨by decide +kernel, by decide +kernel, by decide +kernel⟩, by decide⟩
theorem ql_1252 : Cond.methodLink RL 188 yX11_used ∈ qwords := q_mem (i := 1252) (by decide +kernel) (by decide +kernel)
theorem ql_1253 : Cond.instanceMethod yX11_used ∈ qwords := q_mem (i := 1253) (by decide +kernel) (by decide +kernel)
theorem ql_1254 : Cond.selects RX11 yX11_used yX11_used ∈ qwords := q_mem (i := 1254) (by decide +kernel) (by decide +kernel)
theorem ql_1255 : Cond.code yX11_used cX11_used 4 (some .int) ∈ qwords := q_mem (i := 1255) (by decide +kernel) (by decide +kernel)
theorem ml_L_188 : qML RL 188 yX11_used cX11_used 4 (some .int) 1 := ⟨ql_1252, ql_1253, ql_1254, ql_125, ql_1255, ⟨by decide +kernel, by decide +kernel, by decide +kernel⟩, by decide⟩
theorem ql_2035 : Cond.methodLink RL 191 yX12_used ∈ qwords := q_mem (i := 2035) (by decide +kernel) (by decide +kernel)
theorem ql_2036 : Cond.instanceMethod yX12_used ∈ qwords := q_mem (i := 2036) (by decide +kernel) (by decide +kernel)
theorem ql_2037 : Cond.selects RX12 yX12_used yX12_used ∈ qwords := q_mem (i := 2037) (by decide +kernel) (by decide +kernel)
theorem ql_2038 : Cond.code yX12_used cX12_used 5 (some .int) ∈ qwords := q_mem (i := 2038) (by decide +kernel) (by decide +kernel)
theorem ml_L_191 : qML RL 191 yX12_used cX12_used 5 (some .int) 1 := ⟨ql_2035, ql_2036, ql_2037, ql_139, ql_2038, ⟨by decide +kernel, by decide +kernel, by decide +kernel⟩, by decide⟩
theorem ql_1261 : Cond.methodLink RL 192 yX11_rank ∈ qwords := q_mem (i := 1261) (by decide +kernel) (by decide +kernel)
theorem ql_1262 : Cond.instanceMethod yX11_rank ∈ qwords := q_mem (i := 1262) (by decide +kernel) (by decide +kernel)
theorem ql_1263 : Cond.selects RX11 yX11_rank yX11_rank ∈ qwords := q_mem (i := 1263) (by decide +kernel) (by decide +kernel)
theorem ql_1264 : Cond.code yX11_rank cX11_rank 6 (some .int) ∈ qwords := q_mem (i := 1264) (by decide +kernel) (by decide +kernel)
theorem ml_L_192 : qML RL 192 yX11_rank cX11_rank 6 (some .int) 2 := ⟨ql_1261, ql_1262, ql_1263, ql_125, ql_1264, ⟨by decide +kernel, by decide +kernel, by decide +kernel⟩, by decide⟩
theorem ql_2039 : Cond.methodLink RL 195 yX12_rank ∈ qwords := q_mem (i := 2039) (by decide +kernel) (by decide +kernel)
theorem ql_2040 : Cond.instanceMethod yX12_rank ∈ qwords := q_mem (i := 2040) (by decide +kernel) (by decide +kernel)
theorem ql_2041 : Cond.selects RX12 yX12_rank yX12_rank ∈ qwords := q_mem (i := 2041) (by decide +kernel) (by decide +kernel)
theorem ql_2042 : Cond.code yX12_rank cX12_rank 7 (some .int) ∈ qwords := q_mem (i := 2042) (by decide +kernel) (by decide +kernel)
theorem ml_L_195 : qML RL 195 yX12_rank cX12_rank 7 (some .int) 2 := ⟨ql_2039, ql_2040, ql_2041, ql_139, ql_2042, ⟨by decide +kernel, by decide +kernel, by decide +kernel⟩, by decide⟩
theorem ql_1269 : Cond.methodLink RL 196 yX11_leaver ∈ qwords := q_mem (i := 1269) (by decide +kernel) (by decide +kernel)
theorem ql_1270 : Cond.instanceMethod yX11_leaver ∈ qwords := q_mem (i := 1270) (by decide +kernel) (by decide +kernel)
theorem ql_1271 : Cond.selects RX11 yX11_leaver yX11_leaver ∈ qwords := q_mem (i := 1271) (by decide +kernel) (by decide +kernel)
theorem ql_1272 : Cond.code yX11_leaver cX11_leaver 3 (some .int) ∈ qwords := q_mem (i := 1272) (by decide +kernel) (by decide +kernel)
theorem ml_L_196 : qML RL 196 yX11_leaver cX11_leaver 3 (some .int) 1 := ⟨ql_1269, ql_1270, ql_1271, ql_125, ql_1272, ⟨by decide +kernel, by decide +kernel, by decide +kernel⟩, by decide⟩
theorem ql_2048 : Cond.methodLink RL 199 yX12_leaver ∈ qwords := q_mem (i := 2048) (by decide +kernel) (by decide +kernel)
theorem ql_2049 : Cond.instanceMethod yX12_leaver ∈ qwords := q_mem (i := 2049) (by decide +kernel) (by decide +kernel)
theorem ql_2050 : Cond.selects RX12 yX12_leaver yX12_leaver ∈ qwords := q_mem (i := 2050) (by decide +kernel) (by decide +kernel)
theorem ql_2051 : Cond.code yX12_leaver cX12_leaver 4 (some .int) ∈ qwords := q_mem (i := 2051) (by decide +kernel) (by decide +kernel)
theorem ml_L_199 : qML RL 199 yX12_leaver cX12_leaver 4 (some .int) 1 := ⟨ql_2048, ql_2049, ql_2050, ql_139, ql_2051, ⟨by decide +kernel, by decide +kernel, by decide +kernel⟩, by decide⟩
theorem ql_1277 : Cond.methodLink RL 200 yX11_meet ∈ qwords := q_mem (i := 1277) (by decide +kernel) (by decide +kernel)
theorem ql_1278 : Cond.instanceMethod yX11_meet ∈ qwords := q_mem (i := 1278) (by decide +kernel) (by decide +kernel)
theorem ql_1279 : Cond.selects RX11 yX11_meet yX11_meet ∈ qwords := q_mem (i := 1279) (by decide +kernel) (by decide +kernel)
theorem ql_1280 : Cond.code yX11_meet cX11_meet 3 (some .int) ∈ qwords := q_mem (i := 1280) (by decide +kernel) (by decide +kernel)
theorem ml_L_200 : qML RL 200 yX11_meet cX11_meet 3 (some .int) 2 := ⟨ql_1277, ql_1278, ql_1279, ql_125, ql_1280, ⟨by decide +kernel, by decide +kernel, by decide +kernel⟩, by decide⟩
theorem ql_2056 : Cond.methodLink RL 203 yX12_meet ∈ qwords := q_mem (i := 2056) (by decide +kernel) (by decide +kernel)
theorem ql_2057 : Cond.instanceMethod yX12_meet ∈ qwords := q_mem (i := 2057) (by decide +kernel) (by decide +kernel)
theorem ql_2058 : Cond.selects RX12 yX12_meet yX12_meet ∈ qwords := q_mem (i := 2058) (by decide +kernel) (by decide +kernel)
theorem ql_2059 : Cond.code yX12_meet cX12_meet 5 (some .int) ∈ qwords := q_mem (i := 2059) (by decide +kernel) (by decide +kernel)
theorem ml_L_203 : qML RL 203 yX12_meet cX12_meet 5 (some .int) 2 := ⟨ql_2056, ql_2057, ql_2058, ql_139, ql_2059, ⟨by decide +kernel, by decide +kernel, by decide +kernel⟩, by decide⟩
theorem ql_1281 : Cond.methodLink RL 204 yX11_write ∈ qwords := q_mem (i := 1281) (by decide +kernel) (by decide +kernel)
theorem ql_1282 : Cond.instanceMethod yX11_write ∈ qwords := q_mem (i := 1282) (by decide +kernel) (by decide +kernel)
theorem ql_1283 : Cond.selects RX11 yX11_write yX11_write ∈ qwords := q_mem (i := 1283) (by decide +kernel) (by decide +kernel)
theorem ql_1284 : Cond.code yX11_write cX11_write 3 (some .int) ∈ qwords := q_mem (i := 1284) (by decide +kernel) (by decide +kernel)
theorem ml_L_204 : qML RL 204 yX11_write cX11_write 3 (some .int) 0 := ⟨ql_1281, ql_1282, ql_1283, ql_125, ql_1284, ⟨by decide +kernel, by decide +kernel, by decide +kernel⟩, by decide⟩
theorem ql_2060 : Cond.methodLink RL 207 yX12_write ∈ qwords := q_mem (i := 2060) (by decide +kernel) (by decide +kernel)
theorem ql_2061 : Cond.instanceMethod yX12_write ∈ qwords := q_mem (i := 2061) (by decide +kernel) (by decide +kernel)
theorem ql_2062 : Cond.selects RX12 yX12_write yX12_write ∈ qwords := q_mem (i := 2062) (by decide +kernel) (by decide +kernel)
theorem ql_2063 : Cond.code yX12_write cX12_write 2 (some .int) ∈ qwords := q_mem (i := 2063) (by decide +kernel) (by decide +kernel)
theorem ml_L_207 : qML RL 207 yX12_write cX12_write 2 (some .int) 0 := ⟨ql_2060, ql_2061, ql_2062, ql_139, ql_2063, ⟨by decide +kernel, by decide +kernel, by decide +kernel⟩, by decide⟩
theorem ql_1294 : Cond.methodLink RL 208 yX11_octet ∈ qwords := q_mem (i := 1294) (by decide +kernel) (by decide +kernel)
theorem ql_1295 : Cond.instanceMethod yX11_octet ∈ qwords := q_mem (i := 1295) (by decide +kernel) (by decide +kernel)
theorem ql_1296 : Cond.selects RX11 yX11_octet yX11_octet ∈ qwords := q_mem (i := 1296) (by decide +kernel) (by decide +kernel)
theorem ql_1297 : Cond.code yX11_octet cX11_octet 2 (some .int) ∈ qwords := q_mem (i := 1297) (by decide +kernel) (by decide +kernel)
theorem ml_L_208 : qML RL 208 yX11_octet cX11_octet 2 (some .int) 1 := ⟨ql_1294, ql_1295, ql_1296, ql_125, ql_1297, ⟨by decide +kernel, by decide +kernel, by decide +kernel⟩, by decide⟩
theorem ql_2077 : Cond.methodLink RL 211 yX12_octet ∈ qwords := q_mem (i := 2077) (by decide +kernel) (by decide +kernel)
theorem ql_2078 : Cond.instanceMethod yX12_octet ∈ qwords := q_mem (i := 2078) (by decide +kernel) (by decide +kernel)
theorem ql_2079 : Cond.selects RX12 yX12_octet yX12_octet ∈ qwords := q_mem (i := 2079) (by decide +kernel) (by decide +kernel)
theorem ql_2080 : Cond.code yX12_octet cX12_octet 2 (some .int) ∈ qwords := q_mem (i := 2080) (by decide +kernel) (by decide +kernel)
theorem ml_L_211 : qML RL 211 yX12_octet cX12_octet 2 (some .int) 1 := ⟨ql_2077, ql_2078, ql_2079, ql_139, ql_2080, ⟨by decide +kernel, by decide +kernel, by decide +kernel⟩, by decide⟩
theorem ql_1298 : Cond.methodLink RL 212 yX11_differs ∈ qwords := q_mem (i := 1298) (by decide +kernel) (by decide +kernel)
theorem ql_1299 : Cond.instanceMethod yX11_differs ∈ qwords := q_mem (i := 1299) (by decide +kernel) (by decide +kernel)
theorem ql_1300 : Cond.selects RX11 yX11_differs yX11_differs ∈ qwords := q_mem (i := 1300) (by decide +kernel) (by decide +kernel)
theorem ql_1301 : Cond.code yX11_differs cX11_differs 4 (some .int) ∈ qwords := q_mem (i := 1301) (by decide +kernel) (by decide +kernel)
theorem ml_L_212 : qML RL 212 yX11_differs cX11_differs 4 (some .int) 1 := ⟨ql_1298, ql_1299, ql_1300, ql_125, ql_1301, ⟨by decide +kernel, by decide +kernel, by decide +kernel⟩, by decide⟩
theorem ql_2085 : Cond.methodLink RL 215 yX12_differs ∈ qwords := q_mem (i := 2085) (by decide +kernel) (by decide +kernel)
theorem ql_2086 : Cond.instanceMethod yX12_differs ∈ qwords := q_mem (i := 2086) (by decide +kernel) (by decide +kernel)
theorem ql_2087 : Cond.selects RX12 yX12_differs yX12_differs ∈ qwords := q_mem (i := 2087) (by decide +kernel) (by decide +kernel)
theorem ql_2088 : Cond.code yX12_differs cX12_differs 4 (some .int) ∈ qwords := q_mem (i := 2088) (by decide +kernel) (by decide +kernel)
theorem ml_L_215 : qML RL 215 yX12_differs cX12_differs 4 (some .int) 1 := ⟨ql_2085, ql_2086, ql_2087, ql_139, ql_2088, ⟨by decide +kernel, by decide +kernel, by decide +kernel⟩, by decide⟩
theorem ql_1310 : Cond.methodLink RL 216 yX11_undo ∈ qwords := q_mem (i := 1310) (by decide +kernel) (by decide +kernel)
theorem ql_1311 : Cond.instanceMethod yX11_undo ∈ qwords := q_mem (i := 1311) (by decide +kernel) (by decide +kernel)
theorem ql_1312 : Cond.selects RX11 yX11_undo yX11_undo ∈ qwords := q_mem (i := 1312) (by decide +kernel) (by decide +kernel)
theorem ql_1313 : Cond.code yX11_undo cX11_undo 1 (some .int) ∈ qwords := q_mem (i := 1313) (by decide +kernel) (by decide +kernel)
theorem ml_L_216 : qML RL 216 yX11_undo cX11_undo 1 (some .int) 0 := ⟨ql_1310, ql_1311, ql_1312, ql_125, ql_1313, ⟨by decide +kernel, by decide +kernel, by decide +kernel⟩, by decide⟩
theorem ql_2081 : Cond.methodLink RL 219 yX12_undo ∈ qwords := q_mem (i := 2081) (by decide +kernel) (by decide +kernel)
theorem ql_2082 : Cond.instanceMethod yX12_undo ∈ qwords := q_mem (i := 2082) (by decide +kernel) (by decide +kernel)
theorem ql_2083 : Cond.selects RX12 yX12_undo yX12_undo ∈ qwords := q_mem (i := 2083) (by decide +kernel) (by decide +kernel)
theorem ql_2084 : Cond.code yX12_undo cX12_undo 1 (some .int) ∈ qwords := q_mem (i := 2084) (by decide +kernel) (by decide +kernel)
theorem ml_L_219 : qML RL 219 yX12_undo cX12_undo 1 (some .int) 0 := ⟨ql_2081, ql_2082, ql_2083, ql_139, ql_2084, ⟨by decide +kernel, by decide +kernel, by decide +kernel⟩, by decide⟩
theorem ql_1318 : Cond.methodLink RL 220 yX11_mark ∈ qwords := q_mem (i := 1318) (by decide +kernel) (by decide +kernel)
theorem ql_1319 : Cond.instanceMethod yX11_mark ∈ qwords := q_mem (i := 1319) (by decide +kernel) (by decide +kernel)
theorem ql_1320 : Cond.selects RX11 yX11_mark yX11_mark ∈ qwords := q_mem (i := 1320) (by decide +kernel) (by decide +kernel)
theorem ql_1321 : Cond.code yX11_mark cX11_mark 2 (some .int) ∈ qwords := q_mem (i := 1321) (by decide +kernel) (by decide +kernel)
theorem ml_L_220 : qML RL 220 yX11_mark cX11_mark 2 (some .int) 1 := ⟨ql_1318, ql_1319, ql_1320, ql_125, ql_1321, ⟨by decide +kernel, by decide +kernel, by decide +kernel⟩, by decide⟩
theorem ql_2096 : Cond.methodLink RL 223 yX12_mark ∈ qwords := q_mem (i := 2096) (by decide +kernel) (by decide +kernel)
theorem ql_2097 : Cond.instanceMethod yX12_mark ∈ qwords := q_mem (i := 2097) (by decide +kernel) (by decide +kernel)
theorem ql_2098 : Cond.selects RX12 yX12_mark yX12_mark ∈ qwords := q_mem (i := 2098) (by decide +kernel) (by decide +kernel)
theorem ql_2099 : Cond.code yX12_mark cX12_mark 2 (some .int) ∈ qwords := q_mem (i := 2099) (by decide +kernel) (by decide +kernel)
theorem ml_L_223 : qML RL 223 yX12_mark cX12_mark 2 (some .int) 1 := ⟨ql_2096, ql_2097, ql_2098, ql_139, ql_2099, ⟨by decide +kernel, by decide +kernel, by decide +kernel⟩, by decide⟩
theorem ql_1322 : Cond.methodLink RL 224 yX11_back ∈ qwords := q_mem (i := 1322) (by decide +kernel) (by decide +kernel)
theorem ql_1323 : Cond.instanceMethod yX11_back ∈ qwords := q_mem (i := 1323) (by decide +kernel) (by decide +kernel)
theorem ql_1324 : Cond.selects RX11 yX11_back yX11_back ∈ qwords := q_mem (i := 1324) (by decide +kernel) (by decide +kernel)
theorem ql_1325 : Cond.code yX11_back cX11_back 2 (some .int) ∈ qwords := q_mem (i := 1325) (by decide +kernel) (by decide +kernel)
theorem ml_L_224 : qML RL 224 yX11_back cX11_back 2 (some .int) 1 := ⟨ql_1322, ql_1323, ql_1324, ql_125, ql_1325, ⟨by decide +kernel, by decide +kernel, by decide +kernel⟩, by decide⟩
theorem ql_2100 : Cond.methodLink RL 227 yX12_back ∈ qwords := q_mem (i := 2100) (by decide +kernel) (by decide +kernel)
theorem ql_2101 : Cond.instanceMethod yX12_back ∈ qwords := q_mem (i := 2101) (by decide +kernel) (by decide +kernel)
theorem ql_2102 : Cond.selects RX12 yX12_back yX12_back ∈ qwords := q_mem (i := 2102) (by decide +kernel) (by decide +kernel)
theorem ql_2103 : Cond.code yX12_back cX12_back 2 (some .int) ∈ qwords := q_mem (i := 2103) (by decide +kernel) (by decide +kernel)
theorem ml_L_227 : qML RL 227 yX12_back cX12_back 2 (some .int) 1 := ⟨ql_2100, ql_2101, ql_2102, ql_139, ql_2103, ⟨by decide +kernel, by decide +kernel, by decide +kernel⟩, by decide⟩
