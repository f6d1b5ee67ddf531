/-! The law's own words; the links of its calls. -/
def R_law : String := "LastLosesLaw"
def lw_P (b : Addr) (xs : List Int32) (args : Array Value) (s : State) : Prop := args = #[.ref b] ∧ s.IntsAt b xs ∧ xs.length ≤ 3072 ∧ (Jvm.Cond.and given_1 narrow_1).before args s = true
def lw_Q (_ : Array Value) (s : State) (o : Outcome) (t : State) : Prop := o = .returned (some (.int 1)) ∧ Framed s o t [] 600000 7302250
def lw_Z (below : List Frame) (a : Array Value) (s : State) : State → Prop := fun t => ∃ o, t.status = .running ∧ Ended t below o ∧ lw_Q a s o t
/-- the law's own end, with 1 on the stack, nothing written that was there before, its room as the claim has it -/
theorem lw_ret {p : Program} {l : Launch} {e : Env} {s : State} {m : MethodId} {below : List Frame} {meth : Method} {c : Code} {b : Nat} (hx : p.tables.exec = Jvm.exec) (hb : c.code = code) (hr : meth.sig.returnType = ret) (hlocks : meth.locks = false) {pc : Nat} {H : Heap} {ls : Array Slot} (hdg : decode code pc = .ok (.ireturn, 1)) : W p l e room_1 s m #[Value.ref b] below meth c H [] 600000 7302250 (lw_Z below #[Value.ref b] s) (F0 m pc ls [.int 1]) := by
  intro T hT X
  obtain ⟨fs, hret, hrun, hended, hW, hframe⟩ := X.leave (v := some (.int 1)) (hlocks := hlocks) (fun h => by rw [hr] at h; cases h)
  have hmeth' : T.vm.method? m = some meth := X.method'
  refine ⟨T.setFrames fs, ?_, .returned (some (.int 1)), hrun, hended, rfl, ⟨_, rfl⟩, hW, hframe⟩
  jvm_step X.here [X.here.top, hx, hb, hdg, hmeth', hr, ret, narrow_b1]
  (try refine ⟨rfl, ?_⟩); (try refine ⟨rfl, ?_⟩)
  first | (intro acts; rw [hret _ acts rfl rfl rfl]) | rw [hret _ _ rfl rfl rfl]
  exact Steps.refl _
/-- what holds at the law's entry: the machine, the code, the tables' words (any of lw_tbl by 'hts w (by decide +kernel)'), the script of L ints xs at the cell b, what the Statement gives of the start (any of its parts by flat_of_before) -/
def lw_At (p : Program) (s : State) (m : MethodId) (meth : Method) (c : Code) (b L : Nat) (xs : Nat → Int32) : Prop :=
  p.tables.exec = Jvm.exec ∧ c.code = code ∧ meth.sig.returnType = ret ∧ c.maxLocals = 4 ∧ s.vm.findClass R_law = some m.cls ∧ (∀ w ∈ lw_tbl, w.before #[Value.ref b] s = true) ∧ va_X b L xs s s.heap ∧ b < s.heap.size ∧ meth.locks = false ∧ (Jvm.Cond.and given_1 narrow_1).before #[Value.ref b] s = true
set_option maxRecDepth 100000 in
theorem jlw_13 : jLkV RL 13 yX11_feed cX11_feed 6 1 5 := ⟨(jTB_at 211 rfl rfl), (jTB_at 212 rfl rfl), (jTB_at 213 rfl rfl), (jTB_at 112 rfl rfl), jTB_at 214 rfl rfl, ⟨by decide, by decide, by decide +kernel⟩⟩
set_option maxRecDepth 100000 in
theorem jlw_17 : jLkV RL 17 yX12_feed cX12_feed 8 1 5 := ⟨(jTB_at 1514 rfl rfl), (jTB_at 1515 rfl rfl), (jTB_at 1516 rfl rfl), (jTB_at 115 rfl rfl), jTB_at 1517 rfl rfl, ⟨by decide, by decide, by decide +kernel⟩⟩
set_option maxRecDepth 100000 in
theorem jlw_18 : jLkV RL 18 yX11_end cX11_end 2 1 1 := ⟨(jTB_at 227 rfl rfl), (jTB_at 228 rfl rfl), (jTB_at 229 rfl rfl), (jTB_at 112 rfl rfl), jTB_at 230 rfl rfl, ⟨by decide, by decide, by decide +kernel⟩⟩
set_option maxRecDepth 100000 in
theorem jlw_22 : jLkV RL 22 yX12_end cX12_end 2 1 1 := ⟨(jTB_at 1518 rfl rfl), (jTB_at 1519 rfl rfl), (jTB_at 1520 rfl rfl), (jTB_at 115 rfl rfl), jTB_at 1521 rfl rfl, ⟨by decide, by decide, by decide +kernel⟩⟩
set_option maxRecDepth 100000 in
theorem jlw_23 : jLkV RL 23 yX11_game cX11_game 2 1 0 := ⟨(jTB_at 235 rfl rfl), (jTB_at 236 rfl rfl), (jTB_at 237 rfl rfl), (jTB_at 112 rfl rfl), jTB_at 238 rfl rfl, ⟨by decide, by decide, by decide +kernel⟩⟩
set_option maxRecDepth 100000 in
theorem jlw_27 : jLkV RL 27 yX12_game cX12_game 3 1 0 := ⟨(jTB_at 1525 rfl rfl), (jTB_at 1526 rfl rfl), (jTB_at 1527 rfl rfl), (jTB_at 115 rfl rfl), jTB_at 1528 rfl rfl, ⟨by decide, by decide, by decide +kernel⟩⟩
set_option maxRecDepth 100000 in
theorem jlw_28 : jLkV RL 28 yX11_moves cX11_moves 2 1 1 := ⟨(jTB_at 741 rfl rfl), (jTB_at 742 rfl rfl), (jTB_at 743 rfl rfl), (jTB_at 112 rfl rfl), jTB_at 744 rfl rfl, ⟨by decide, by decide, by decide +kernel⟩⟩
set_option maxRecDepth 100000 in
theorem jlw_31 : jLkV RL 31 yX12_moves cX12_moves 2 1 1 := ⟨(jTB_at 1643 rfl rfl), (jTB_at 1644 rfl rfl), (jTB_at 1645 rfl rfl), (jTB_at 115 rfl rfl), jTB_at 1646 rfl rfl, ⟨by decide, by decide, by decide +kernel⟩⟩
set_option maxRecDepth 100000 in
theorem jlw_32 : jLkV RL 32 yX11_option cX11_option 5 1 3 := ⟨(jTB_at 750 rfl rfl), (jTB_at 751 rfl rfl), (jTB_at 752 rfl rfl), (jTB_at 112 rfl rfl), jTB_at 753 rfl rfl, ⟨by decide, by decide, by decide +kernel⟩⟩
set_option maxRecDepth 100000 in
theorem jlw_36 : jLkV RL 36 yX12_option cX12_option 4 1 3 := ⟨(jTB_at 1652 rfl rfl), (jTB_at 1653 rfl rfl), (jTB_at 1654 rfl rfl), (jTB_at 115 rfl rfl), jTB_at 1655 rfl rfl, ⟨by decide, by decide, by decide +kernel⟩⟩
set_option maxRecDepth 100000 in
theorem jlw_37 : jLkV RL 37 yX11_nimber cX11_nimber 2 1 1 := ⟨(jTB_at 758 rfl rfl), (jTB_at 759 rfl rfl), (jTB_at 760 rfl rfl), (jTB_at 112 rfl rfl), jTB_at 761 rfl rfl, ⟨by decide, by decide, by decide +kernel⟩⟩
set_option maxRecDepth 100000 in
theorem jlw_40 : jLkV RL 40 yX12_nimber cX12_nimber 2 1 1 := ⟨(jTB_at 1656 rfl rfl), (jTB_at 1657 rfl rfl), (jTB_at 1658 rfl rfl), (jTB_at 115 rfl rfl), jTB_at 1659 rfl rfl, ⟨by decide, by decide, by decide +kernel⟩⟩
set_option maxRecDepth 100000 in
theorem jlw_41 : jLkV RL 41 yX11_period cX11_period 2 1 1 := ⟨(jTB_at 766 rfl rfl), (jTB_at 767 rfl rfl), (jTB_at 768 rfl rfl), (jTB_at 112 rfl rfl), jTB_at 769 rfl rfl, ⟨by decide, by decide, by decide +kernel⟩⟩
set_option maxRecDepth 100000 in
theorem jlw_44 : jLkV RL 44 yX12_period cX12_period 4 1 1 := ⟨(jTB_at 1660 rfl rfl), (jTB_at 1661 rfl rfl), (jTB_at 1662 rfl rfl), (jTB_at 115 rfl rfl), jTB_at 1663 rfl rfl, ⟨by decide, by decide, by decide +kernel⟩⟩
set_option maxRecDepth 100000 in
theorem jlw_45 : jLkV RL 45 yX11_odd cX11_odd 2 1 1 := ⟨(jTB_at 804 rfl rfl), (jTB_at 805 rfl rfl), (jTB_at 806 rfl rfl), (jTB_at 112 rfl rfl), jTB_at 807 rfl rfl, ⟨by decide, by decide, by decide +kernel⟩⟩
set_option maxRecDepth 100000 in
theorem jlw_48 : jLkV RL 48 yX12_odd cX12_odd 2 1 1 := ⟨(jTB_at 1668 rfl rfl), (jTB_at 1669 rfl rfl), (jTB_at 1670 rfl rfl), (jTB_at 115 rfl rfl), jTB_at 1671 rfl rfl, ⟨by decide, by decide, by decide +kernel⟩⟩
set_option maxRecDepth 100000 in
theorem jlw_49 : jLkV RL 49 yX11_wild cX11_wild 2 1 1 := ⟨(jTB_at 885 rfl rfl), (jTB_at 886 rfl rfl), (jTB_at 887 rfl rfl), (jTB_at 112 rfl rfl), jTB_at 888 rfl rfl, ⟨by decide, by decide, by decide +kernel⟩⟩
set_option maxRecDepth 100000 in
theorem jlw_52 : jLkV RL 52 yX12_wild cX12_wild 2 1 1 := ⟨(jTB_at 1700 rfl rfl), (jTB_at 1701 rfl rfl), (jTB_at 1702 rfl rfl), (jTB_at 115 rfl rfl), jTB_at 1703 rfl rfl, ⟨by decide, by decide, by decide +kernel⟩⟩
set_option maxRecDepth 100000 in
theorem jlw_53 : jLkV RL 53 yX11_put cX11_put 3 1 1 := ⟨(jTB_at 915 rfl rfl), (jTB_at 916 rfl rfl), (jTB_at 917 rfl rfl), (jTB_at 112 rfl rfl), jTB_at 918 rfl rfl, ⟨by decide, by decide, by decide +kernel⟩⟩
set_option maxRecDepth 100000 in
theorem jlw_56 : jLkV RL 56 yX12_put cX12_put 2 1 1 := ⟨(jTB_at 1704 rfl rfl), (jTB_at 1705 rfl rfl), (jTB_at 1706 rfl rfl), (jTB_at 115 rfl rfl), jTB_at 1707 rfl rfl, ⟨by decide, by decide, by decide +kernel⟩⟩
set_option maxRecDepth 100000 in
theorem jlw_57 : jLkV RL 57 yX11_move cX11_move 6 1 3 := ⟨(jTB_at 930 rfl rfl), (jTB_at 931 rfl rfl), (jTB_at 932 rfl rfl), (jTB_at 112 rfl rfl), jTB_at 933 rfl rfl, ⟨by decide, by decide, by decide +kernel⟩⟩
set_option maxRecDepth 100000 in
theorem jlw_60 : jLkV RL 60 yX12_move cX12_move 4 1 3 := ⟨(jTB_at 1712 rfl rfl), (jTB_at 1713 rfl rfl), (jTB_at 1714 rfl rfl), (jTB_at 115 rfl rfl), jTB_at 1715 rfl rfl, ⟨by decide, by decide, by decide +kernel⟩⟩
set_option maxRecDepth 100000 in
theorem jlw_61 : jLkV RL 61 yX11_reply cX11_reply 1 1 0 := ⟨(jTB_at 941 rfl rfl), (jTB_at 942 rfl rfl), (jTB_at 943 rfl rfl), (jTB_at 112 rfl rfl), jTB_at 944 rfl rfl, ⟨by decide, by decide, by decide +kernel⟩⟩
set_option maxRecDepth 100000 in
theorem jlw_64 : jLkV RL 64 yX12_reply cX12_reply 2 1 0 := ⟨(jTB_at 1724 rfl rfl), (jTB_at 1725 rfl rfl), (jTB_at 1726 rfl rfl), (jTB_at 115 rfl rfl), jTB_at 1727 rfl rfl, ⟨by decide, by decide, by decide +kernel⟩⟩
set_option maxRecDepth 100000 in
theorem jlw_65 : jLkV RL 65 yX11_clear cX11_clear 2 1 0 := ⟨(jTB_at 965 rfl rfl), (jTB_at 966 rfl rfl), (jTB_at 967 rfl rfl), (jTB_at 112 rfl rfl), jTB_at 968 rfl rfl, ⟨by decide, by decide, by decide +kernel⟩⟩
set_option maxRecDepth 100000 in
theorem jlw_68 : jLkV RL 68 yX12_clear cX12_clear 3 1 0 := ⟨(jTB_at 1732 rfl rfl), (jTB_at 1733 rfl rfl), (jTB_at 1734 rfl rfl), (jTB_at 115 rfl rfl), jTB_at 1735 rfl rfl, ⟨by decide, by decide, by decide +kernel⟩⟩
set_option maxRecDepth 100000 in
theorem jlw_69 : jLkV RL 69 yX11_undo cX11_undo 1 1 0 := ⟨(jTB_at 969 rfl rfl), (jTB_at 970 rfl rfl), (jTB_at 971 rfl rfl), (jTB_at 112 rfl rfl), jTB_at 972 rfl rfl, ⟨by decide, by decide, by decide +kernel⟩⟩
set_option maxRecDepth 100000 in
theorem jlw_72 : jLkV RL 72 yX12_undo cX12_undo 2 1 0 := ⟨(jTB_at 1736 rfl rfl), (jTB_at 1737 rfl rfl), (jTB_at 1738 rfl rfl), (jTB_at 115 rfl rfl), jTB_at 1739 rfl rfl, ⟨by decide, by decide, by decide +kernel⟩⟩
set_option maxRecDepth 100000 in
theorem jlw_73 : jLkV RL 73 yX11_hand cX11_hand 2 1 1 := ⟨(jTB_at 977 rfl rfl), (jTB_at 978 rfl rfl), (jTB_at 979 rfl rfl), (jTB_at 112 rfl rfl), jTB_at 980 rfl rfl, ⟨by decide, by decide, by decide +kernel⟩⟩
set_option maxRecDepth 100000 in
theorem jlw_76 : jLkV RL 76 yX12_hand cX12_hand 2 1 1 := ⟨(jTB_at 1740 rfl rfl), (jTB_at 1741 rfl rfl), (jTB_at 1742 rfl rfl), (jTB_at 115 rfl rfl), jTB_at 1743 rfl rfl, ⟨by decide, by decide, by decide +kernel⟩⟩
set_option maxRecDepth 100000 in
theorem jlw_77 : jLkV RL 77 yX11_state cX11_state 2 1 1 := ⟨(jTB_at 981 rfl rfl), (jTB_at 982 rfl rfl), (jTB_at 983 rfl rfl), (jTB_at 112 rfl rfl), jTB_at 984 rfl rfl, ⟨by decide, by decide, by decide +kernel⟩⟩
set_option maxRecDepth 100000 in
theorem jlw_80 : jLkV RL 80 yX12_state cX12_state 3 1 1 := ⟨(jTB_at 1744 rfl rfl), (jTB_at 1745 rfl rfl), (jTB_at 1746 rfl rfl), (jTB_at 115 rfl rfl), jTB_at 1747 rfl rfl, ⟨by decide, by decide, by decide +kernel⟩⟩
set_option maxRecDepth 100000 in
theorem jlw_81 : jLkV RL 81 yX11_genus cX11_genus 2 1 1 := ⟨(jTB_at 1015 rfl rfl), (jTB_at 1016 rfl rfl), (jTB_at 1017 rfl rfl), (jTB_at 112 rfl rfl), jTB_at 1018 rfl rfl, ⟨by decide, by decide, by decide +kernel⟩⟩
set_option maxRecDepth 100000 in
theorem jlw_84 : jLkV RL 84 yX12_genus cX12_genus 2 1 1 := ⟨(jTB_at 1753 rfl rfl), (jTB_at 1754 rfl rfl), (jTB_at 1755 rfl rfl), (jTB_at 115 rfl rfl), jTB_at 1756 rfl rfl, ⟨by decide, by decide, by decide +kernel⟩⟩
set_option maxRecDepth 100000 in
theorem jlw_85 : jLkV RL 85 yX11_line cX11_line 2 1 1 := ⟨(jTB_at 1020 rfl rfl), (jTB_at 1021 rfl rfl), (jTB_at 1022 rfl rfl), (jTB_at 112 rfl rfl), jTB_at 1023 rfl rfl, ⟨by decide, by decide, by decide +kernel⟩⟩
set_option maxRecDepth 100000 in
theorem jlw_88 : jLkV RL 88 yX12_line cX12_line 4 1 1 := ⟨(jTB_at 1758 rfl rfl), (jTB_at 1759 rfl rfl), (jTB_at 1760 rfl rfl), (jTB_at 115 rfl rfl), jTB_at 1761 rfl rfl, ⟨by decide, by decide, by decide +kernel⟩⟩
set_option maxRecDepth 100000 in
theorem jlw_89 : jLkV RL 89 yX11_losers cX11_losers 4 1 2 := ⟨(jTB_at 1037 rfl rfl), (jTB_at 1038 rfl rfl), (jTB_at 1039 rfl rfl), (jTB_at 112 rfl rfl), jTB_at 1040 rfl rfl, ⟨by decide, by decide, by decide +kernel⟩⟩
set_option maxRecDepth 100000 in
theorem jlw_93 : jLkV RL 93 yX12_losers cX12_losers 6 1 2 := ⟨(jTB_at 1766 rfl rfl), (jTB_at 1767 rfl rfl), (jTB_at 1768 rfl rfl), (jTB_at 115 rfl rfl), jTB_at 1769 rfl rfl, ⟨by decide, by decide, by decide +kernel⟩⟩
set_option maxRecDepth 100000 in
theorem jlw_94 : jLkV RL 94 yX11_keep cX11_keep 2 1 1 := ⟨(jTB_at 1050 rfl rfl), (jTB_at 1051 rfl rfl), (jTB_at 1052 rfl rfl), (jTB_at 112 rfl rfl), jTB_at 1053 rfl rfl, ⟨by decide, by decide, by decide +kernel⟩⟩
set_option maxRecDepth 100000 in
theorem jlw_97 : jLkV RL 97 yX12_keep cX12_keep 3 1 1 := ⟨(jTB_at 1771 rfl rfl), (jTB_at 1772 rfl rfl), (jTB_at 1773 rfl rfl), (jTB_at 115 rfl rfl), jTB_at 1774 rfl rfl, ⟨by decide, by decide, by decide +kernel⟩⟩
set_option maxRecDepth 100000 in
theorem jlw_98 : jLkV RL 98 yX11_apart cX11_apart 4 1 2 := ⟨(jTB_at 1058 rfl rfl), (jTB_at 1059 rfl rfl), (jTB_at 1060 rfl rfl), (jTB_at 112 rfl rfl), jTB_at 1061 rfl rfl, ⟨by decide, by decide, by decide +kernel⟩⟩
set_option maxRecDepth 100000 in
theorem jlw_101 : jLkV RL 101 yX12_apart cX12_apart 4 1 2 := ⟨(jTB_at 1775 rfl rfl), (jTB_at 1776 rfl rfl), (jTB_at 1777 rfl rfl), (jTB_at 115 rfl rfl), jTB_at 1778 rfl rfl, ⟨by decide, by decide, by decide +kernel⟩⟩
set_option maxRecDepth 100000 in
theorem jlw_102 : jLkV RL 102 yX11_simplest cX11_simplest 2 1 1 := ⟨(jTB_at 1084 rfl rfl), (jTB_at 1085 rfl rfl), (jTB_at 1086 rfl rfl), (jTB_at 112 rfl rfl), jTB_at 1087 rfl rfl, ⟨by decide, by decide, by decide +kernel⟩⟩
set_option maxRecDepth 100000 in
theorem jlw_105 : jLkV RL 105 yX12_simplest cX12_simplest 3 1 1 := ⟨(jTB_at 1787 rfl rfl), (jTB_at 1788 rfl rfl), (jTB_at 1789 rfl rfl), (jTB_at 115 rfl rfl), jTB_at 1790 rfl rfl, ⟨by decide, by decide, by decide +kernel⟩⟩
set_option maxRecDepth 100000 in
theorem jlw_106 : jLkV RL 106 yX11_answers cX11_answers 2 1 1 := ⟨(jTB_at 1092 rfl rfl), (jTB_at 1093 rfl rfl), (jTB_at 1094 rfl rfl), (jTB_at 112 rfl rfl), jTB_at 1095 rfl rfl, ⟨by decide, by decide, by decide +kernel⟩⟩
set_option maxRecDepth 100000 in
theorem jlw_109 : jLkV RL 109 yX12_answers cX12_answers 5 1 1 := ⟨(jTB_at 1791 rfl rfl), (jTB_at 1792 rfl rfl), (jTB_at 1793 rfl rfl), (jTB_at 115 rfl rfl), jTB_at 1794 rfl rfl, ⟨by decide, by decide, by decide +kernel⟩⟩
set_option maxRecDepth 100000 in
theorem jlw_110 : jLkV RL 110 yX11_draws cX11_draws 3 1 1 := ⟨(jTB_at 1100 rfl rfl), (jTB_at 1101 rfl rfl), (jTB_at 1102 rfl rfl), (jTB_at 112 rfl rfl), jTB_at 1103 rfl rfl, ⟨by decide, by decide, by decide +kernel⟩⟩
set_option maxRecDepth 100000 in
theorem jlw_113 : jLkV RL 113 yX12_draws cX12_draws 3 1 1 := ⟨(jTB_at 1795 rfl rfl), (jTB_at 1796 rfl rfl), (jTB_at 1797 rfl rfl), (jTB_at 115 rfl rfl), jTB_at 1798 rfl rfl, ⟨by decide, by decide, by decide +kernel⟩⟩
set_option maxRecDepth 100000 in
theorem jlw_114 : jLkV RL 114 yX11_games cX11_games 3 1 2 := ⟨(jTB_at 1104 rfl rfl), (jTB_at 1105 rfl rfl), (jTB_at 1106 rfl rfl), (jTB_at 112 rfl rfl), jTB_at 1107 rfl rfl, ⟨by decide, by decide, by decide +kernel⟩⟩
set_option maxRecDepth 100000 in
theorem jlw_117 : jLkV RL 117 yX12_games cX12_games 8 1 2 := ⟨(jTB_at 1799 rfl rfl), (jTB_at 1800 rfl rfl), (jTB_at 1801 rfl rfl), (jTB_at 115 rfl rfl), jTB_at 1802 rfl rfl, ⟨by decide, by decide, by decide +kernel⟩⟩
set_option maxRecDepth 100000 in
theorem jlw_118 : jLkV RL 118 yX11_elements cX11_elements 3 1 1 := ⟨(jTB_at 1131 rfl rfl), (jTB_at 1132 rfl rfl), (jTB_at 1133 rfl rfl), (jTB_at 112 rfl rfl), jTB_at 1134 rfl rfl, ⟨by decide, by decide, by decide +kernel⟩⟩
set_option maxRecDepth 100000 in
theorem jlw_121 : jLkV RL 121 yX12_elements cX12_elements 2 1 1 := ⟨(jTB_at 1820 rfl rfl), (jTB_at 1821 rfl rfl), (jTB_at 1822 rfl rfl), (jTB_at 115 rfl rfl), jTB_at 1823 rfl rfl, ⟨by decide, by decide, by decide +kernel⟩⟩
set_option maxRecDepth 100000 in
theorem jlw_122 : jLkV RL 122 yX11_word cX11_word 5 1 3 := ⟨(jTB_at 1162 rfl rfl), (jTB_at 1163 rfl rfl), (jTB_at 1164 rfl rfl), (jTB_at 112 rfl rfl), jTB_at 1165 rfl rfl, ⟨by decide, by decide, by decide +kernel⟩⟩
set_option maxRecDepth 100000 in
theorem jlw_125 : jLkV RL 125 yX12_word cX12_word 4 1 3 := ⟨(jTB_at 1880 rfl rfl), (jTB_at 1881 rfl rfl), (jTB_at 1882 rfl rfl), (jTB_at 115 rfl rfl), jTB_at 1883 rfl rfl, ⟨by decide, by decide, by decide +kernel⟩⟩
set_option maxRecDepth 100000 in
theorem jlw_126 : jLkV RL 126 yX11_next cX11_next 5 1 3 := ⟨(jTB_at 1179 rfl rfl), (jTB_at 1180 rfl rfl), (jTB_at 1181 rfl rfl), (jTB_at 112 rfl rfl), jTB_at 1182 rfl rfl, ⟨by decide, by decide, by decide +kernel⟩⟩
set_option maxRecDepth 100000 in
theorem jlw_129 : jLkV RL 129 yX12_next_ cX12_next_ 4 1 3 := ⟨(jTB_at 1892 rfl rfl), (jTB_at 1893 rfl rfl), (jTB_at 1894 rfl rfl), (jTB_at 115 rfl rfl), jTB_at 1895 rfl rfl, ⟨by decide, by decide, by decide +kernel⟩⟩
set_option maxRecDepth 100000 in
theorem jlw_130 : jLkV RL 130 yX11_times cX11_times 5 1 3 := ⟨(jTB_at 1187 rfl rfl), (jTB_at 1188 rfl rfl), (jTB_at 1189 rfl rfl), (jTB_at 112 rfl rfl), jTB_at 1190 rfl rfl, ⟨by decide, by decide, by decide +kernel⟩⟩
set_option maxRecDepth 100000 in
theorem jlw_133 : jLkV RL 133 yX12_times cX12_times 4 1 3 := ⟨(jTB_at 1896 rfl rfl), (jTB_at 1897 rfl rfl), (jTB_at 1898 rfl rfl), (jTB_at 115 rfl rfl), jTB_at 1899 rfl rfl, ⟨by decide, by decide, by decide +kernel⟩⟩
set_option maxRecDepth 100000 in
theorem jlw_134 : jLkV RL 134 yX11_sets cX11_sets 4 1 2 := ⟨(jTB_at 1200 rfl rfl), (jTB_at 1201 rfl rfl), (jTB_at 1202 rfl rfl), (jTB_at 112 rfl rfl), jTB_at 1203 rfl rfl, ⟨by decide, by decide, by decide +kernel⟩⟩
set_option maxRecDepth 100000 in
theorem jlw_137 : jLkV RL 137 yX12_sets cX12_sets 7 1 2 := ⟨(jTB_at 1904 rfl rfl), (jTB_at 1905 rfl rfl), (jTB_at 1906 rfl rfl), (jTB_at 115 rfl rfl), jTB_at 1907 rfl rfl, ⟨by decide, by decide, by decide +kernel⟩⟩
set_option maxRecDepth 100000 in
theorem jlw_138 : jLkV RL 138 yX11_pairs cX11_pairs 3 1 1 := ⟨(jTB_at 1229 rfl rfl), (jTB_at 1230 rfl rfl), (jTB_at 1231 rfl rfl), (jTB_at 112 rfl rfl), jTB_at 1232 rfl rfl, ⟨by decide, by decide, by decide +kernel⟩⟩
set_option maxRecDepth 100000 in
theorem jlw_141 : jLkV RL 141 yX12_pairs cX12_pairs 2 1 1 := ⟨(jTB_at 1913 rfl rfl), (jTB_at 1914 rfl rfl), (jTB_at 1915 rfl rfl), (jTB_at 115 rfl rfl), jTB_at 1916 rfl rfl, ⟨by decide, by decide, by decide +kernel⟩⟩
set_option maxRecDepth 100000 in
theorem jlw_142 : jLkV RL 142 yX11_proved cX11_proved 3 1 1 := ⟨(jTB_at 1277 rfl rfl), (jTB_at 1278 rfl rfl), (jTB_at 1279 rfl rfl), (jTB_at 112 rfl rfl), jTB_at 1280 rfl rfl, ⟨by decide, by decide, by decide +kernel⟩⟩
set_option maxRecDepth 100000 in
theorem jlw_145 : jLkV RL 145 yX12_proved cX12_proved 2 1 1 := ⟨(jTB_at 1917 rfl rfl), (jTB_at 1918 rfl rfl), (jTB_at 1919 rfl rfl), (jTB_at 115 rfl rfl), jTB_at 1920 rfl rfl, ⟨by decide, by decide, by decide +kernel⟩⟩
set_option maxRecDepth 100000 in
theorem jlw_146 : jLkV RL 146 yX11_stays cX11_stays 6 1 1 := ⟨(jTB_at 1290 rfl rfl), (jTB_at 1291 rfl rfl), (jTB_at 1292 rfl rfl), (jTB_at 112 rfl rfl), jTB_at 1293 rfl rfl, ⟨by decide, by decide, by decide +kernel⟩⟩
set_option maxRecDepth 100000 in
theorem jlw_149 : jLkV RL 149 yX12_stays cX12_stays 3 1 1 := ⟨(jTB_at 1921 rfl rfl), (jTB_at 1922 rfl rfl), (jTB_at 1923 rfl rfl), (jTB_at 115 rfl rfl), jTB_at 1924 rfl rfl, ⟨by decide, by decide, by decide +kernel⟩⟩
set_option maxRecDepth 100000 in
theorem jlw_150 : jLkV RL 150 yX11_power cX11_power 5 1 3 := ⟨(jTB_at 1298 rfl rfl), (jTB_at 1299 rfl rfl), (jTB_at 1300 rfl rfl), (jTB_at 112 rfl rfl), jTB_at 1301 rfl rfl, ⟨by decide, by decide, by decide +kernel⟩⟩
set_option maxRecDepth 100000 in
theorem jlw_153 : jLkV RL 153 yX12_power cX12_power 6 1 3 := ⟨(jTB_at 1929 rfl rfl), (jTB_at 1930 rfl rfl), (jTB_at 1931 rfl rfl), (jTB_at 115 rfl rfl), jTB_at 1932 rfl rfl, ⟨by decide, by decide, by decide +kernel⟩⟩
set_option maxRecDepth 100000 in
theorem jlw_154 : jLkV RL 154 yX11_place cX11_place 4 1 1 := ⟨(jTB_at 1307 rfl rfl), (jTB_at 1308 rfl rfl), (jTB_at 1309 rfl rfl), (jTB_at 112 rfl rfl), jTB_at 1310 rfl rfl, ⟨by decide, by decide, by decide +kernel⟩⟩
set_option maxRecDepth 100000 in
theorem jlw_157 : jLkV RL 157 yX12_place cX12_place 6 1 1 := ⟨(jTB_at 1933 rfl rfl), (jTB_at 1934 rfl rfl), (jTB_at 1935 rfl rfl), (jTB_at 115 rfl rfl), jTB_at 1936 rfl rfl, ⟨by decide, by decide, by decide +kernel⟩⟩
set_option maxRecDepth 100000 in
theorem jlw_158 : jLkV RL 158 yX11_count cX11_count 2 1 1 := ⟨(jTB_at 1318 rfl rfl), (jTB_at 1319 rfl rfl), (jTB_at 1320 rfl rfl), (jTB_at 112 rfl rfl), jTB_at 1321 rfl rfl, ⟨by decide, by decide, by decide +kernel⟩⟩
set_option maxRecDepth 100000 in
theorem jlw_161 : jLkV RL 161 yX12_count cX12_count 2 1 1 := ⟨(jTB_at 1937 rfl rfl), (jTB_at 1938 rfl rfl), (jTB_at 1939 rfl rfl), (jTB_at 115 rfl rfl), jTB_at 1940 rfl rfl, ⟨by decide, by decide, by decide +kernel⟩⟩
set_option maxRecDepth 100000 in
theorem jnw_L_7 : jNw RL 7 11 [.inr none, .inr none, .inr none, .inl 0] := by
  have h : ∀ j, j < 4 → defaultValue (tyX11 j) = vp_V (([.inr none, .inr none, .inr none, .inl 0] : List jxF).map jgdv) j := by
    intro j hj
    match j, hj with
    | 0, _ => rfl
    | 1, _ => rfl
    | 2, _ => rfl
    | 3, _ => rfl
    | k + 4, h => exact absurd h (by omega)
  exact ⟨RX11, TX11, tyX11, rfl, jin_X11, tyX11_ok, (jTB_at 132 rfl rfl), (jTB_at 133 rfl rfl), (jTB_at 112 rfl rfl), h, rfl⟩
set_option maxRecDepth 100000 in
theorem jnw_L_10 : jNw RL 10 12 [.inr none, .inl 0, .inl 0, .inl 0, .inl 0, .inr none, .inl 0, .inl 0, .inr none, .inr none, .inr none, .inl 0, .inl 0, .inl 2, .inr none, .inr none, .inr none, .inl 0, .inr none, .inr none, .inr none, .inr none, .inr none, .inr none, .inl 0, .inr none, .inr none, .inr none, .inr none, .inr none, .inr none, .inr none, .inl 0, .inr none, .inr none, .inr none, .inr none, .inl 0, .inr none, .inr none, .inl 0, .inr none, .inr none, .inl 0, .inl 1, .inr none, .inr none, .inr none, .inr none, .inr none, .inr none, .inr none, .inr none, .inr none, .inr none, .inr none, .inr none] := by
  have h : ∀ j, j < 57 → defaultValue (tyX12 j) = vp_V (([.inr none, .inl 0, .inl 0, .inl 0, .inl 0, .inr none, .inl 0, .inl 0, .inr none, .inr none, .inr none, .inl 0, .inl 0, .inl 2, .inr none, .inr none, .inr none, .inl 0, .inr none, .inr none, .inr none, .inr none, .inr none, .inr none, .inl 0, .inr none, .inr none, .inr none, .inr none, .inr none, .inr none, .inr none, .inl 0, .inr none, .inr none, .inr none, .inr none, .inl 0, .inr none, .inr none, .inl 0, .inr none, .inr none, .inl 0, .inl 1, .inr none, .inr none, .inr none, .inr none, .inr none, .inr none, .inr none, .inr none, .inr none, .inr none, .inr none, .inr none] : List jxF).map jgdv) j := by
    intro j hj
    match j, hj with
    | 0, _ => rfl
    | 1, _ => rfl
    | 2, _ => rfl
    | 3, _ => rfl
    | 4, _ => rfl
    | 5, _ => rfl
    | 6, _ => rfl
    | 7, _ => rfl
    | 8, _ => rfl
    | 9, _ => rfl
    | 10, _ => rfl
    | 11, _ => rfl
    | 12, _ => rfl
    | 13, _ => rfl
    | 14, _ => rfl
    | 15, _ => rfl
    | 16, _ => rfl
    | 17, _ => rfl
    | 18, _ => rfl
    | 19, _ => rfl
    | 20, _ => rfl
    | 21, _ => rfl
    | 22, _ => rfl
    | 23, _ => rfl
    | 24, _ => rfl
    | 25, _ => rfl
    | 26, _ => rfl
    | 27, _ => rfl
    | 28, _ => rfl
    | 29, _ => rfl
    | 30, _ => rfl
    | 31, _ => rfl
    | 32, _ => rfl
    | 33, _ => rfl
    | 34, _ => rfl
    | 35, _ => rfl
    | 36, _ => rfl
    | 37, _ => rfl
    | 38, _ => rfl
    | 39, _ => rfl
    | 40, _ => rfl
    | 41, _ => rfl
    | 42, _ => rfl
    | 43, _ => rfl
    | 44, _ => rfl
    | 45, _ => rfl
    | 46, _ => rfl
    | 47, _ => rfl
    | 48, _ => rfl
    | 49, _ => rfl
    | 50, _ => rfl
    | 51, _ => rfl
    | 52, _ => rfl
    | 53, _ => rfl
    | 54, _ => rfl
    | 55, _ => rfl
    | 56, _ => rfl
    | k + 57, h => exact absurd h (by omega)
  exact ⟨RX12, TX12, tyX12, rfl, jin_X12, tyX12_ok, (jTB_at 1331 rfl rfl), (jTB_at 1332 rfl rfl), (jTB_at 115 rfl rfl), h, rfl⟩
set_option maxRecDepth 100000 in
theorem jli_L_9 : jLkI RL 9 yX11_init cX11_init 1 0 := ⟨Or.inl (jTB_at 134 rfl rfl), (jTB_at 135 rfl rfl), (jTB_at 112 rfl rfl), (jTB_at 136 rfl rfl), rfl, ⟨by decide, by decide, by decide +kernel⟩⟩
set_option maxRecDepth 100000 in
theorem jli_L_12 : jLkI RL 12 yX12_init cX12_init 1 0 := ⟨Or.inl (jTB_at 1333 rfl rfl), (jTB_at 1334 rfl rfl), (jTB_at 115 rfl rfl), (jTB_at 1335 rfl rfl), rfl, ⟨by decide, by decide, by decide +kernel⟩⟩
