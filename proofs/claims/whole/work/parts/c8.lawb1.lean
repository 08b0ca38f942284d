-- deps: c8.lawb0
def b_law_748 (g : GG) (z : Scr) : Blk := [(1, o_aload 1), (1, o_aload 0), (2, o_iload 5), (1, o_push (.int 1)), (1, o_iadd), (1, o_sld z), (1, o_aload 3), (3, o_callX (T_La_changes g) 3 1 6)]
set_option maxRecDepth 8000 in
theorem okb_law_748 (g : GG) (l : Launch) (hst : l.stackTraces = false) (z : Scr) : BlkOkP (m_law g l) (PS z) 748 (b_law_748 g z) := 
  ⟨OpOk.p (ok_aload_n (by decide +kernel : decode code 748 = .ok (.aload_n 1, 1)) rfl),
  ⟨OpOk.p (ok_aload_n (by decide +kernel : decode code 749 = .ok (.aload_n 0, 1)) rfl),
  ⟨OpOk.p (ok_iload (by decide +kernel : decode code 750 = .ok (.iload 5, 2))),
  ⟨OpOk.p (ok_iconst (by decide) (by decide +kernel : decode code 752 = .ok (.iconst 1, 1))),
  ⟨OpOk.p (ok_iadd (by decide +kernel : decode code 753 = .ok (.iadd, 1))),
  ⟨ok_sld (by decide +kernel : decode code 754 = .ok (.iaload, 1)),
  ⟨OpOk.p (ok_aload_n (by decide +kernel : decode code 755 = .ok (.aload_n 3, 1)) rfl),
  ⟨OpOk.p (ok_callSH (k := 3) (s_La_changes g l hst) (show 12 < 100 from by decide) (Nat.le_of_ble_eq_true rfl) rfl tw_784 tw_785 tw_0 tw_786 ⟨by decide, by decide, by decide⟩ (by decide +kernel : decode code 756 = .ok (.invokestatic 172, 3))), trivial⟩⟩⟩⟩⟩⟩⟩⟩
def b_law_759 (g : GG) (z : Scr) : Blk := [(2, o_istore 6), (1, o_aload 2), (1, o_aload 0), (2, o_iload 5), (1, o_push (.int 1)), (1, o_iadd), (1, o_sld z), (3, o_callR (o_call0 T_Mo_changes 2) 10 2)]
set_option maxRecDepth 8000 in
theorem okb_law_759 (g : GG) (l : Launch) (hst : l.stackTraces = false) (z : Scr) : BlkOkP (m_law g l) (PS z) 759 (b_law_759 g z) := 
  ⟨OpOk.p (ok_istore (Nat.le_of_ble_eq_true rfl) (by decide +kernel : decode code 759 = .ok (.istore 6, 2))),
  ⟨OpOk.p (ok_aload_n (by decide +kernel : decode code 761 = .ok (.aload_n 2, 1)) rfl),
  ⟨OpOk.p (ok_aload_n (by decide +kernel : decode code 762 = .ok (.aload_n 0, 1)) rfl),
  ⟨OpOk.p (ok_iload (by decide +kernel : decode code 763 = .ok (.iload 5, 2))),
  ⟨OpOk.p (ok_iconst (by decide) (by decide +kernel : decode code 765 = .ok (.iconst 1, 1))),
  ⟨OpOk.p (ok_iadd (by decide +kernel : decode code 766 = .ok (.iadd, 1))),
  ⟨ok_sld (by decide +kernel : decode code 767 = .ok (.iaload, 1)),
  ⟨OpOk.p (OpOk.mono (M := m_law g l) (pc := 768) (ok_callV (k := 1) cls_10 (s_Mo_changes g l hst) (show 4 < 100 from by decide) (Nat.le_of_ble_eq_true rfl) rfl rfl tw_1557 tw_1558 tw_1559 tw_9 tw_1560 ⟨by decide, by decide, by decide⟩ (by decide +kernel : decode code 768 = .ok (.invokevirtual 174, 3))) callR0_of), trivial⟩⟩⟩⟩⟩⟩⟩⟩
def b_law_771 (g : GG) (z : Scr) : Blk := [(2, o_istore 7), (1, o_aload 2), (3, o_callR (o_call0 T_Mo_thrown 1) 10 1)]
set_option maxRecDepth 8000 in
theorem okb_law_771 (g : GG) (l : Launch) (hst : l.stackTraces = false) (z : Scr) : BlkOkP (m_law g l) (PS z) 771 (b_law_771 g z) := 
  ⟨OpOk.p (ok_istore (Nat.le_of_ble_eq_true rfl) (by decide +kernel : decode code 771 = .ok (.istore 7, 2))),
  ⟨OpOk.p (ok_aload_n (by decide +kernel : decode code 773 = .ok (.aload_n 2, 1)) rfl),
  ⟨OpOk.p (OpOk.mono (M := m_law g l) (pc := 774) (ok_callV (k := 0) cls_10 (s_Mo_thrown g l hst) (show 1 < 100 from by decide) (Nat.le_of_ble_eq_true rfl) rfl rfl tw_1416 tw_1417 tw_1418 tw_9 tw_1419 ⟨by decide, by decide, by decide⟩ (by decide +kernel : decode code 774 = .ok (.invokevirtual 139, 3))) callR0_of), trivial⟩⟩⟩
def b_law_777 (g : GG) (z : Scr) : Blk := [(2, o_iload 6), (3, o_iceq 784), (1, o_push (.int 0)), (1, o_zret)]
set_option maxRecDepth 8000 in
theorem okb_law_777 (g : GG) (l : Launch) (hst : l.stackTraces = false) (z : Scr) : BlkOkP (m_law g l) (PS z) 777 (b_law_777 g z) := 
  ⟨OpOk.p (ok_iload (by decide +kernel : decode code 777 = .ok (.iload 6, 2))),
  ⟨OpOk.p (ok_iceq (by decide) (by decide +kernel : decode code 779 = .ok (.if_icmp .eq 5, 3))),
  ⟨OpOk.p (ok_iconst (by decide) (by decide +kernel : decode code 782 = .ok (.iconst 0, 1))),
  ⟨OpOk.p (ok_zret rfl (by decide +kernel : decode code 783 = .ok (.ireturn, 1))), trivial⟩⟩⟩⟩
def b_law_784 (g : GG) (z : Scr) : Blk := [(2, o_iload 6), (3, o_ifne 801), (1, o_aload 3), (1, o_push (.int 0)), (1, o_lald), (2, o_iload 7), (1, o_i2l), (1, o_lcmp), (3, o_ifeq 801), (1, o_push (.int 0)), (1, o_zret)]
set_option maxRecDepth 8000 in
theorem okb_law_784 (g : GG) (l : Launch) (hst : l.stackTraces = false) (z : Scr) : BlkOkP (m_law g l) (PS z) 784 (b_law_784 g z) := 
  ⟨OpOk.p (ok_iload (by decide +kernel : decode code 784 = .ok (.iload 6, 2))),
  ⟨OpOk.p (ok_ifne (by decide) (by decide +kernel : decode code 786 = .ok (.ifCond .ne 15, 3))),
  ⟨OpOk.p (ok_aload_n (by decide +kernel : decode code 789 = .ok (.aload_n 3, 1)) rfl),
  ⟨OpOk.p (ok_iconst (by decide) (by decide +kernel : decode code 790 = .ok (.iconst 0, 1))),
  ⟨OpOk.p (ok_lald (by decide +kernel : decode code 791 = .ok (.laload, 1))),
  ⟨OpOk.p (ok_iload (by decide +kernel : decode code 792 = .ok (.iload 7, 2))),
  ⟨OpOk.p (ok_i2l (by decide +kernel : decode code 794 = .ok (.i2l, 1))),
  ⟨OpOk.p (ok_lcmp (by decide +kernel : decode code 795 = .ok (.lcmp, 1))),
  ⟨OpOk.p (ok_ifeq (by decide) (by decide +kernel : decode code 796 = .ok (.ifCond .eq 5, 3))),
  ⟨OpOk.p (ok_iconst (by decide) (by decide +kernel : decode code 799 = .ok (.iconst 0, 1))),
  ⟨OpOk.p (ok_zret rfl (by decide +kernel : decode code 800 = .ok (.ireturn, 1))), trivial⟩⟩⟩⟩⟩⟩⟩⟩⟩⟩⟩
def b_law_801 (g : GG) (z : Scr) : Blk := [(3, o_goto 2528)]
set_option maxRecDepth 8000 in
theorem okb_law_801 (g : GG) (l : Launch) (hst : l.stackTraces = false) (z : Scr) : BlkOkP (m_law g l) (PS z) 801 (b_law_801 g z) := 
  ⟨OpOk.p (ok_goto (by decide) (by decide +kernel : decode code 801 = .ok (.goto 1727, 3))), trivial⟩
def k_law_c9 (g : GG) (z : Scr) : List (Nat × Blk) := [(748, b_law_748 g z), (759, b_law_759 g z), (771, b_law_771 g z), (777, b_law_777 g z), (784, b_law_784 g z), (801, b_law_801 g z)]
theorem okl_law_c9 (g : GG) (l : Launch) (hst : l.stackTraces = false) (z : Scr) : ∀ b ∈ k_law_c9 g z, BlkOkP (m_law g l) (PS z) b.1 b.2 := List.forall_mem_cons.mpr ⟨okb_law_748 g l hst z, List.forall_mem_cons.mpr ⟨okb_law_759 g l hst z, List.forall_mem_cons.mpr ⟨okb_law_771 g l hst z, List.forall_mem_cons.mpr ⟨okb_law_777 g l hst z, List.forall_mem_cons.mpr ⟨okb_law_784 g l hst z, List.forall_mem_cons.mpr ⟨okb_law_801 g l hst z, fun _ h => by cases h⟩⟩⟩⟩⟩⟩
def b_law_804 (g : GG) (z : Scr) : Blk := [(1, o_aload 1), (1, o_aload 0), (2, o_iload 5), (1, o_push (.int 1)), (1, o_iadd), (1, o_sld z), (1, o_aload 0), (2, o_iload 5), (1, o_push (.int 2)), (1, o_iadd), (1, o_sld z), (1, o_aload 3), (3, o_callX (T_La_least g) 4 2 12)]
set_option maxRecDepth 8000 in
theorem okb_law_804 (g : GG) (l : Launch) (hst : l.stackTraces = false) (z : Scr) : BlkOkP (m_law g l) (PS z) 804 (b_law_804 g z) := 
  ⟨OpOk.p (ok_aload_n (by decide +kernel : decode code 804 = .ok (.aload_n 1, 1)) rfl),
  ⟨OpOk.p (ok_aload_n (by decide +kernel : decode code 805 = .ok (.aload_n 0, 1)) rfl),
  ⟨OpOk.p (ok_iload (by decide +kernel : decode code 806 = .ok (.iload 5, 2))),
  ⟨OpOk.p (ok_iconst (by decide) (by decide +kernel : decode code 808 = .ok (.iconst 1, 1))),
  ⟨OpOk.p (ok_iadd (by decide +kernel : decode code 809 = .ok (.iadd, 1))),
  ⟨ok_sld (by decide +kernel : decode code 810 = .ok (.iaload, 1)),
  ⟨OpOk.p (ok_aload_n (by decide +kernel : decode code 811 = .ok (.aload_n 0, 1)) rfl),
  ⟨OpOk.p (ok_iload (by decide +kernel : decode code 812 = .ok (.iload 5, 2))),
  ⟨OpOk.p (ok_iconst (by decide) (by decide +kernel : decode code 814 = .ok (.iconst 2, 1))),
  ⟨OpOk.p (ok_iadd (by decide +kernel : decode code 815 = .ok (.iadd, 1))),
  ⟨ok_sld (by decide +kernel : decode code 816 = .ok (.iaload, 1)),
  ⟨OpOk.p (ok_aload_n (by decide +kernel : decode code 817 = .ok (.aload_n 3, 1)) rfl),
  ⟨OpOk.p (ok_callSH (k := 4) (s_La_least g l hst) (show 12 < 100 from by decide) (Nat.le_of_ble_eq_true rfl) rfl tw_791 tw_792 tw_0 tw_793 ⟨by decide, by decide, by decide⟩ (by decide +kernel : decode code 818 = .ok (.invokestatic 175, 3))), trivial⟩⟩⟩⟩⟩⟩⟩⟩⟩⟩⟩⟩⟩
def b_law_821 (g : GG) (z : Scr) : Blk := [(2, o_istore 6), (1, o_aload 2), (1, o_aload 0), (2, o_iload 5), (1, o_push (.int 1)), (1, o_iadd), (1, o_sld z), (1, o_aload 0), (2, o_iload 5), (1, o_push (.int 2)), (1, o_iadd), (1, o_sld z), (3, o_callR (o_call0 T_Mo_least 3) 10 3)]
set_option maxRecDepth 8000 in
theorem okb_law_821 (g : GG) (l : Launch) (hst : l.stackTraces = false) (z : Scr) : BlkOkP (m_law g l) (PS z) 821 (b_law_821 g z) := 
  ⟨OpOk.p (ok_istore (Nat.le_of_ble_eq_true rfl) (by decide +kernel : decode code 821 = .ok (.istore 6, 2))),
  ⟨OpOk.p (ok_aload_n (by decide +kernel : decode code 823 = .ok (.aload_n 2, 1)) rfl),
  ⟨OpOk.p (ok_aload_n (by decide +kernel : decode code 824 = .ok (.aload_n 0, 1)) rfl),
  ⟨OpOk.p (ok_iload (by decide +kernel : decode code 825 = .ok (.iload 5, 2))),
  ⟨OpOk.p (ok_iconst (by decide) (by decide +kernel : decode code 827 = .ok (.iconst 1, 1))),
  ⟨OpOk.p (ok_iadd (by decide +kernel : decode code 828 = .ok (.iadd, 1))),
  ⟨ok_sld (by decide +kernel : decode code 829 = .ok (.iaload, 1)),
  ⟨OpOk.p (ok_aload_n (by decide +kernel : decode code 830 = .ok (.aload_n 0, 1)) rfl),
  ⟨OpOk.p (ok_iload (by decide +kernel : decode code 831 = .ok (.iload 5, 2))),
  ⟨OpOk.p (ok_iconst (by decide) (by decide +kernel : decode code 833 = .ok (.iconst 2, 1))),
  ⟨OpOk.p (ok_iadd (by decide +kernel : decode code 834 = .ok (.iadd, 1))),
  ⟨ok_sld (by decide +kernel : decode code 835 = .ok (.iaload, 1)),
  ⟨OpOk.p (OpOk.mono (M := m_law g l) (pc := 836) (ok_callV (k := 2) cls_10 (s_Mo_least g l hst) (show 4 < 100 from by decide) (Nat.le_of_ble_eq_true rfl) rfl rfl tw_1565 tw_1566 tw_1567 tw_9 tw_1568 ⟨by decide, by decide, by decide⟩ (by decide +kernel : decode code 836 = .ok (.invokevirtual 177, 3))) callR0_of), trivial⟩⟩⟩⟩⟩⟩⟩⟩⟩⟩⟩⟩⟩
def b_law_839 (g : GG) (z : Scr) : Blk := [(2, o_istore 7), (1, o_aload 2), (3, o_callR (o_call0 T_Mo_thrown 1) 10 1)]
set_option maxRecDepth 8000 in
theorem okb_law_839 (g : GG) (l : Launch) (hst : l.stackTraces = false) (z : Scr) : BlkOkP (m_law g l) (PS z) 839 (b_law_839 g z) := 
  ⟨OpOk.p (ok_istore (Nat.le_of_ble_eq_true rfl) (by decide +kernel : decode code 839 = .ok (.istore 7, 2))),
  ⟨OpOk.p (ok_aload_n (by decide +kernel : decode code 841 = .ok (.aload_n 2, 1)) rfl),
  ⟨OpOk.p (OpOk.mono (M := m_law g l) (pc := 842) (ok_callV (k := 0) cls_10 (s_Mo_thrown g l hst) (show 1 < 100 from by decide) (Nat.le_of_ble_eq_true rfl) rfl rfl tw_1416 tw_1417 tw_1418 tw_9 tw_1419 ⟨by decide, by decide, by decide⟩ (by decide +kernel : decode code 842 = .ok (.invokevirtual 139, 3))) callR0_of), trivial⟩⟩⟩
def b_law_845 (g : GG) (z : Scr) : Blk := [(2, o_iload 6), (3, o_iceq 852), (1, o_push (.int 0)), (1, o_zret)]
set_option maxRecDepth 8000 in
theorem okb_law_845 (g : GG) (l : Launch) (hst : l.stackTraces = false) (z : Scr) : BlkOkP (m_law g l) (PS z) 845 (b_law_845 g z) := 
  ⟨OpOk.p (ok_iload (by decide +kernel : decode code 845 = .ok (.iload 6, 2))),
  ⟨OpOk.p (ok_iceq (by decide) (by decide +kernel : decode code 847 = .ok (.if_icmp .eq 5, 3))),
  ⟨OpOk.p (ok_iconst (by decide) (by decide +kernel : decode code 850 = .ok (.iconst 0, 1))),
  ⟨OpOk.p (ok_zret rfl (by decide +kernel : decode code 851 = .ok (.ireturn, 1))), trivial⟩⟩⟩⟩
def b_law_852 (g : GG) (z : Scr) : Blk := [(2, o_iload 6), (3, o_ifne 869), (1, o_aload 3), (1, o_push (.int 0)), (1, o_lald), (2, o_iload 7), (1, o_i2l), (1, o_lcmp), (3, o_ifeq 869), (1, o_push (.int 0)), (1, o_zret)]
set_option maxRecDepth 8000 in
theorem okb_law_852 (g : GG) (l : Launch) (hst : l.stackTraces = false) (z : Scr) : BlkOkP (m_law g l) (PS z) 852 (b_law_852 g z) := 
  ⟨OpOk.p (ok_iload (by decide +kernel : decode code 852 = .ok (.iload 6, 2))),
  ⟨OpOk.p (ok_ifne (by decide) (by decide +kernel : decode code 854 = .ok (.ifCond .ne 15, 3))),
  ⟨OpOk.p (ok_aload_n (by decide +kernel : decode code 857 = .ok (.aload_n 3, 1)) rfl),
  ⟨OpOk.p (ok_iconst (by decide) (by decide +kernel : decode code 858 = .ok (.iconst 0, 1))),
  ⟨OpOk.p (ok_lald (by decide +kernel : decode code 859 = .ok (.laload, 1))),
  ⟨OpOk.p (ok_iload (by decide +kernel : decode code 860 = .ok (.iload 7, 2))),
  ⟨OpOk.p (ok_i2l (by decide +kernel : decode code 862 = .ok (.i2l, 1))),
  ⟨OpOk.p (ok_lcmp (by decide +kernel : decode code 863 = .ok (.lcmp, 1))),
  ⟨OpOk.p (ok_ifeq (by decide) (by decide +kernel : decode code 864 = .ok (.ifCond .eq 5, 3))),
  ⟨OpOk.p (ok_iconst (by decide) (by decide +kernel : decode code 867 = .ok (.iconst 0, 1))),
  ⟨OpOk.p (ok_zret rfl (by decide +kernel : decode code 868 = .ok (.ireturn, 1))), trivial⟩⟩⟩⟩⟩⟩⟩⟩⟩⟩⟩
def b_law_869 (g : GG) (z : Scr) : Blk := [(3, o_goto 2528)]
set_option maxRecDepth 8000 in
theorem okb_law_869 (g : GG) (l : Launch) (hst : l.stackTraces = false) (z : Scr) : BlkOkP (m_law g l) (PS z) 869 (b_law_869 g z) := 
  ⟨OpOk.p (ok_goto (by decide) (by decide +kernel : decode code 869 = .ok (.goto 1659, 3))), trivial⟩
def k_law_c10 (g : GG) (z : Scr) : List (Nat × Blk) := [(804, b_law_804 g z), (821, b_law_821 g z), (839, b_law_839 g z), (845, b_law_845 g z), (852, b_law_852 g z), (869, b_law_869 g z)]
theorem okl_law_c10 (g : GG) (l : Launch) (hst : l.stackTraces = false) (z : Scr) : ∀ b ∈ k_law_c10 g z, BlkOkP (m_law g l) (PS z) b.1 b.2 := List.forall_mem_cons.mpr ⟨okb_law_804 g l hst z, List.forall_mem_cons.mpr ⟨okb_law_821 g l hst z, List.forall_mem_cons.mpr ⟨okb_law_839 g l hst z, List.forall_mem_cons.mpr ⟨okb_law_845 g l hst z, List.forall_mem_cons.mpr ⟨okb_law_852 g l hst z, List.forall_mem_cons.mpr ⟨okb_law_869 g l hst z, fun _ h => by cases h⟩⟩⟩⟩⟩⟩
def b_law_872 (g : GG) (z : Scr) : Blk := [(1, o_aload 1), (1, o_aload 0), (2, o_iload 5), (1, o_push (.int 1)), (1, o_iadd), (1, o_sld z), (1, o_aload 0), (2, o_iload 5), (1, o_push (.int 2)), (1, o_iadd), (1, o_sld z), (1, o_aload 3), (3, o_callX (T_La_greatest g) 4 2 12)]
set_option maxRecDepth 8000 in
theorem okb_law_872 (g : GG) (l : Launch) (hst : l.stackTraces = false) (z : Scr) : BlkOkP (m_law g l) (PS z) 872 (b_law_872 g z) := 
  ⟨OpOk.p (ok_aload_n (by decide +kernel : decode code 872 = .ok (.aload_n 1, 1)) rfl),
  ⟨OpOk.p (ok_aload_n (by decide +kernel : decode code 873 = .ok (.aload_n 0, 1)) rfl),
  ⟨OpOk.p (ok_iload (by decide +kernel : decode code 874 = .ok (.iload 5, 2))),
  ⟨OpOk.p (ok_iconst (by decide) (by decide +kernel : decode code 876 = .ok (.iconst 1, 1))),
  ⟨OpOk.p (ok_iadd (by decide +kernel : decode code 877 = .ok (.iadd, 1))),
  ⟨ok_sld (by decide +kernel : decode code 878 = .ok (.iaload, 1)),
  ⟨OpOk.p (ok_aload_n (by decide +kernel : decode code 879 = .ok (.aload_n 0, 1)) rfl),
  ⟨OpOk.p (ok_iload (by decide +kernel : decode code 880 = .ok (.iload 5, 2))),
  ⟨OpOk.p (ok_iconst (by decide) (by decide +kernel : decode code 882 = .ok (.iconst 2, 1))),
  ⟨OpOk.p (ok_iadd (by decide +kernel : decode code 883 = .ok (.iadd, 1))),
  ⟨ok_sld (by decide +kernel : decode code 884 = .ok (.iaload, 1)),
  ⟨OpOk.p (ok_aload_n (by decide +kernel : decode code 885 = .ok (.aload_n 3, 1)) rfl),
  ⟨OpOk.p (ok_callSH (k := 4) (s_La_greatest g l hst) (show 12 < 100 from by decide) (Nat.le_of_ble_eq_true rfl) rfl tw_803 tw_804 tw_0 tw_805 ⟨by decide, by decide, by decide⟩ (by decide +kernel : decode code 886 = .ok (.invokestatic 178, 3))), trivial⟩⟩⟩⟩⟩⟩⟩⟩⟩⟩⟩⟩⟩
def b_law_889 (g : GG) (z : Scr) : Blk := [(2, o_istore 6), (1, o_aload 2), (1, o_aload 0), (2, o_iload 5), (1, o_push (.int 1)), (1, o_iadd), (1, o_sld z), (1, o_aload 0), (2, o_iload 5), (1, o_push (.int 2)), (1, o_iadd), (1, o_sld z), (3, o_callR (o_call0 T_Mo_greatest 3) 10 3)]
set_option maxRecDepth 8000 in
theorem okb_law_889 (g : GG) (l : Launch) (hst : l.stackTraces = false) (z : Scr) : BlkOkP (m_law g l) (PS z) 889 (b_law_889 g z) := 
  ⟨OpOk.p (ok_istore (Nat.le_of_ble_eq_true rfl) (by decide +kernel : decode code 889 = .ok (.istore 6, 2))),
  ⟨OpOk.p (ok_aload_n (by decide +kernel : decode code 891 = .ok (.aload_n 2, 1)) rfl),
  ⟨OpOk.p (ok_aload_n (by decide +kernel : decode code 892 = .ok (.aload_n 0, 1)) rfl),
  ⟨OpOk.p (ok_iload (by decide +kernel : decode code 893 = .ok (.iload 5, 2))),
  ⟨OpOk.p (ok_iconst (by decide) (by decide +kernel : decode code 895 = .ok (.iconst 1, 1))),
  ⟨OpOk.p (ok_iadd (by decide +kernel : decode code 896 = .ok (.iadd, 1))),
  ⟨ok_sld (by decide +kernel : decode code 897 = .ok (.iaload, 1)),
  ⟨OpOk.p (ok_aload_n (by decide +kernel : decode code 898 = .ok (.aload_n 0, 1)) rfl),
  ⟨OpOk.p (ok_iload (by decide +kernel : decode code 899 = .ok (.iload 5, 2))),
  ⟨OpOk.p (ok_iconst (by decide) (by decide +kernel : decode code 901 = .ok (.iconst 2, 1))),
  ⟨OpOk.p (ok_iadd (by decide +kernel : decode code 902 = .ok (.iadd, 1))),
  ⟨ok_sld (by decide +kernel : decode code 903 = .ok (.iaload, 1)),
  ⟨OpOk.p (OpOk.mono (M := m_law g l) (pc := 904) (ok_callV (k := 2) cls_10 (s_Mo_greatest g l hst) (show 4 < 100 from by decide) (Nat.le_of_ble_eq_true rfl) rfl rfl tw_1569 tw_1570 tw_1571 tw_9 tw_1572 ⟨by decide, by decide, by decide⟩ (by decide +kernel : decode code 904 = .ok (.invokevirtual 180, 3))) callR0_of), trivial⟩⟩⟩⟩⟩⟩⟩⟩⟩⟩⟩⟩⟩
def b_law_907 (g : GG) (z : Scr) : Blk := [(2, o_istore 7), (1, o_aload 2), (3, o_callR (o_call0 T_Mo_thrown 1) 10 1)]
set_option maxRecDepth 8000 in
theorem okb_law_907 (g : GG) (l : Launch) (hst : l.stackTraces = false) (z : Scr) : BlkOkP (m_law g l) (PS z) 907 (b_law_907 g z) := 
  ⟨OpOk.p (ok_istore (Nat.le_of_ble_eq_true rfl) (by decide +kernel : decode code 907 = .ok (.istore 7, 2))),
  ⟨OpOk.p (ok_aload_n (by decide +kernel : decode code 909 = .ok (.aload_n 2, 1)) rfl),
  ⟨OpOk.p (OpOk.mono (M := m_law g l) (pc := 910) (ok_callV (k := 0) cls_10 (s_Mo_thrown g l hst) (show 1 < 100 from by decide) (Nat.le_of_ble_eq_true rfl) rfl rfl tw_1416 tw_1417 tw_1418 tw_9 tw_1419 ⟨by decide, by decide, by decide⟩ (by decide +kernel : decode code 910 = .ok (.invokevirtual 139, 3))) callR0_of), trivial⟩⟩⟩
def b_law_913 (g : GG) (z : Scr) : Blk := [(2, o_iload 6), (3, o_iceq 920), (1, o_push (.int 0)), (1, o_zret)]
set_option maxRecDepth 8000 in
theorem okb_law_913 (g : GG) (l : Launch) (hst : l.stackTraces = false) (z : Scr) : BlkOkP (m_law g l) (PS z) 913 (b_law_913 g z) := 
  ⟨OpOk.p (ok_iload (by decide +kernel : decode code 913 = .ok (.iload 6, 2))),
  ⟨OpOk.p (ok_iceq (by decide) (by decide +kernel : decode code 915 = .ok (.if_icmp .eq 5, 3))),
  ⟨OpOk.p (ok_iconst (by decide) (by decide +kernel : decode code 918 = .ok (.iconst 0, 1))),
  ⟨OpOk.p (ok_zret rfl (by decide +kernel : decode code 919 = .ok (.ireturn, 1))), trivial⟩⟩⟩⟩
def b_law_920 (g : GG) (z : Scr) : Blk := [(2, o_iload 6), (3, o_ifne 937), (1, o_aload 3), (1, o_push (.int 0)), (1, o_lald), (2, o_iload 7), (1, o_i2l), (1, o_lcmp), (3, o_ifeq 937), (1, o_push (.int 0)), (1, o_zret)]
set_option maxRecDepth 8000 in
theorem okb_law_920 (g : GG) (l : Launch) (hst : l.stackTraces = false) (z : Scr) : BlkOkP (m_law g l) (PS z) 920 (b_law_920 g z) := 
  ⟨OpOk.p (ok_iload (by decide +kernel : decode code 920 = .ok (.iload 6, 2))),
  ⟨OpOk.p (ok_ifne (by decide) (by decide +kernel : decode code 922 = .ok (.ifCond .ne 15, 3))),
  ⟨OpOk.p (ok_aload_n (by decide +kernel : decode code 925 = .ok (.aload_n 3, 1)) rfl),
  ⟨OpOk.p (ok_iconst (by decide) (by decide +kernel : decode code 926 = .ok (.iconst 0, 1))),
  ⟨OpOk.p (ok_lald (by decide +kernel : decode code 927 = .ok (.laload, 1))),
  ⟨OpOk.p (ok_iload (by decide +kernel : decode code 928 = .ok (.iload 7, 2))),
  ⟨OpOk.p (ok_i2l (by decide +kernel : decode code 930 = .ok (.i2l, 1))),
  ⟨OpOk.p (ok_lcmp (by decide +kernel : decode code 931 = .ok (.lcmp, 1))),
  ⟨OpOk.p (ok_ifeq (by decide) (by decide +kernel : decode code 932 = .ok (.ifCond .eq 5, 3))),
  ⟨OpOk.p (ok_iconst (by decide) (by decide +kernel : decode code 935 = .ok (.iconst 0, 1))),
  ⟨OpOk.p (ok_zret rfl (by decide +kernel : decode code 936 = .ok (.ireturn, 1))), trivial⟩⟩⟩⟩⟩⟩⟩⟩⟩⟩⟩
def b_law_937 (g : GG) (z : Scr) : Blk := [(3, o_goto 2528)]
set_option maxRecDepth 8000 in
theorem okb_law_937 (g : GG) (l : Launch) (hst : l.stackTraces = false) (z : Scr) : BlkOkP (m_law g l) (PS z) 937 (b_law_937 g z) := 
  ⟨OpOk.p (ok_goto (by decide) (by decide +kernel : decode code 937 = .ok (.goto 1591, 3))), trivial⟩
def k_law_c11 (g : GG) (z : Scr) : List (Nat × Blk) := [(872, b_law_872 g z), (889, b_law_889 g z), (907, b_law_907 g z), (913, b_law_913 g z), (920, b_law_920 g z), (937, b_law_937 g z)]
theorem okl_law_c11 (g : GG) (l : Launch) (hst : l.stackTraces = false) (z : Scr) : ∀ b ∈ k_law_c11 g z, BlkOkP (m_law g l) (PS z) b.1 b.2 := List.forall_mem_cons.mpr ⟨okb_law_872 g l hst z, List.forall_mem_cons.mpr ⟨okb_law_889 g l hst z, List.forall_mem_cons.mpr ⟨okb_law_907 g l hst z, List.forall_mem_cons.mpr ⟨okb_law_913 g l hst z, List.forall_mem_cons.mpr ⟨okb_law_920 g l hst z, List.forall_mem_cons.mpr ⟨okb_law_937 g l hst z, fun _ h => by cases h⟩⟩⟩⟩⟩⟩
def b_law_940 (g : GG) (z : Scr) : Blk := [(1, o_aload 1), (1, o_aload 0), (2, o_iload 5), (1, o_push (.int 1)), (1, o_iadd), (1, o_sld z), (1, o_aload 0), (2, o_iload 5), (1, o_push (.int 2)), (1, o_iadd), (1, o_sld z), (1, o_aload 3), (3, o_callX (T_La_mayMiss g) 4 1 6)]
set_option maxRecDepth 8000 in
theorem okb_law_940 (g : GG) (l : Launch) (hst : l.stackTraces = false) (z : Scr) : BlkOkP (m_law g l) (PS z) 940 (b_law_940 g z) := 
  ⟨OpOk.p (ok_aload_n (by decide +kernel : decode code 940 = .ok (.aload_n 1, 1)) rfl),
  ⟨OpOk.p (ok_aload_n (by decide +kernel : decode code 941 = .ok (.aload_n 0, 1)) rfl),
  ⟨OpOk.p (ok_iload (by decide +kernel : decode code 942 = .ok (.iload 5, 2))),
  ⟨OpOk.p (ok_iconst (by decide) (by decide +kernel : decode code 944 = .ok (.iconst 1, 1))),
  ⟨OpOk.p (ok_iadd (by decide +kernel : decode code 945 = .ok (.iadd, 1))),
  ⟨ok_sld (by decide +kernel : decode code 946 = .ok (.iaload, 1)),
  ⟨OpOk.p (ok_aload_n (by decide +kernel : decode code 947 = .ok (.aload_n 0, 1)) rfl),
  ⟨OpOk.p (ok_iload (by decide +kernel : decode code 948 = .ok (.iload 5, 2))),
  ⟨OpOk.p (ok_iconst (by decide) (by decide +kernel : decode code 950 = .ok (.iconst 2, 1))),
  ⟨OpOk.p (ok_iadd (by decide +kernel : decode code 951 = .ok (.iadd, 1))),
  ⟨ok_sld (by decide +kernel : decode code 952 = .ok (.iaload, 1)),
  ⟨OpOk.p (ok_aload_n (by decide +kernel : decode code 953 = .ok (.aload_n 3, 1)) rfl),
  ⟨OpOk.p (ok_callSH (k := 4) (s_La_mayMiss g l hst) (show 12 < 100 from by decide) (Nat.le_of_ble_eq_true rfl) rfl tw_810 tw_811 tw_0 tw_812 ⟨by decide, by decide, by decide⟩ (by decide +kernel : decode code 954 = .ok (.invokestatic 181, 3))), trivial⟩⟩⟩⟩⟩⟩⟩⟩⟩⟩⟩⟩⟩
def b_law_957 (g : GG) (z : Scr) : Blk := [(2, o_istore 6), (1, o_aload 2), (1, o_aload 0), (2, o_iload 5), (1, o_push (.int 1)), (1, o_iadd), (1, o_sld z), (1, o_aload 0), (2, o_iload 5), (1, o_push (.int 2)), (1, o_iadd), (1, o_sld z), (3, o_callR (o_call0 T_Mo_mayMiss 3) 10 3)]
set_option maxRecDepth 8000 in
theorem okb_law_957 (g : GG) (l : Launch) (hst : l.stackTraces = false) (z : Scr) : BlkOkP (m_law g l) (PS z) 957 (b_law_957 g z) := 
  ⟨OpOk.p (ok_istore (Nat.le_of_ble_eq_true rfl) (by decide +kernel : decode code 957 = .ok (.istore 6, 2))),
  ⟨OpOk.p (ok_aload_n (by decide +kernel : decode code 959 = .ok (.aload_n 2, 1)) rfl),
  ⟨OpOk.p (ok_aload_n (by decide +kernel : decode code 960 = .ok (.aload_n 0, 1)) rfl),
  ⟨OpOk.p (ok_iload (by decide +kernel : decode code 961 = .ok (.iload 5, 2))),
  ⟨OpOk.p (ok_iconst (by decide) (by decide +kernel : decode code 963 = .ok (.iconst 1, 1))),
  ⟨OpOk.p (ok_iadd (by decide +kernel : decode code 964 = .ok (.iadd, 1))),
  ⟨ok_sld (by decide +kernel : decode code 965 = .ok (.iaload, 1)),
  ⟨OpOk.p (ok_aload_n (by decide +kernel : decode code 966 = .ok (.aload_n 0, 1)) rfl),
  ⟨OpOk.p (ok_iload (by decide +kernel : decode code 967 = .ok (.iload 5, 2))),
  ⟨OpOk.p (ok_iconst (by decide) (by decide +kernel : decode code 969 = .ok (.iconst 2, 1))),
  ⟨OpOk.p (ok_iadd (by decide +kernel : decode code 970 = .ok (.iadd, 1))),
  ⟨ok_sld (by decide +kernel : decode code 971 = .ok (.iaload, 1)),
  ⟨OpOk.p (OpOk.mono (M := m_law g l) (pc := 972) (ok_callV (k := 2) cls_10 (s_Mo_mayMiss g l hst) (show 4 < 100 from by decide) (Nat.le_of_ble_eq_true rfl) rfl rfl tw_1573 tw_1574 tw_1575 tw_9 tw_1576 ⟨by decide, by decide, by decide⟩ (by decide +kernel : decode code 972 = .ok (.invokevirtual 183, 3))) callR0_of), trivial⟩⟩⟩⟩⟩⟩⟩⟩⟩⟩⟩⟩⟩
def b_law_975 (g : GG) (z : Scr) : Blk := [(2, o_istore 7), (1, o_aload 2), (3, o_callR (o_call0 T_Mo_thrown 1) 10 1)]
set_option maxRecDepth 8000 in
theorem okb_law_975 (g : GG) (l : Launch) (hst : l.stackTraces = false) (z : Scr) : BlkOkP (m_law g l) (PS z) 975 (b_law_975 g z) := 
  ⟨OpOk.p (ok_istore (Nat.le_of_ble_eq_true rfl) (by decide +kernel : decode code 975 = .ok (.istore 7, 2))),
  ⟨OpOk.p (ok_aload_n (by decide +kernel : decode code 977 = .ok (.aload_n 2, 1)) rfl),
  ⟨OpOk.p (OpOk.mono (M := m_law g l) (pc := 978) (ok_callV (k := 0) cls_10 (s_Mo_thrown g l hst) (show 1 < 100 from by decide) (Nat.le_of_ble_eq_true rfl) rfl rfl tw_1416 tw_1417 tw_1418 tw_9 tw_1419 ⟨by decide, by decide, by decide⟩ (by decide +kernel : decode code 978 = .ok (.invokevirtual 139, 3))) callR0_of), trivial⟩⟩⟩
def b_law_981 (g : GG) (z : Scr) : Blk := [(2, o_iload 6), (3, o_iceq 988), (1, o_push (.int 0)), (1, o_zret)]
set_option maxRecDepth 8000 in
theorem okb_law_981 (g : GG) (l : Launch) (hst : l.stackTraces = false) (z : Scr) : BlkOkP (m_law g l) (PS z) 981 (b_law_981 g z) := 
  ⟨OpOk.p (ok_iload (by decide +kernel : decode code 981 = .ok (.iload 6, 2))),
  ⟨OpOk.p (ok_iceq (by decide) (by decide +kernel : decode code 983 = .ok (.if_icmp .eq 5, 3))),
  ⟨OpOk.p (ok_iconst (by decide) (by decide +kernel : decode code 986 = .ok (.iconst 0, 1))),
  ⟨OpOk.p (ok_zret rfl (by decide +kernel : decode code 987 = .ok (.ireturn, 1))), trivial⟩⟩⟩⟩
def b_law_988 (g : GG) (z : Scr) : Blk := [(2, o_iload 6), (3, o_ifne 1012), (1, o_aload 3), (1, o_push (.int 0)), (1, o_lald), (2, o_iload 7), (3, o_ifeq 1005), (1, o_push (.long 1)), (3, o_goto 1006)]
set_option maxRecDepth 8000 in
theorem okb_law_988 (g : GG) (l : Launch) (hst : l.stackTraces = false) (z : Scr) : BlkOkP (m_law g l) (PS z) 988 (b_law_988 g z) := 
  ⟨OpOk.p (ok_iload (by decide +kernel : decode code 988 = .ok (.iload 6, 2))),
  ⟨OpOk.p (ok_ifne (by decide) (by decide +kernel : decode code 990 = .ok (.ifCond .ne 22, 3))),
  ⟨OpOk.p (ok_aload_n (by decide +kernel : decode code 993 = .ok (.aload_n 3, 1)) rfl),
  ⟨OpOk.p (ok_iconst (by decide) (by decide +kernel : decode code 994 = .ok (.iconst 0, 1))),
  ⟨OpOk.p (ok_lald (by decide +kernel : decode code 995 = .ok (.laload, 1))),
  ⟨OpOk.p (ok_iload (by decide +kernel : decode code 996 = .ok (.iload 7, 2))),
  ⟨OpOk.p (ok_ifeq (by decide) (by decide +kernel : decode code 998 = .ok (.ifCond .eq 7, 3))),
  ⟨OpOk.p (ok_lconst (by decide) (by decide +kernel : decode code 1001 = .ok (.lconst 1, 1))),
  ⟨OpOk.p (ok_goto (by decide) (by decide +kernel : decode code 1002 = .ok (.goto 4, 3))), trivial⟩⟩⟩⟩⟩⟩⟩⟩⟩
def b_law_1005 (g : GG) (z : Scr) : Blk := [(1, o_push (.long 0))]
set_option maxRecDepth 8000 in
theorem okb_law_1005 (g : GG) (l : Launch) (hst : l.stackTraces = false) (z : Scr) : BlkOkP (m_law g l) (PS z) 1005 (b_law_1005 g z) := 
  ⟨OpOk.p (ok_lconst (by decide) (by decide +kernel : decode code 1005 = .ok (.lconst 0, 1))), trivial⟩
def b_law_1006 (g : GG) (z : Scr) : Blk := [(1, o_lcmp), (3, o_ifeq 1012), (1, o_push (.int 0)), (1, o_zret)]
set_option maxRecDepth 8000 in
theorem okb_law_1006 (g : GG) (l : Launch) (hst : l.stackTraces = false) (z : Scr) : BlkOkP (m_law g l) (PS z) 1006 (b_law_1006 g z) := 
  ⟨OpOk.p (ok_lcmp (by decide +kernel : decode code 1006 = .ok (.lcmp, 1))),
  ⟨OpOk.p (ok_ifeq (by decide) (by decide +kernel : decode code 1007 = .ok (.ifCond .eq 5, 3))),
  ⟨OpOk.p (ok_iconst (by decide) (by decide +kernel : decode code 1010 = .ok (.iconst 0, 1))),
  ⟨OpOk.p (ok_zret rfl (by decide +kernel : decode code 1011 = .ok (.ireturn, 1))), trivial⟩⟩⟩⟩
def b_law_1012 (g : GG) (z : Scr) : Blk := [(3, o_goto 2528)]
set_option maxRecDepth 8000 in
theorem okb_law_1012 (g : GG) (l : Launch) (hst : l.stackTraces = false) (z : Scr) : BlkOkP (m_law g l) (PS z) 1012 (b_law_1012 g z) := 
  ⟨OpOk.p (ok_goto (by decide) (by decide +kernel : decode code 1012 = .ok (.goto 1516, 3))), trivial⟩
def k_law_c12 (g : GG) (z : Scr) : List (Nat × Blk) := [(940, b_law_940 g z), (957, b_law_957 g z), (975, b_law_975 g z), (981, b_law_981 g z), (988, b_law_988 g z), (1005, b_law_1005 g z), (1006, b_law_1006 g z), (1012, b_law_1012 g z)]
theorem okl_law_c12 (g : GG) (l : Launch) (hst : l.stackTraces = false) (z : Scr) : ∀ b ∈ k_law_c12 g z, BlkOkP (m_law g l) (PS z) b.1 b.2 := List.forall_mem_cons.mpr ⟨okb_law_940 g l hst z, List.forall_mem_cons.mpr ⟨okb_law_957 g l hst z, List.forall_mem_cons.mpr ⟨okb_law_975 g l hst z, List.forall_mem_cons.mpr ⟨okb_law_981 g l hst z, List.forall_mem_cons.mpr ⟨okb_law_988 g l hst z, List.forall_mem_cons.mpr ⟨okb_law_1005 g l hst z, List.forall_mem_cons.mpr ⟨okb_law_1006 g l hst z, List.forall_mem_cons.mpr ⟨okb_law_1012 g l hst z, fun _ h => by cases h⟩⟩⟩⟩⟩⟩⟩⟩
def b_law_1015 (g : GG) (z : Scr) : Blk := [(1, o_aload 1), (1, o_aload 0), (2, o_iload 5), (1, o_push (.int 1)), (1, o_iadd), (1, o_sld z), (1, o_aload 3), (3, o_callX (T_La_mend g) 3 2 12)]
set_option maxRecDepth 8000 in
theorem okb_law_1015 (g : GG) (l : Launch) (hst : l.stackTraces = false) (z : Scr) : BlkOkP (m_law g l) (PS z) 1015 (b_law_1015 g z) := 
  ⟨OpOk.p (ok_aload_n (by decide +kernel : decode code 1015 = .ok (.aload_n 1, 1)) rfl),
  ⟨OpOk.p (ok_aload_n (by decide +kernel : decode code 1016 = .ok (.aload_n 0, 1)) rfl),
  ⟨OpOk.p (ok_iload (by decide +kernel : decode code 1017 = .ok (.iload 5, 2))),
  ⟨OpOk.p (ok_iconst (by decide) (by decide +kernel : decode code 1019 = .ok (.iconst 1, 1))),
  ⟨OpOk.p (ok_iadd (by decide +kernel : decode code 1020 = .ok (.iadd, 1))),
  ⟨ok_sld (by decide +kernel : decode code 1021 = .ok (.iaload, 1)),
  ⟨OpOk.p (ok_aload_n (by decide +kernel : decode code 1022 = .ok (.aload_n 3, 1)) rfl),
  ⟨OpOk.p (ok_callSH (k := 3) (s_La_mend g l hst) (show 12 < 100 from by decide) (Nat.le_of_ble_eq_true rfl) rfl tw_818 tw_819 tw_0 tw_820 ⟨by decide, by decide, by decide⟩ (by decide +kernel : decode code 1023 = .ok (.invokestatic 184, 3))), trivial⟩⟩⟩⟩⟩⟩⟩⟩
def b_law_1026 (g : GG) (z : Scr) : Blk := [(2, o_istore 6), (1, o_aload 2), (1, o_aload 0), (2, o_iload 5), (1, o_push (.int 1)), (1, o_iadd), (1, o_sld z), (3, o_callR (o_call0 T_Mo_mend 2) 10 2)]
set_option maxRecDepth 8000 in
theorem okb_law_1026 (g : GG) (l : Launch) (hst : l.stackTraces = false) (z : Scr) : BlkOkP (m_law g l) (PS z) 1026 (b_law_1026 g z) := 
  ⟨OpOk.p (ok_istore (Nat.le_of_ble_eq_true rfl) (by decide +kernel : decode code 1026 = .ok (.istore 6, 2))),
  ⟨OpOk.p (ok_aload_n (by decide +kernel : decode code 1028 = .ok (.aload_n 2, 1)) rfl),
  ⟨OpOk.p (ok_aload_n (by decide +kernel : decode code 1029 = .ok (.aload_n 0, 1)) rfl),
  ⟨OpOk.p (ok_iload (by decide +kernel : decode code 1030 = .ok (.iload 5, 2))),
  ⟨OpOk.p (ok_iconst (by decide) (by decide +kernel : decode code 1032 = .ok (.iconst 1, 1))),
  ⟨OpOk.p (ok_iadd (by decide +kernel : decode code 1033 = .ok (.iadd, 1))),
  ⟨ok_sld (by decide +kernel : decode code 1034 = .ok (.iaload, 1)),
  ⟨OpOk.p (OpOk.mono (M := m_law g l) (pc := 1035) (ok_callV (k := 1) cls_10 (s_Mo_mend g l hst) (show 20 < 100 from by decide) (Nat.le_of_ble_eq_true rfl) rfl rfl tw_1577 tw_1578 tw_1579 tw_9 tw_1580 ⟨by decide, by decide, by decide⟩ (by decide +kernel : decode code 1035 = .ok (.invokevirtual 186, 3))) callR0_of), trivial⟩⟩⟩⟩⟩⟩⟩⟩
def b_law_1038 (g : GG) (z : Scr) : Blk := [(2, o_istore 7), (1, o_aload 2), (3, o_callR (o_call0 T_Mo_thrown 1) 10 1)]
set_option maxRecDepth 8000 in
theorem okb_law_1038 (g : GG) (l : Launch) (hst : l.stackTraces = false) (z : Scr) : BlkOkP (m_law g l) (PS z) 1038 (b_law_1038 g z) := 
  ⟨OpOk.p (ok_istore (Nat.le_of_ble_eq_true rfl) (by decide +kernel : decode code 1038 = .ok (.istore 7, 2))),
  ⟨OpOk.p (ok_aload_n (by decide +kernel : decode code 1040 = .ok (.aload_n 2, 1)) rfl),
  ⟨OpOk.p (OpOk.mono (M := m_law g l) (pc := 1041) (ok_callV (k := 0) cls_10 (s_Mo_thrown g l hst) (show 1 < 100 from by decide) (Nat.le_of_ble_eq_true rfl) rfl rfl tw_1416 tw_1417 tw_1418 tw_9 tw_1419 ⟨by decide, by decide, by decide⟩ (by decide +kernel : decode code 1041 = .ok (.invokevirtual 139, 3))) callR0_of), trivial⟩⟩⟩
def b_law_1044 (g : GG) (z : Scr) : Blk := [(2, o_iload 6), (3, o_iceq 1051), (1, o_push (.int 0)), (1, o_zret)]
set_option maxRecDepth 8000 in
theorem okb_law_1044 (g : GG) (l : Launch) (hst : l.stackTraces = false) (z : Scr) : BlkOkP (m_law g l) (PS z) 1044 (b_law_1044 g z) := 
  ⟨OpOk.p (ok_iload (by decide +kernel : decode code 1044 = .ok (.iload 6, 2))),
  ⟨OpOk.p (ok_iceq (by decide) (by decide +kernel : decode code 1046 = .ok (.if_icmp .eq 5, 3))),
  ⟨OpOk.p (ok_iconst (by decide) (by decide +kernel : decode code 1049 = .ok (.iconst 0, 1))),
  ⟨OpOk.p (ok_zret rfl (by decide +kernel : decode code 1050 = .ok (.ireturn, 1))), trivial⟩⟩⟩⟩
def b_law_1051 (g : GG) (z : Scr) : Blk := [(2, o_iload 6), (3, o_ifne 1068), (1, o_aload 3), (1, o_push (.int 0)), (1, o_lald), (2, o_iload 7), (1, o_i2l), (1, o_lcmp), (3, o_ifeq 1068), (1, o_push (.int 0)), (1, o_zret)]
set_option maxRecDepth 8000 in
theorem okb_law_1051 (g : GG) (l : Launch) (hst : l.stackTraces = false) (z : Scr) : BlkOkP (m_law g l) (PS z) 1051 (b_law_1051 g z) := 
  ⟨OpOk.p (ok_iload (by decide +kernel : decode code 1051 = .ok (.iload 6, 2))),
  ⟨OpOk.p (ok_ifne (by decide) (by decide +kernel : decode code 1053 = .ok (.ifCond .ne 15, 3))),
  ⟨OpOk.p (ok_aload_n (by decide +kernel : decode code 1056 = .ok (.aload_n 3, 1)) rfl),
  ⟨OpOk.p (ok_iconst (by decide) (by decide +kernel : decode code 1057 = .ok (.iconst 0, 1))),
  ⟨OpOk.p (ok_lald (by decide +kernel : decode code 1058 = .ok (.laload, 1))),
  ⟨OpOk.p (ok_iload (by decide +kernel : decode code 1059 = .ok (.iload 7, 2))),
  ⟨OpOk.p (ok_i2l (by decide +kernel : decode code 1061 = .ok (.i2l, 1))),
  ⟨OpOk.p (ok_lcmp (by decide +kernel : decode code 1062 = .ok (.lcmp, 1))),
  ⟨OpOk.p (ok_ifeq (by decide) (by decide +kernel : decode code 1063 = .ok (.ifCond .eq 5, 3))),
  ⟨OpOk.p (ok_iconst (by decide) (by decide +kernel : decode code 1066 = .ok (.iconst 0, 1))),
  ⟨OpOk.p (ok_zret rfl (by decide +kernel : decode code 1067 = .ok (.ireturn, 1))), trivial⟩⟩⟩⟩⟩⟩⟩⟩⟩⟩⟩
def b_law_1068 (g : GG) (z : Scr) : Blk := [(3, o_goto 2528)]
set_option maxRecDepth 8000 in
theorem okb_law_1068 (g : GG) (l : Launch) (hst : l.stackTraces = false) (z : Scr) : BlkOkP (m_law g l) (PS z) 1068 (b_law_1068 g z) := 
  ⟨OpOk.p (ok_goto (by decide) (by decide +kernel : decode code 1068 = .ok (.goto 1460, 3))), trivial⟩
def k_law_c13 (g : GG) (z : Scr) : List (Nat × Blk) := [(1015, b_law_1015 g z), (1026, b_law_1026 g z), (1038, b_law_1038 g z), (1044, b_law_1044 g z), (1051, b_law_1051 g z), (1068, b_law_1068 g z)]
theorem okl_law_c13 (g : GG) (l : Launch) (hst : l.stackTraces = false) (z : Scr) : ∀ b ∈ k_law_c13 g z, BlkOkP (m_law g l) (PS z) b.1 b.2 := List.forall_mem_cons.mpr ⟨okb_law_1015 g l hst z, List.forall_mem_cons.mpr ⟨okb_law_1026 g l hst z, List.forall_mem_cons.mpr ⟨okb_law_1038 g l hst z, List.forall_mem_cons.mpr ⟨okb_law_1044 g l hst z, List.forall_mem_cons.mpr ⟨okb_law_1051 g l hst z, List.forall_mem_cons.mpr ⟨okb_law_1068 g l hst z, fun _ h => by cases h⟩⟩⟩⟩⟩⟩
def b_law_1071 (g : GG) (z : Scr) : Blk := [(1, o_aload 1), (1, o_aload 0), (2, o_iload 5), (1, o_push (.int 1)), (1, o_iadd), (1, o_sld z), (1, o_i2c), (1, o_aload 0), (2, o_iload 5), (1, o_push (.int 2)), (1, o_iadd), (1, o_sld z), (1, o_aload 0), (2, o_iload 5), (1, o_push (.int 3)), (1, o_iadd), (1, o_sld z), (1, o_aload 3), (3, o_callX (T_La_compare g) 5 2 72)]
set_option maxRecDepth 8000 in
theorem okb_law_1071 (g : GG) (l : Launch) (hst : l.stackTraces = false) (z : Scr) : BlkOkP (m_law g l) (PS z) 1071 (b_law_1071 g z) := 
  ⟨OpOk.p (ok_aload_n (by decide +kernel : decode code 1071 = .ok (.aload_n 1, 1)) rfl),
  ⟨OpOk.p (ok_aload_n (by decide +kernel : decode code 1072 = .ok (.aload_n 0, 1)) rfl),
  ⟨OpOk.p (ok_iload (by decide +kernel : decode code 1073 = .ok (.iload 5, 2))),
  ⟨OpOk.p (ok_iconst (by decide) (by decide +kernel : decode code 1075 = .ok (.iconst 1, 1))),
  ⟨OpOk.p (ok_iadd (by decide +kernel : decode code 1076 = .ok (.iadd, 1))),
  ⟨ok_sld (by decide +kernel : decode code 1077 = .ok (.iaload, 1)),
  ⟨OpOk.p (ok_i2c (by decide +kernel : decode code 1078 = .ok (.i2c, 1))),
  ⟨OpOk.p (ok_aload_n (by decide +kernel : decode code 1079 = .ok (.aload_n 0, 1)) rfl),
  ⟨OpOk.p (ok_iload (by decide +kernel : decode code 1080 = .ok (.iload 5, 2))),
  ⟨OpOk.p (ok_iconst (by decide) (by decide +kernel : decode code 1082 = .ok (.iconst 2, 1))),
  ⟨OpOk.p (ok_iadd (by decide +kernel : decode code 1083 = .ok (.iadd, 1))),
  ⟨ok_sld (by decide +kernel : decode code 1084 = .ok (.iaload, 1)),
  ⟨OpOk.p (ok_aload_n (by decide +kernel : decode code 1085 = .ok (.aload_n 0, 1)) rfl),
  ⟨OpOk.p (ok_iload (by decide +kernel : decode code 1086 = .ok (.iload 5, 2))),
  ⟨OpOk.p (ok_iconst (by decide) (by decide +kernel : decode code 1088 = .ok (.iconst 3, 1))),
  ⟨OpOk.p (ok_iadd (by decide +kernel : decode code 1089 = .ok (.iadd, 1))),
  ⟨ok_sld (by decide +kernel : decode code 1090 = .ok (.iaload, 1)),
  ⟨OpOk.p (ok_aload_n (by decide +kernel : decode code 1091 = .ok (.aload_n 3, 1)) rfl),
  ⟨OpOk.p (ok_callSH (k := 5) (s_La_compare g l hst) (show 12 < 100 from by decide) (Nat.le_of_ble_eq_true rfl) rfl tw_834 tw_835 tw_0 tw_836 ⟨by decide, by decide, by decide⟩ (by decide +kernel : decode code 1092 = .ok (.invokestatic 187, 3))), trivial⟩⟩⟩⟩⟩⟩⟩⟩⟩⟩⟩⟩⟩⟩⟩⟩⟩⟩⟩
def b_law_1095 (g : GG) (z : Scr) : Blk := [(2, o_istore 6), (1, o_aload 2), (1, o_aload 0), (2, o_iload 5), (1, o_push (.int 1)), (1, o_iadd), (1, o_sld z), (1, o_i2c), (1, o_aload 0), (2, o_iload 5), (1, o_push (.int 2)), (1, o_iadd), (1, o_sld z), (1, o_aload 0), (2, o_iload 5), (1, o_push (.int 3)), (1, o_iadd), (1, o_sld z), (3, o_callR (o_call0 T_Mo_compare 4) 10 4)]
set_option maxRecDepth 8000 in
theorem okb_law_1095 (g : GG) (l : Launch) (hst : l.stackTraces = false) (z : Scr) : BlkOkP (m_law g l) (PS z) 1095 (b_law_1095 g z) := 
  ⟨OpOk.p (ok_istore (Nat.le_of_ble_eq_true rfl) (by decide +kernel : decode code 1095 = .ok (.istore 6, 2))),
  ⟨OpOk.p (ok_aload_n (by decide +kernel : decode code 1097 = .ok (.aload_n 2, 1)) rfl),
  ⟨OpOk.p (ok_aload_n (by decide +kernel : decode code 1098 = .ok (.aload_n 0, 1)) rfl),
  ⟨OpOk.p (ok_iload (by decide +kernel : decode code 1099 = .ok (.iload 5, 2))),
  ⟨OpOk.p (ok_iconst (by decide) (by decide +kernel : decode code 1101 = .ok (.iconst 1, 1))),
  ⟨OpOk.p (ok_iadd (by decide +kernel : decode code 1102 = .ok (.iadd, 1))),
  ⟨ok_sld (by decide +kernel : decode code 1103 = .ok (.iaload, 1)),
  ⟨OpOk.p (ok_i2c (by decide +kernel : decode code 1104 = .ok (.i2c, 1))),
  ⟨OpOk.p (ok_aload_n (by decide +kernel : decode code 1105 = .ok (.aload_n 0, 1)) rfl),
  ⟨OpOk.p (ok_iload (by decide +kernel : decode code 1106 = .ok (.iload 5, 2))),
  ⟨OpOk.p (ok_iconst (by decide) (by decide +kernel : decode code 1108 = .ok (.iconst 2, 1))),
  ⟨OpOk.p (ok_iadd (by decide +kernel : decode code 1109 = .ok (.iadd, 1))),
  ⟨ok_sld (by decide +kernel : decode code 1110 = .ok (.iaload, 1)),
  ⟨OpOk.p (ok_aload_n (by decide +kernel : decode code 1111 = .ok (.aload_n 0, 1)) rfl),
  ⟨OpOk.p (ok_iload (by decide +kernel : decode code 1112 = .ok (.iload 5, 2))),
  ⟨OpOk.p (ok_iconst (by decide) (by decide +kernel : decode code 1114 = .ok (.iconst 3, 1))),
  ⟨OpOk.p (ok_iadd (by decide +kernel : decode code 1115 = .ok (.iadd, 1))),
  ⟨ok_sld (by decide +kernel : decode code 1116 = .ok (.iaload, 1)),
  ⟨OpOk.p (OpOk.mono (M := m_law g l) (pc := 1117) (ok_callV (k := 3) cls_10 (s_Mo_compare g l hst) (show 4 < 100 from by decide) (Nat.le_of_ble_eq_true rfl) rfl rfl tw_1585 tw_1586 tw_1587 tw_9 tw_1588 ⟨by decide, by decide, by decide⟩ (by decide +kernel : decode code 1117 = .ok (.invokevirtual 190, 3))) callR0_of), trivial⟩⟩⟩⟩⟩⟩⟩⟩⟩⟩⟩⟩⟩⟩⟩⟩⟩⟩⟩
def b_law_1120 (g : GG) (z : Scr) : Blk := [(2, o_istore 7), (1, o_aload 2), (3, o_callR (o_call0 T_Mo_thrown 1) 10 1)]
set_option maxRecDepth 8000 in
theorem okb_law_1120 (g : GG) (l : Launch) (hst : l.stackTraces = false) (z : Scr) : BlkOkP (m_law g l) (PS z) 1120 (b_law_1120 g z) := 
  ⟨OpOk.p (ok_istore (Nat.le_of_ble_eq_true rfl) (by decide +kernel : decode code 1120 = .ok (.istore 7, 2))),
  ⟨OpOk.p (ok_aload_n (by decide +kernel : decode code 1122 = .ok (.aload_n 2, 1)) rfl),
  ⟨OpOk.p (OpOk.mono (M := m_law g l) (pc := 1123) (ok_callV (k := 0) cls_10 (s_Mo_thrown g l hst) (show 1 < 100 from by decide) (Nat.le_of_ble_eq_true rfl) rfl rfl tw_1416 tw_1417 tw_1418 tw_9 tw_1419 ⟨by decide, by decide, by decide⟩ (by decide +kernel : decode code 1123 = .ok (.invokevirtual 139, 3))) callR0_of), trivial⟩⟩⟩
def b_law_1126 (g : GG) (z : Scr) : Blk := [(2, o_iload 6), (3, o_iceq 1133), (1, o_push (.int 0)), (1, o_zret)]
set_option maxRecDepth 8000 in
theorem okb_law_1126 (g : GG) (l : Launch) (hst : l.stackTraces = false) (z : Scr) : BlkOkP (m_law g l) (PS z) 1126 (b_law_1126 g z) := 
  ⟨OpOk.p (ok_iload (by decide +kernel : decode code 1126 = .ok (.iload 6, 2))),
  ⟨OpOk.p (ok_iceq (by decide) (by decide +kernel : decode code 1128 = .ok (.if_icmp .eq 5, 3))),
  ⟨OpOk.p (ok_iconst (by decide) (by decide +kernel : decode code 1131 = .ok (.iconst 0, 1))),
  ⟨OpOk.p (ok_zret rfl (by decide +kernel : decode code 1132 = .ok (.ireturn, 1))), trivial⟩⟩⟩⟩
def b_law_1133 (g : GG) (z : Scr) : Blk := [(2, o_iload 6), (3, o_ifne 1150), (1, o_aload 3), (1, o_push (.int 0)), (1, o_lald), (2, o_iload 7), (1, o_i2l), (1, o_lcmp), (3, o_ifeq 1150), (1, o_push (.int 0)), (1, o_zret)]
set_option maxRecDepth 8000 in
theorem okb_law_1133 (g : GG) (l : Launch) (hst : l.stackTraces = false) (z : Scr) : BlkOkP (m_law g l) (PS z) 1133 (b_law_1133 g z) := 
  ⟨OpOk.p (ok_iload (by decide +kernel : decode code 1133 = .ok (.iload 6, 2))),
  ⟨OpOk.p (ok_ifne (by decide) (by decide +kernel : decode code 1135 = .ok (.ifCond .ne 15, 3))),
  ⟨OpOk.p (ok_aload_n (by decide +kernel : decode code 1138 = .ok (.aload_n 3, 1)) rfl),
  ⟨OpOk.p (ok_iconst (by decide) (by decide +kernel : decode code 1139 = .ok (.iconst 0, 1))),
  ⟨OpOk.p (ok_lald (by decide +kernel : decode code 1140 = .ok (.laload, 1))),
  ⟨OpOk.p (ok_iload (by decide +kernel : decode code 1141 = .ok (.iload 7, 2))),
  ⟨OpOk.p (ok_i2l (by decide +kernel : decode code 1143 = .ok (.i2l, 1))),
  ⟨OpOk.p (ok_lcmp (by decide +kernel : decode code 1144 = .ok (.lcmp, 1))),
  ⟨OpOk.p (ok_ifeq (by decide) (by decide +kernel : decode code 1145 = .ok (.ifCond .eq 5, 3))),
  ⟨OpOk.p (ok_iconst (by decide) (by decide +kernel : decode code 1148 = .ok (.iconst 0, 1))),
  ⟨OpOk.p (ok_zret rfl (by decide +kernel : decode code 1149 = .ok (.ireturn, 1))), trivial⟩⟩⟩⟩⟩⟩⟩⟩⟩⟩⟩
def b_law_1150 (g : GG) (z : Scr) : Blk := [(3, o_goto 2528)]
set_option maxRecDepth 8000 in
theorem okb_law_1150 (g : GG) (l : Launch) (hst : l.stackTraces = false) (z : Scr) : BlkOkP (m_law g l) (PS z) 1150 (b_law_1150 g z) := 
  ⟨OpOk.p (ok_goto (by decide) (by decide +kernel : decode code 1150 = .ok (.goto 1378, 3))), trivial⟩
def k_law_c14 (g : GG) (z : Scr) : List (Nat × Blk) := [(1071, b_law_1071 g z), (1095, b_law_1095 g z), (1120, b_law_1120 g z), (1126, b_law_1126 g z), (1133, b_law_1133 g z), (1150, b_law_1150 g z)]
theorem okl_law_c14 (g : GG) (l : Launch) (hst : l.stackTraces = false) (z : Scr) : ∀ b ∈ k_law_c14 g z, BlkOkP (m_law g l) (PS z) b.1 b.2 := List.forall_mem_cons.mpr ⟨okb_law_1071 g l hst z, List.forall_mem_cons.mpr ⟨okb_law_1095 g l hst z, List.forall_mem_cons.mpr ⟨okb_law_1120 g l hst z, List.forall_mem_cons.mpr ⟨okb_law_1126 g l hst z, List.forall_mem_cons.mpr ⟨okb_law_1133 g l hst z, List.forall_mem_cons.mpr ⟨okb_law_1150 g l hst z, fun _ h => by cases h⟩⟩⟩⟩⟩⟩
def b_law_1153 (g : GG) (z : Scr) : Blk := [(1, o_aload 1), (1, o_aload 0), (2, o_iload 5), (1, o_push (.int 1)), (1, o_iadd), (1, o_sld z), (1, o_i2c), (1, o_aload 0), (2, o_iload 5), (1, o_push (.int 2)), (1, o_iadd), (1, o_sld z), (1, o_aload 0), (2, o_iload 5), (1, o_push (.int 3)), (1, o_iadd), (1, o_sld z), (1, o_aload 3), (3, o_callX (T_La_join g) 5 2 72)]
set_option maxRecDepth 8000 in
theorem okb_law_1153 (g : GG) (l : Launch) (hst : l.stackTraces = false) (z : Scr) : BlkOkP (m_law g l) (PS z) 1153 (b_law_1153 g z) := 
  ⟨OpOk.p (ok_aload_n (by decide +kernel : decode code 1153 = .ok (.aload_n 1, 1)) rfl),
  ⟨OpOk.p (ok_aload_n (by decide +kernel : decode code 1154 = .ok (.aload_n 0, 1)) rfl),
  ⟨OpOk.p (ok_iload (by decide +kernel : decode code 1155 = .ok (.iload 5, 2))),
  ⟨OpOk.p (ok_iconst (by decide) (by decide +kernel : decode code 1157 = .ok (.iconst 1, 1))),
  ⟨OpOk.p (ok_iadd (by decide +kernel : decode code 1158 = .ok (.iadd, 1))),
  ⟨ok_sld (by decide +kernel : decode code 1159 = .ok (.iaload, 1)),
  ⟨OpOk.p (ok_i2c (by decide +kernel : decode code 1160 = .ok (.i2c, 1))),
  ⟨OpOk.p (ok_aload_n (by decide +kernel : decode code 1161 = .ok (.aload_n 0, 1)) rfl),
  ⟨OpOk.p (ok_iload (by decide +kernel : decode code 1162 = .ok (.iload 5, 2))),
  ⟨OpOk.p (ok_iconst (by decide) (by decide +kernel : decode code 1164 = .ok (.iconst 2, 1))),
  ⟨OpOk.p (ok_iadd (by decide +kernel : decode code 1165 = .ok (.iadd, 1))),
  ⟨ok_sld (by decide +kernel : decode code 1166 = .ok (.iaload, 1)),
  ⟨OpOk.p (ok_aload_n (by decide +kernel : decode code 1167 = .ok (.aload_n 0, 1)) rfl),
  ⟨OpOk.p (ok_iload (by decide +kernel : decode code 1168 = .ok (.iload 5, 2))),
  ⟨OpOk.p (ok_iconst (by decide) (by decide +kernel : decode code 1170 = .ok (.iconst 3, 1))),
  ⟨OpOk.p (ok_iadd (by decide +kernel : decode code 1171 = .ok (.iadd, 1))),
  ⟨ok_sld (by decide +kernel : decode code 1172 = .ok (.iaload, 1)),
  ⟨OpOk.p (ok_aload_n (by decide +kernel : decode code 1173 = .ok (.aload_n 3, 1)) rfl),
  ⟨OpOk.p (ok_callSH (k := 5) (s_La_join g l hst) (show 12 < 100 from by decide) (Nat.le_of_ble_eq_true rfl) rfl tw_886 tw_887 tw_0 tw_888 ⟨by decide, by decide, by decide⟩ (by decide +kernel : decode code 1174 = .ok (.invokestatic 191, 3))), trivial⟩⟩⟩⟩⟩⟩⟩⟩⟩⟩⟩⟩⟩⟩⟩⟩⟩⟩⟩
def b_law_1177 (g : GG) (z : Scr) : Blk := [(2, o_istore 6), (1, o_aload 2), (1, o_aload 0), (2, o_iload 5), (1, o_push (.int 1)), (1, o_iadd), (1, o_sld z), (1, o_i2c), (1, o_aload 0), (2, o_iload 5), (1, o_push (.int 2)), (1, o_iadd), (1, o_sld z), (1, o_aload 0), (2, o_iload 5), (1, o_push (.int 3)), (1, o_iadd), (1, o_sld z), (3, o_callR (o_call0 T_Mo_join 4) 10 4)]
set_option maxRecDepth 8000 in
theorem okb_law_1177 (g : GG) (l : Launch) (hst : l.stackTraces = false) (z : Scr) : BlkOkP (m_law g l) (PS z) 1177 (b_law_1177 g z) := 
  ⟨OpOk.p (ok_istore (Nat.le_of_ble_eq_true rfl) (by decide +kernel : decode code 1177 = .ok (.istore 6, 2))),
  ⟨OpOk.p (ok_aload_n (by decide +kernel : decode code 1179 = .ok (.aload_n 2, 1)) rfl),
  ⟨OpOk.p (ok_aload_n (by decide +kernel : decode code 1180 = .ok (.aload_n 0, 1)) rfl),
  ⟨OpOk.p (ok_iload (by decide +kernel : decode code 1181 = .ok (.iload 5, 2))),
  ⟨OpOk.p (ok_iconst (by decide) (by decide +kernel : decode code 1183 = .ok (.iconst 1, 1))),
  ⟨OpOk.p (ok_iadd (by decide +kernel : decode code 1184 = .ok (.iadd, 1))),
  ⟨ok_sld (by decide +kernel : decode code 1185 = .ok (.iaload, 1)),
  ⟨OpOk.p (ok_i2c (by decide +kernel : decode code 1186 = .ok (.i2c, 1))),
  ⟨OpOk.p (ok_aload_n (by decide +kernel : decode code 1187 = .ok (.aload_n 0, 1)) rfl),
  ⟨OpOk.p (ok_iload (by decide +kernel : decode code 1188 = .ok (.iload 5, 2))),
  ⟨OpOk.p (ok_iconst (by decide) (by decide +kernel : decode code 1190 = .ok (.iconst 2, 1))),
  ⟨OpOk.p (ok_iadd (by decide +kernel : decode code 1191 = .ok (.iadd, 1))),
  ⟨ok_sld (by decide +kernel : decode code 1192 = .ok (.iaload, 1)),
  ⟨OpOk.p (ok_aload_n (by decide +kernel : decode code 1193 = .ok (.aload_n 0, 1)) rfl),
  ⟨OpOk.p (ok_iload (by decide +kernel : decode code 1194 = .ok (.iload 5, 2))),
  ⟨OpOk.p (ok_iconst (by decide) (by decide +kernel : decode code 1196 = .ok (.iconst 3, 1))),
  ⟨OpOk.p (ok_iadd (by decide +kernel : decode code 1197 = .ok (.iadd, 1))),
  ⟨ok_sld (by decide +kernel : decode code 1198 = .ok (.iaload, 1)),
  ⟨OpOk.p (OpOk.mono (M := m_law g l) (pc := 1199) (ok_callV (k := 3) cls_10 (s_Mo_join g l hst) (show 4 < 100 from by decide) (Nat.le_of_ble_eq_true rfl) rfl rfl tw_1593 tw_1594 tw_1595 tw_9 tw_1596 ⟨by decide, by decide, by decide⟩ (by decide +kernel : decode code 1199 = .ok (.invokevirtual 193, 3))) callR0_of), trivial⟩⟩⟩⟩⟩⟩⟩⟩⟩⟩⟩⟩⟩⟩⟩⟩⟩⟩⟩
def b_law_1202 (g : GG) (z : Scr) : Blk := [(2, o_istore 7), (1, o_aload 2), (3, o_callR (o_call0 T_Mo_thrown 1) 10 1)]
set_option maxRecDepth 8000 in
theorem okb_law_1202 (g : GG) (l : Launch) (hst : l.stackTraces = false) (z : Scr) : BlkOkP (m_law g l) (PS z) 1202 (b_law_1202 g z) := 
  ⟨OpOk.p (ok_istore (Nat.le_of_ble_eq_true rfl) (by decide +kernel : decode code 1202 = .ok (.istore 7, 2))),
  ⟨OpOk.p (ok_aload_n (by decide +kernel : decode code 1204 = .ok (.aload_n 2, 1)) rfl),
  ⟨OpOk.p (OpOk.mono (M := m_law g l) (pc := 1205) (ok_callV (k := 0) cls_10 (s_Mo_thrown g l hst) (show 1 < 100 from by decide) (Nat.le_of_ble_eq_true rfl) rfl rfl tw_1416 tw_1417 tw_1418 tw_9 tw_1419 ⟨by decide, by decide, by decide⟩ (by decide +kernel : decode code 1205 = .ok (.invokevirtual 139, 3))) callR0_of), trivial⟩⟩⟩
def b_law_1208 (g : GG) (z : Scr) : Blk := [(2, o_iload 6), (3, o_iceq 1215), (1, o_push (.int 0)), (1, o_zret)]
set_option maxRecDepth 8000 in
theorem okb_law_1208 (g : GG) (l : Launch) (hst : l.stackTraces = false) (z : Scr) : BlkOkP (m_law g l) (PS z) 1208 (b_law_1208 g z) := 
  ⟨OpOk.p (ok_iload (by decide +kernel : decode code 1208 = .ok (.iload 6, 2))),
  ⟨OpOk.p (ok_iceq (by decide) (by decide +kernel : decode code 1210 = .ok (.if_icmp .eq 5, 3))),
  ⟨OpOk.p (ok_iconst (by decide) (by decide +kernel : decode code 1213 = .ok (.iconst 0, 1))),
  ⟨OpOk.p (ok_zret rfl (by decide +kernel : decode code 1214 = .ok (.ireturn, 1))), trivial⟩⟩⟩⟩
def b_law_1215 (g : GG) (z : Scr) : Blk := [(2, o_iload 6), (3, o_ifne 1232), (1, o_aload 3), (1, o_push (.int 0)), (1, o_lald), (2, o_iload 7), (1, o_i2l), (1, o_lcmp), (3, o_ifeq 1232), (1, o_push (.int 0)), (1, o_zret)]
set_option maxRecDepth 8000 in
theorem okb_law_1215 (g : GG) (l : Launch) (hst : l.stackTraces = false) (z : Scr) : BlkOkP (m_law g l) (PS z) 1215 (b_law_1215 g z) := 
  ⟨OpOk.p (ok_iload (by decide +kernel : decode code 1215 = .ok (.iload 6, 2))),
  ⟨OpOk.p (ok_ifne (by decide) (by decide +kernel : decode code 1217 = .ok (.ifCond .ne 15, 3))),
  ⟨OpOk.p (ok_aload_n (by decide +kernel : decode code 1220 = .ok (.aload_n 3, 1)) rfl),
  ⟨OpOk.p (ok_iconst (by decide) (by decide +kernel : decode code 1221 = .ok (.iconst 0, 1))),
  ⟨OpOk.p (ok_lald (by decide +kernel : decode code 1222 = .ok (.laload, 1))),
  ⟨OpOk.p (ok_iload (by decide +kernel : decode code 1223 = .ok (.iload 7, 2))),
  ⟨OpOk.p (ok_i2l (by decide +kernel : decode code 1225 = .ok (.i2l, 1))),
  ⟨OpOk.p (ok_lcmp (by decide +kernel : decode code 1226 = .ok (.lcmp, 1))),
  ⟨OpOk.p (ok_ifeq (by decide) (by decide +kernel : decode code 1227 = .ok (.ifCond .eq 5, 3))),
  ⟨OpOk.p (ok_iconst (by decide) (by decide +kernel : decode code 1230 = .ok (.iconst 0, 1))),
  ⟨OpOk.p (ok_zret rfl (by decide +kernel : decode code 1231 = .ok (.ireturn, 1))), trivial⟩⟩⟩⟩⟩⟩⟩⟩⟩⟩⟩
def b_law_1232 (g : GG) (z : Scr) : Blk := [(3, o_goto 2528)]
set_option maxRecDepth 8000 in
theorem okb_law_1232 (g : GG) (l : Launch) (hst : l.stackTraces = false) (z : Scr) : BlkOkP (m_law g l) (PS z) 1232 (b_law_1232 g z) := 
  ⟨OpOk.p (ok_goto (by decide) (by decide +kernel : decode code 1232 = .ok (.goto 1296, 3))), trivial⟩
def k_law_c15 (g : GG) (z : Scr) : List (Nat × Blk) := [(1153, b_law_1153 g z), (1177, b_law_1177 g z), (1202, b_law_1202 g z), (1208, b_law_1208 g z), (1215, b_law_1215 g z), (1232, b_law_1232 g z)]
theorem okl_law_c15 (g : GG) (l : Launch) (hst : l.stackTraces = false) (z : Scr) : ∀ b ∈ k_law_c15 g z, BlkOkP (m_law g l) (PS z) b.1 b.2 := List.forall_mem_cons.mpr ⟨okb_law_1153 g l hst z, List.forall_mem_cons.mpr ⟨okb_law_1177 g l hst z, List.forall_mem_cons.mpr ⟨okb_law_1202 g l hst z, List.forall_mem_cons.mpr ⟨okb_law_1208 g l hst z, List.forall_mem_cons.mpr ⟨okb_law_1215 g l hst z, List.forall_mem_cons.mpr ⟨okb_law_1232 g l hst z, fun _ h => by cases h⟩⟩⟩⟩⟩⟩
def b_law_1235 (g : GG) (z : Scr) : Blk := [(1, o_aload 1), (1, o_aload 0), (2, o_iload 5), (1, o_push (.int 1)), (1, o_iadd), (1, o_sld z), (1, o_aload 0), (2, o_iload 5), (1, o_push (.int 2)), (1, o_iadd), (1, o_sld z), (1, o_aload 3), (3, o_callX (T_La_canBe g) 4 2 12)]
set_option maxRecDepth 8000 in
theorem okb_law_1235 (g : GG) (l : Launch) (hst : l.stackTraces = false) (z : Scr) : BlkOkP (m_law g l) (PS z) 1235 (b_law_1235 g z) := 
  ⟨OpOk.p (ok_aload_n (by decide +kernel : decode code 1235 = .ok (.aload_n 1, 1)) rfl),
  ⟨OpOk.p (ok_aload_n (by decide +kernel : decode code 1236 = .ok (.aload_n 0, 1)) rfl),
  ⟨OpOk.p (ok_iload (by decide +kernel : decode code 1237 = .ok (.iload 5, 2))),
  ⟨OpOk.p (ok_iconst (by decide) (by decide +kernel : decode code 1239 = .ok (.iconst 1, 1))),
  ⟨OpOk.p (ok_iadd (by decide +kernel : decode code 1240 = .ok (.iadd, 1))),
  ⟨ok_sld (by decide +kernel : decode code 1241 = .ok (.iaload, 1)),
  ⟨OpOk.p (ok_aload_n (by decide +kernel : decode code 1242 = .ok (.aload_n 0, 1)) rfl),
  ⟨OpOk.p (ok_iload (by decide +kernel : decode code 1243 = .ok (.iload 5, 2))),
  ⟨OpOk.p (ok_iconst (by decide) (by decide +kernel : decode code 1245 = .ok (.iconst 2, 1))),
  ⟨OpOk.p (ok_iadd (by decide +kernel : decode code 1246 = .ok (.iadd, 1))),
  ⟨ok_sld (by decide +kernel : decode code 1247 = .ok (.iaload, 1)),
  ⟨OpOk.p (ok_aload_n (by decide +kernel : decode code 1248 = .ok (.aload_n 3, 1)) rfl),
  ⟨OpOk.p (ok_callSH (k := 4) (s_La_canBe g l hst) (show 12 < 100 from by decide) (Nat.le_of_ble_eq_true rfl) rfl tw_906 tw_907 tw_0 tw_908 ⟨by decide, by decide, by decide⟩ (by decide +kernel : decode code 1249 = .ok (.invokestatic 194, 3))), trivial⟩⟩⟩⟩⟩⟩⟩⟩⟩⟩⟩⟩⟩
def b_law_1252 (g : GG) (z : Scr) : Blk := [(2, o_istore 6), (1, o_aload 2), (1, o_aload 0), (2, o_iload 5), (1, o_push (.int 1)), (1, o_iadd), (1, o_sld z), (1, o_aload 0), (2, o_iload 5), (1, o_push (.int 2)), (1, o_iadd), (1, o_sld z), (3, o_callR (o_call0 T_Mo_canBe 3) 10 3)]
set_option maxRecDepth 8000 in
theorem okb_law_1252 (g : GG) (l : Launch) (hst : l.stackTraces = false) (z : Scr) : BlkOkP (m_law g l) (PS z) 1252 (b_law_1252 g z) := 
  ⟨OpOk.p (ok_istore (Nat.le_of_ble_eq_true rfl) (by decide +kernel : decode code 1252 = .ok (.istore 6, 2))),
  ⟨OpOk.p (ok_aload_n (by decide +kernel : decode code 1254 = .ok (.aload_n 2, 1)) rfl),
  ⟨OpOk.p (ok_aload_n (by decide +kernel : decode code 1255 = .ok (.aload_n 0, 1)) rfl),
  ⟨OpOk.p (ok_iload (by decide +kernel : decode code 1256 = .ok (.iload 5, 2))),
  ⟨OpOk.p (ok_iconst (by decide) (by decide +kernel : decode code 1258 = .ok (.iconst 1, 1))),
  ⟨OpOk.p (ok_iadd (by decide +kernel : decode code 1259 = .ok (.iadd, 1))),
  ⟨ok_sld (by decide +kernel : decode code 1260 = .ok (.iaload, 1)),
  ⟨OpOk.p (ok_aload_n (by decide +kernel : decode code 1261 = .ok (.aload_n 0, 1)) rfl),
  ⟨OpOk.p (ok_iload (by decide +kernel : decode code 1262 = .ok (.iload 5, 2))),
  ⟨OpOk.p (ok_iconst (by decide) (by decide +kernel : decode code 1264 = .ok (.iconst 2, 1))),
  ⟨OpOk.p (ok_iadd (by decide +kernel : decode code 1265 = .ok (.iadd, 1))),
  ⟨ok_sld (by decide +kernel : decode code 1266 = .ok (.iaload, 1)),
  ⟨OpOk.p (OpOk.mono (M := m_law g l) (pc := 1267) (ok_callV (k := 2) cls_10 (s_Mo_canBe g l hst) (show 36 < 100 from by decide) (Nat.le_of_ble_eq_true rfl) rfl rfl tw_1597 tw_1598 tw_1599 tw_9 tw_1600 ⟨by decide, by decide, by decide⟩ (by decide +kernel : decode code 1267 = .ok (.invokevirtual 196, 3))) callR0_of), trivial⟩⟩⟩⟩⟩⟩⟩⟩⟩⟩⟩⟩⟩
def b_law_1270 (g : GG) (z : Scr) : Blk := [(2, o_istore 7), (1, o_aload 2), (3, o_callR (o_call0 T_Mo_thrown 1) 10 1)]
set_option maxRecDepth 8000 in
theorem okb_law_1270 (g : GG) (l : Launch) (hst : l.stackTraces = false) (z : Scr) : BlkOkP (m_law g l) (PS z) 1270 (b_law_1270 g z) := 
  ⟨OpOk.p (ok_istore (Nat.le_of_ble_eq_true rfl) (by decide +kernel : decode code 1270 = .ok (.istore 7, 2))),
  ⟨OpOk.p (ok_aload_n (by decide +kernel : decode code 1272 = .ok (.aload_n 2, 1)) rfl),
  ⟨OpOk.p (OpOk.mono (M := m_law g l) (pc := 1273) (ok_callV (k := 0) cls_10 (s_Mo_thrown g l hst) (show 1 < 100 from by decide) (Nat.le_of_ble_eq_true rfl) rfl rfl tw_1416 tw_1417 tw_1418 tw_9 tw_1419 ⟨by decide, by decide, by decide⟩ (by decide +kernel : decode code 1273 = .ok (.invokevirtual 139, 3))) callR0_of), trivial⟩⟩⟩
def b_law_1276 (g : GG) (z : Scr) : Blk := [(2, o_iload 6), (3, o_iceq 1283), (1, o_push (.int 0)), (1, o_zret)]
set_option maxRecDepth 8000 in
theorem okb_law_1276 (g : GG) (l : Launch) (hst : l.stackTraces = false) (z : Scr) : BlkOkP (m_law g l) (PS z) 1276 (b_law_1276 g z) := 
  ⟨OpOk.p (ok_iload (by decide +kernel : decode code 1276 = .ok (.iload 6, 2))),
  ⟨OpOk.p (ok_iceq (by decide) (by decide +kernel : decode code 1278 = .ok (.if_icmp .eq 5, 3))),
  ⟨OpOk.p (ok_iconst (by decide) (by decide +kernel : decode code 1281 = .ok (.iconst 0, 1))),
  ⟨OpOk.p (ok_zret rfl (by decide +kernel : decode code 1282 = .ok (.ireturn, 1))), trivial⟩⟩⟩⟩
def b_law_1283 (g : GG) (z : Scr) : Blk := [(2, o_iload 6), (3, o_ifne 1300), (1, o_aload 3), (1, o_push (.int 0)), (1, o_lald), (2, o_iload 7), (1, o_i2l), (1, o_lcmp), (3, o_ifeq 1300), (1, o_push (.int 0)), (1, o_zret)]
set_option maxRecDepth 8000 in
theorem okb_law_1283 (g : GG) (l : Launch) (hst : l.stackTraces = false) (z : Scr) : BlkOkP (m_law g l) (PS z) 1283 (b_law_1283 g z) := 
  ⟨OpOk.p (ok_iload (by decide +kernel : decode code 1283 = .ok (.iload 6, 2))),
  ⟨OpOk.p (ok_ifne (by decide) (by decide +kernel : decode code 1285 = .ok (.ifCond .ne 15, 3))),
  ⟨OpOk.p (ok_aload_n (by decide +kernel : decode code 1288 = .ok (.aload_n 3, 1)) rfl),
  ⟨OpOk.p (ok_iconst (by decide) (by decide +kernel : decode code 1289 = .ok (.iconst 0, 1))),
  ⟨OpOk.p (ok_lald (by decide +kernel : decode code 1290 = .ok (.laload, 1))),
  ⟨OpOk.p (ok_iload (by decide +kernel : decode code 1291 = .ok (.iload 7, 2))),
  ⟨OpOk.p (ok_i2l (by decide +kernel : decode code 1293 = .ok (.i2l, 1))),
  ⟨OpOk.p (ok_lcmp (by decide +kernel : decode code 1294 = .ok (.lcmp, 1))),
  ⟨OpOk.p (ok_ifeq (by decide) (by decide +kernel : decode code 1295 = .ok (.ifCond .eq 5, 3))),
  ⟨OpOk.p (ok_iconst (by decide) (by decide +kernel : decode code 1298 = .ok (.iconst 0, 1))),
  ⟨OpOk.p (ok_zret rfl (by decide +kernel : decode code 1299 = .ok (.ireturn, 1))), trivial⟩⟩⟩⟩⟩⟩⟩⟩⟩⟩⟩
def b_law_1300 (g : GG) (z : Scr) : Blk := [(3, o_goto 2528)]
set_option maxRecDepth 8000 in
theorem okb_law_1300 (g : GG) (l : Launch) (hst : l.stackTraces = false) (z : Scr) : BlkOkP (m_law g l) (PS z) 1300 (b_law_1300 g z) := 
  ⟨OpOk.p (ok_goto (by decide) (by decide +kernel : decode code 1300 = .ok (.goto 1228, 3))), trivial⟩
def k_law_c16 (g : GG) (z : Scr) : List (Nat × Blk) := [(1235, b_law_1235 g z), (1252, b_law_1252 g z), (1270, b_law_1270 g z), (1276, b_law_1276 g z), (1283, b_law_1283 g z), (1300, b_law_1300 g z)]
theorem okl_law_c16 (g : GG) (l : Launch) (hst : l.stackTraces = false) (z : Scr) : ∀ b ∈ k_law_c16 g z, BlkOkP (m_law g l) (PS z) b.1 b.2 := List.forall_mem_cons.mpr ⟨okb_law_1235 g l hst z, List.forall_mem_cons.mpr ⟨okb_law_1252 g l hst z, List.forall_mem_cons.mpr ⟨okb_law_1270 g l hst z, List.forall_mem_cons.mpr ⟨okb_law_1276 g l hst z, List.forall_mem_cons.mpr ⟨okb_law_1283 g l hst z, List.forall_mem_cons.mpr ⟨okb_law_1300 g l hst z, fun _ h => by cases h⟩⟩⟩⟩⟩⟩
def b_law_1303 (g : GG) (z : Scr) : Blk := [(1, o_aload 1), (1, o_aload 0), (2, o_iload 5), (1, o_push (.int 1)), (1, o_iadd), (1, o_sld z), (1, o_aload 0), (2, o_iload 5), (1, o_push (.int 2)), (1, o_iadd), (1, o_sld z), (1, o_aload 0), (2, o_iload 5), (1, o_push (.int 3)), (1, o_iadd), (1, o_sld z), (1, o_aload 0), (2, o_iload 5), (1, o_push (.int 4)), (1, o_iadd), (1, o_sld z), (1, o_aload 3), (3, o_callX (T_La_open g) 6 11 1860)]
set_option maxRecDepth 8000 in
theorem okb_law_1303 (g : GG) (l : Launch) (hst : l.stackTraces = false) (z : Scr) : BlkOkP (m_law g l) (PS z) 1303 (b_law_1303 g z) := 
  ⟨OpOk.p (ok_aload_n (by decide +kernel : decode code 1303 = .ok (.aload_n 1, 1)) rfl),
  ⟨OpOk.p (ok_aload_n (by decide +kernel : decode code 1304 = .ok (.aload_n 0, 1)) rfl),
  ⟨OpOk.p (ok_iload (by decide +kernel : decode code 1305 = .ok (.iload 5, 2))),
  ⟨OpOk.p (ok_iconst (by decide) (by decide +kernel : decode code 1307 = .ok (.iconst 1, 1))),
  ⟨OpOk.p (ok_iadd (by decide +kernel : decode code 1308 = .ok (.iadd, 1))),
  ⟨ok_sld (by decide +kernel : decode code 1309 = .ok (.iaload, 1)),
  ⟨OpOk.p (ok_aload_n (by decide +kernel : decode code 1310 = .ok (.aload_n 0, 1)) rfl),
  ⟨OpOk.p (ok_iload (by decide +kernel : decode code 1311 = .ok (.iload 5, 2))),
  ⟨OpOk.p (ok_iconst (by decide) (by decide +kernel : decode code 1313 = .ok (.iconst 2, 1))),
  ⟨OpOk.p (ok_iadd (by decide +kernel : decode code 1314 = .ok (.iadd, 1))),
  ⟨ok_sld (by decide +kernel : decode code 1315 = .ok (.iaload, 1)),
  ⟨OpOk.p (ok_aload_n (by decide +kernel : decode code 1316 = .ok (.aload_n 0, 1)) rfl),
  ⟨OpOk.p (ok_iload (by decide +kernel : decode code 1317 = .ok (.iload 5, 2))),
  ⟨OpOk.p (ok_iconst (by decide) (by decide +kernel : decode code 1319 = .ok (.iconst 3, 1))),
  ⟨OpOk.p (ok_iadd (by decide +kernel : decode code 1320 = .ok (.iadd, 1))),
  ⟨ok_sld (by decide +kernel : decode code 1321 = .ok (.iaload, 1)),
  ⟨OpOk.p (ok_aload_n (by decide +kernel : decode code 1322 = .ok (.aload_n 0, 1)) rfl),
  ⟨OpOk.p (ok_iload (by decide +kernel : decode code 1323 = .ok (.iload 5, 2))),
  ⟨OpOk.p (ok_iconst (by decide) (by decide +kernel : decode code 1325 = .ok (.iconst 4, 1))),
  ⟨OpOk.p (ok_iadd (by decide +kernel : decode code 1326 = .ok (.iadd, 1))),
  ⟨ok_sld (by decide +kernel : decode code 1327 = .ok (.iaload, 1)),
  ⟨OpOk.p (ok_aload_n (by decide +kernel : decode code 1328 = .ok (.aload_n 3, 1)) rfl),
  ⟨OpOk.p (ok_callSH (k := 6) (s_La_open g l hst) (show 12 < 100 from by decide) (Nat.le_of_ble_eq_true rfl) rfl tw_918 tw_919 tw_0 tw_920 ⟨by decide, by decide, by decide⟩ (by decide +kernel : decode code 1329 = .ok (.invokestatic 197, 3))), trivial⟩⟩⟩⟩⟩⟩⟩⟩⟩⟩⟩⟩⟩⟩⟩⟩⟩⟩⟩⟩⟩⟩⟩
def b_law_1332 (g : GG) (z : Scr) : Blk := [(2, o_istore 6), (1, o_aload 2), (1, o_aload 0), (2, o_iload 5), (1, o_push (.int 1)), (1, o_iadd), (1, o_sld z), (1, o_aload 0), (2, o_iload 5), (1, o_push (.int 2)), (1, o_iadd), (1, o_sld z), (1, o_aload 0), (2, o_iload 5), (1, o_push (.int 3)), (1, o_iadd), (1, o_sld z), (1, o_aload 0), (2, o_iload 5), (1, o_push (.int 4)), (1, o_iadd), (1, o_sld z), (3, o_callR (o_call0 T_Mo_open 5) 10 5)]
set_option maxRecDepth 8000 in
theorem okb_law_1332 (g : GG) (l : Launch) (hst : l.stackTraces = false) (z : Scr) : BlkOkP (m_law g l) (PS z) 1332 (b_law_1332 g z) := 
  ⟨OpOk.p (ok_istore (Nat.le_of_ble_eq_true rfl) (by decide +kernel : decode code 1332 = .ok (.istore 6, 2))),
  ⟨OpOk.p (ok_aload_n (by decide +kernel : decode code 1334 = .ok (.aload_n 2, 1)) rfl),
  ⟨OpOk.p (ok_aload_n (by decide +kernel : decode code 1335 = .ok (.aload_n 0, 1)) rfl),
  ⟨OpOk.p (ok_iload (by decide +kernel : decode code 1336 = .ok (.iload 5, 2))),
  ⟨OpOk.p (ok_iconst (by decide) (by decide +kernel : decode code 1338 = .ok (.iconst 1, 1))),
  ⟨OpOk.p (ok_iadd (by decide +kernel : decode code 1339 = .ok (.iadd, 1))),
  ⟨ok_sld (by decide +kernel : decode code 1340 = .ok (.iaload, 1)),
  ⟨OpOk.p (ok_aload_n (by decide +kernel : decode code 1341 = .ok (.aload_n 0, 1)) rfl),
  ⟨OpOk.p (ok_iload (by decide +kernel : decode code 1342 = .ok (.iload 5, 2))),
  ⟨OpOk.p (ok_iconst (by decide) (by decide +kernel : decode code 1344 = .ok (.iconst 2, 1))),
  ⟨OpOk.p (ok_iadd (by decide +kernel : decode code 1345 = .ok (.iadd, 1))),
  ⟨ok_sld (by decide +kernel : decode code 1346 = .ok (.iaload, 1)),
  ⟨OpOk.p (ok_aload_n (by decide +kernel : decode code 1347 = .ok (.aload_n 0, 1)) rfl),
  ⟨OpOk.p (ok_iload (by decide +kernel : decode code 1348 = .ok (.iload 5, 2))),
  ⟨OpOk.p (ok_iconst (by decide) (by decide +kernel : decode code 1350 = .ok (.iconst 3, 1))),
  ⟨OpOk.p (ok_iadd (by decide +kernel : decode code 1351 = .ok (.iadd, 1))),
  ⟨ok_sld (by decide +kernel : decode code 1352 = .ok (.iaload, 1)),
  ⟨OpOk.p (ok_aload_n (by decide +kernel : decode code 1353 = .ok (.aload_n 0, 1)) rfl),
  ⟨OpOk.p (ok_iload (by decide +kernel : decode code 1354 = .ok (.iload 5, 2))),
  ⟨OpOk.p (ok_iconst (by decide) (by decide +kernel : decode code 1356 = .ok (.iconst 4, 1))),
  ⟨OpOk.p (ok_iadd (by decide +kernel : decode code 1357 = .ok (.iadd, 1))),
  ⟨ok_sld (by decide +kernel : decode code 1358 = .ok (.iaload, 1)),
  ⟨OpOk.p (OpOk.mono (M := m_law g l) (pc := 1359) (ok_callV (k := 4) cls_10 (s_Mo_open g l hst) (show 6 < 100 from by decide) (Nat.le_of_ble_eq_true rfl) rfl rfl tw_1618 tw_1619 tw_1620 tw_9 tw_1621 ⟨by decide, by decide, by decide⟩ (by decide +kernel : decode code 1359 = .ok (.invokevirtual 199, 3))) callR0_of), trivial⟩⟩⟩⟩⟩⟩⟩⟩⟩⟩⟩⟩⟩⟩⟩⟩⟩⟩⟩⟩⟩⟩⟩
def b_law_1362 (g : GG) (z : Scr) : Blk := [(2, o_istore 7), (1, o_aload 2), (3, o_callR (o_call0 T_Mo_thrown 1) 10 1)]
set_option maxRecDepth 8000 in
theorem okb_law_1362 (g : GG) (l : Launch) (hst : l.stackTraces = false) (z : Scr) : BlkOkP (m_law g l) (PS z) 1362 (b_law_1362 g z) := 
  ⟨OpOk.p (ok_istore (Nat.le_of_ble_eq_true rfl) (by decide +kernel : decode code 1362 = .ok (.istore 7, 2))),
  ⟨OpOk.p (ok_aload_n (by decide +kernel : decode code 1364 = .ok (.aload_n 2, 1)) rfl),
  ⟨OpOk.p (OpOk.mono (M := m_law g l) (pc := 1365) (ok_callV (k := 0) cls_10 (s_Mo_thrown g l hst) (show 1 < 100 from by decide) (Nat.le_of_ble_eq_true rfl) rfl rfl tw_1416 tw_1417 tw_1418 tw_9 tw_1419 ⟨by decide, by decide, by decide⟩ (by decide +kernel : decode code 1365 = .ok (.invokevirtual 139, 3))) callR0_of), trivial⟩⟩⟩
def b_law_1368 (g : GG) (z : Scr) : Blk := [(2, o_iload 6), (3, o_iceq 1375), (1, o_push (.int 0)), (1, o_zret)]
set_option maxRecDepth 8000 in
theorem okb_law_1368 (g : GG) (l : Launch) (hst : l.stackTraces = false) (z : Scr) : BlkOkP (m_law g l) (PS z) 1368 (b_law_1368 g z) := 
  ⟨OpOk.p (ok_iload (by decide +kernel : decode code 1368 = .ok (.iload 6, 2))),
  ⟨OpOk.p (ok_iceq (by decide) (by decide +kernel : decode code 1370 = .ok (.if_icmp .eq 5, 3))),
  ⟨OpOk.p (ok_iconst (by decide) (by decide +kernel : decode code 1373 = .ok (.iconst 0, 1))),
  ⟨OpOk.p (ok_zret rfl (by decide +kernel : decode code 1374 = .ok (.ireturn, 1))), trivial⟩⟩⟩⟩
def b_law_1375 (g : GG) (z : Scr) : Blk := [(2, o_iload 6), (3, o_ifne 1392), (1, o_aload 3), (1, o_push (.int 0)), (1, o_lald), (2, o_iload 7), (1, o_i2l), (1, o_lcmp), (3, o_ifeq 1392), (1, o_push (.int 0)), (1, o_zret)]
set_option maxRecDepth 8000 in
theorem okb_law_1375 (g : GG) (l : Launch) (hst : l.stackTraces = false) (z : Scr) : BlkOkP (m_law g l) (PS z) 1375 (b_law_1375 g z) := 
  ⟨OpOk.p (ok_iload (by decide +kernel : decode code 1375 = .ok (.iload 6, 2))),
  ⟨OpOk.p (ok_ifne (by decide) (by decide +kernel : decode code 1377 = .ok (.ifCond .ne 15, 3))),
  ⟨OpOk.p (ok_aload_n (by decide +kernel : decode code 1380 = .ok (.aload_n 3, 1)) rfl),
  ⟨OpOk.p (ok_iconst (by decide) (by decide +kernel : decode code 1381 = .ok (.iconst 0, 1))),
  ⟨OpOk.p (ok_lald (by decide +kernel : decode code 1382 = .ok (.laload, 1))),
  ⟨OpOk.p (ok_iload (by decide +kernel : decode code 1383 = .ok (.iload 7, 2))),
  ⟨OpOk.p (ok_i2l (by decide +kernel : decode code 1385 = .ok (.i2l, 1))),
  ⟨OpOk.p (ok_lcmp (by decide +kernel : decode code 1386 = .ok (.lcmp, 1))),
  ⟨OpOk.p (ok_ifeq (by decide) (by decide +kernel : decode code 1387 = .ok (.ifCond .eq 5, 3))),
  ⟨OpOk.p (ok_iconst (by decide) (by decide +kernel : decode code 1390 = .ok (.iconst 0, 1))),
  ⟨OpOk.p (ok_zret rfl (by decide +kernel : decode code 1391 = .ok (.ireturn, 1))), trivial⟩⟩⟩⟩⟩⟩⟩⟩⟩⟩⟩
def b_law_1392 (g : GG) (z : Scr) : Blk := [(3, o_goto 2528)]
set_option maxRecDepth 8000 in
theorem okb_law_1392 (g : GG) (l : Launch) (hst : l.stackTraces = false) (z : Scr) : BlkOkP (m_law g l) (PS z) 1392 (b_law_1392 g z) := 
  ⟨OpOk.p (ok_goto (by decide) (by decide +kernel : decode code 1392 = .ok (.goto 1136, 3))), trivial⟩
def k_law_c17 (g : GG) (z : Scr) : List (Nat × Blk) := [(1303, b_law_1303 g z), (1332, b_law_1332 g z), (1362, b_law_1362 g z), (1368, b_law_1368 g z), (1375, b_law_1375 g z), (1392, b_law_1392 g z)]
theorem okl_law_c17 (g : GG) (l : Launch) (hst : l.stackTraces = false) (z : Scr) : ∀ b ∈ k_law_c17 g z, BlkOkP (m_law g l) (PS z) b.1 b.2 := List.forall_mem_cons.mpr ⟨okb_law_1303 g l hst z, List.forall_mem_cons.mpr ⟨okb_law_1332 g l hst z, List.forall_mem_cons.mpr ⟨okb_law_1362 g l hst z, List.forall_mem_cons.mpr ⟨okb_law_1368 g l hst z, List.forall_mem_cons.mpr ⟨okb_law_1375 g l hst z, List.forall_mem_cons.mpr ⟨okb_law_1392 g l hst z, fun _ h => by cases h⟩⟩⟩⟩⟩⟩
def b_law_1395 (g : GG) (z : Scr) : Blk := [(1, o_aload 1), (1, o_aload 0), (2, o_iload 5), (1, o_push (.int 1)), (1, o_iadd), (1, o_sld z), (1, o_aload 3), (3, o_callX (T_La_read g) 3 1 6)]
set_option maxRecDepth 8000 in
theorem okb_law_1395 (g : GG) (l : Launch) (hst : l.stackTraces = false) (z : Scr) : BlkOkP (m_law g l) (PS z) 1395 (b_law_1395 g z) := 
  ⟨OpOk.p (ok_aload_n (by decide +kernel : decode code 1395 = .ok (.aload_n 1, 1)) rfl),
  ⟨OpOk.p (ok_aload_n (by decide +kernel : decode code 1396 = .ok (.aload_n 0, 1)) rfl),
  ⟨OpOk.p (ok_iload (by decide +kernel : decode code 1397 = .ok (.iload 5, 2))),
  ⟨OpOk.p (ok_iconst (by decide) (by decide +kernel : decode code 1399 = .ok (.iconst 1, 1))),
  ⟨OpOk.p (ok_iadd (by decide +kernel : decode code 1400 = .ok (.iadd, 1))),
  ⟨ok_sld (by decide +kernel : decode code 1401 = .ok (.iaload, 1)),
  ⟨OpOk.p (ok_aload_n (by decide +kernel : decode code 1402 = .ok (.aload_n 3, 1)) rfl),
  ⟨OpOk.p (ok_callSH (k := 3) (s_La_read g l hst) (show 12 < 100 from by decide) (Nat.le_of_ble_eq_true rfl) rfl tw_1023 tw_1024 tw_0 tw_1025 ⟨by decide, by decide, by decide⟩ (by decide +kernel : decode code 1403 = .ok (.invokestatic 200, 3))), trivial⟩⟩⟩⟩⟩⟩⟩⟩
def b_law_1406 (g : GG) (z : Scr) : Blk := [(2, o_istore 6), (1, o_aload 2), (1, o_aload 0), (2, o_iload 5), (1, o_push (.int 1)), (1, o_iadd), (1, o_sld z), (3, o_callR (o_call0 T_Mo_read 2) 10 2)]
set_option maxRecDepth 8000 in
theorem okb_law_1406 (g : GG) (l : Launch) (hst : l.stackTraces = false) (z : Scr) : BlkOkP (m_law g l) (PS z) 1406 (b_law_1406 g z) := 
  ⟨OpOk.p (ok_istore (Nat.le_of_ble_eq_true rfl) (by decide +kernel : decode code 1406 = .ok (.istore 6, 2))),
  ⟨OpOk.p (ok_aload_n (by decide +kernel : decode code 1408 = .ok (.aload_n 2, 1)) rfl),
  ⟨OpOk.p (ok_aload_n (by decide +kernel : decode code 1409 = .ok (.aload_n 0, 1)) rfl),
  ⟨OpOk.p (ok_iload (by decide +kernel : decode code 1410 = .ok (.iload 5, 2))),
  ⟨OpOk.p (ok_iconst (by decide) (by decide +kernel : decode code 1412 = .ok (.iconst 1, 1))),
  ⟨OpOk.p (ok_iadd (by decide +kernel : decode code 1413 = .ok (.iadd, 1))),
  ⟨ok_sld (by decide +kernel : decode code 1414 = .ok (.iaload, 1)),
  ⟨OpOk.p (OpOk.mono (M := m_law g l) (pc := 1415) (ok_callV (k := 1) cls_10 (s_Mo_read g l hst) (show 40 < 100 from by decide) (Nat.le_of_ble_eq_true rfl) rfl rfl tw_1633 tw_1634 tw_1635 tw_9 tw_1636 ⟨by decide, by decide, by decide⟩ (by decide +kernel : decode code 1415 = .ok (.invokevirtual 202, 3))) callR0_of), trivial⟩⟩⟩⟩⟩⟩⟩⟩
def b_law_1418 (g : GG) (z : Scr) : Blk := [(2, o_istore 7), (1, o_aload 2), (3, o_callR (o_call0 T_Mo_thrown 1) 10 1)]
set_option maxRecDepth 8000 in
theorem okb_law_1418 (g : GG) (l : Launch) (hst : l.stackTraces = false) (z : Scr) : BlkOkP (m_law g l) (PS z) 1418 (b_law_1418 g z) := 
  ⟨OpOk.p (ok_istore (Nat.le_of_ble_eq_true rfl) (by decide +kernel : decode code 1418 = .ok (.istore 7, 2))),
  ⟨OpOk.p (ok_aload_n (by decide +kernel : decode code 1420 = .ok (.aload_n 2, 1)) rfl),
  ⟨OpOk.p (OpOk.mono (M := m_law g l) (pc := 1421) (ok_callV (k := 0) cls_10 (s_Mo_thrown g l hst) (show 1 < 100 from by decide) (Nat.le_of_ble_eq_true rfl) rfl rfl tw_1416 tw_1417 tw_1418 tw_9 tw_1419 ⟨by decide, by decide, by decide⟩ (by decide +kernel : decode code 1421 = .ok (.invokevirtual 139, 3))) callR0_of), trivial⟩⟩⟩
def b_law_1424 (g : GG) (z : Scr) : Blk := [(2, o_iload 6), (3, o_iceq 1431), (1, o_push (.int 0)), (1, o_zret)]
set_option maxRecDepth 8000 in
theorem okb_law_1424 (g : GG) (l : Launch) (hst : l.stackTraces = false) (z : Scr) : BlkOkP (m_law g l) (PS z) 1424 (b_law_1424 g z) := 
  ⟨OpOk.p (ok_iload (by decide +kernel : decode code 1424 = .ok (.iload 6, 2))),
  ⟨OpOk.p (ok_iceq (by decide) (by decide +kernel : decode code 1426 = .ok (.if_icmp .eq 5, 3))),
  ⟨OpOk.p (ok_iconst (by decide) (by decide +kernel : decode code 1429 = .ok (.iconst 0, 1))),
  ⟨OpOk.p (ok_zret rfl (by decide +kernel : decode code 1430 = .ok (.ireturn, 1))), trivial⟩⟩⟩⟩
def b_law_1431 (g : GG) (z : Scr) : Blk := [(2, o_iload 6), (3, o_ifne 1448), (1, o_aload 3), (1, o_push (.int 0)), (1, o_lald), (2, o_iload 7), (1, o_i2l), (1, o_lcmp), (3, o_ifeq 1448), (1, o_push (.int 0)), (1, o_zret)]
set_option maxRecDepth 8000 in
theorem okb_law_1431 (g : GG) (l : Launch) (hst : l.stackTraces = false) (z : Scr) : BlkOkP (m_law g l) (PS z) 1431 (b_law_1431 g z) := 
  ⟨OpOk.p (ok_iload (by decide +kernel : decode code 1431 = .ok (.iload 6, 2))),
  ⟨OpOk.p (ok_ifne (by decide) (by decide +kernel : decode code 1433 = .ok (.ifCond .ne 15, 3))),
  ⟨OpOk.p (ok_aload_n (by decide +kernel : decode code 1436 = .ok (.aload_n 3, 1)) rfl),
  ⟨OpOk.p (ok_iconst (by decide) (by decide +kernel : decode code 1437 = .ok (.iconst 0, 1))),
  ⟨OpOk.p (ok_lald (by decide +kernel : decode code 1438 = .ok (.laload, 1))),
  ⟨OpOk.p (ok_iload (by decide +kernel : decode code 1439 = .ok (.iload 7, 2))),
  ⟨OpOk.p (ok_i2l (by decide +kernel : decode code 1441 = .ok (.i2l, 1))),
  ⟨OpOk.p (ok_lcmp (by decide +kernel : decode code 1442 = .ok (.lcmp, 1))),
  ⟨OpOk.p (ok_ifeq (by decide) (by decide +kernel : decode code 1443 = .ok (.ifCond .eq 5, 3))),
  ⟨OpOk.p (ok_iconst (by decide) (by decide +kernel : decode code 1446 = .ok (.iconst 0, 1))),
  ⟨OpOk.p (ok_zret rfl (by decide +kernel : decode code 1447 = .ok (.ireturn, 1))), trivial⟩⟩⟩⟩⟩⟩⟩⟩⟩⟩⟩
def b_law_1448 (g : GG) (z : Scr) : Blk := [(3, o_goto 2528)]
set_option maxRecDepth 8000 in
theorem okb_law_1448 (g : GG) (l : Launch) (hst : l.stackTraces = false) (z : Scr) : BlkOkP (m_law g l) (PS z) 1448 (b_law_1448 g z) := 
  ⟨OpOk.p (ok_goto (by decide) (by decide +kernel : decode code 1448 = .ok (.goto 1080, 3))), trivial⟩
def k_law_c18 (g : GG) (z : Scr) : List (Nat × Blk) := [(1395, b_law_1395 g z), (1406, b_law_1406 g z), (1418, b_law_1418 g z), (1424, b_law_1424 g z), (1431, b_law_1431 g z), (1448, b_law_1448 g z)]
theorem okl_law_c18 (g : GG) (l : Launch) (hst : l.stackTraces = false) (z : Scr) : ∀ b ∈ k_law_c18 g z, BlkOkP (m_law g l) (PS z) b.1 b.2 := List.forall_mem_cons.mpr ⟨okb_law_1395 g l hst z, List.forall_mem_cons.mpr ⟨okb_law_1406 g l hst z, List.forall_mem_cons.mpr ⟨okb_law_1418 g l hst z, List.forall_mem_cons.mpr ⟨okb_law_1424 g l hst z, List.forall_mem_cons.mpr ⟨okb_law_1431 g l hst z, List.forall_mem_cons.mpr ⟨okb_law_1448 g l hst z, fun _ h => by cases h⟩⟩⟩⟩⟩⟩

