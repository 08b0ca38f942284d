-- deps: c8.lawb0
def b_law_1981 (g : GG) (z : Scr) : Blk := [(1, o_aload 1), (1, o_aload 0), (2, o_iload 5), (1, o_push (.int 1)), (1, o_iadd), (1, o_sld z), (1, o_aload 0), (2, o_iload 5), (1, o_push (.int 2)), (1, o_iadd), (1, o_sld z), (1, o_aload 0), (2, o_iload 5), (1, o_push (.int 3)), (1, o_iadd), (1, o_sld z), (3, o_ifeq 2007), (1, o_push (.int 1)), (3, o_goto 2008)]
set_option maxRecDepth 8000 in
theorem okb_law_1981 (g : GG) (l : Launch) (hst : l.stackTraces = false) (z : Scr) : BlkOkP (m_law g l) (PS z) 1981 (b_law_1981 g z) := 
  ⟨OpOk.p (ok_aload_n (by decide +kernel : decode code 1981 = .ok (.aload_n 1, 1)) rfl),
  ⟨OpOk.p (ok_aload_n (by decide +kernel : decode code 1982 = .ok (.aload_n 0, 1)) rfl),
  ⟨OpOk.p (ok_iload (by decide +kernel : decode code 1983 = .ok (.iload 5, 2))),
  ⟨OpOk.p (ok_iconst (by decide) (by decide +kernel : decode code 1985 = .ok (.iconst 1, 1))),
  ⟨OpOk.p (ok_iadd (by decide +kernel : decode code 1986 = .ok (.iadd, 1))),
  ⟨ok_sld (by decide +kernel : decode code 1987 = .ok (.iaload, 1)),
  ⟨OpOk.p (ok_aload_n (by decide +kernel : decode code 1988 = .ok (.aload_n 0, 1)) rfl),
  ⟨OpOk.p (ok_iload (by decide +kernel : decode code 1989 = .ok (.iload 5, 2))),
  ⟨OpOk.p (ok_iconst (by decide) (by decide +kernel : decode code 1991 = .ok (.iconst 2, 1))),
  ⟨OpOk.p (ok_iadd (by decide +kernel : decode code 1992 = .ok (.iadd, 1))),
  ⟨ok_sld (by decide +kernel : decode code 1993 = .ok (.iaload, 1)),
  ⟨OpOk.p (ok_aload_n (by decide +kernel : decode code 1994 = .ok (.aload_n 0, 1)) rfl),
  ⟨OpOk.p (ok_iload (by decide +kernel : decode code 1995 = .ok (.iload 5, 2))),
  ⟨OpOk.p (ok_iconst (by decide) (by decide +kernel : decode code 1997 = .ok (.iconst 3, 1))),
  ⟨OpOk.p (ok_iadd (by decide +kernel : decode code 1998 = .ok (.iadd, 1))),
  ⟨ok_sld (by decide +kernel : decode code 1999 = .ok (.iaload, 1)),
  ⟨OpOk.p (ok_ifeq (by decide) (by decide +kernel : decode code 2000 = .ok (.ifCond .eq 7, 3))),
  ⟨OpOk.p (ok_iconst (by decide) (by decide +kernel : decode code 2003 = .ok (.iconst 1, 1))),
  ⟨OpOk.p (ok_goto (by decide) (by decide +kernel : decode code 2004 = .ok (.goto 4, 3))), trivial⟩⟩⟩⟩⟩⟩⟩⟩⟩⟩⟩⟩⟩⟩⟩⟩⟩⟩⟩
def b_law_2007 (g : GG) (z : Scr) : Blk := [(1, o_push (.int 0))]
set_option maxRecDepth 8000 in
theorem okb_law_2007 (g : GG) (l : Launch) (hst : l.stackTraces = false) (z : Scr) : BlkOkP (m_law g l) (PS z) 2007 (b_law_2007 g z) := 
  ⟨OpOk.p (ok_iconst (by decide) (by decide +kernel : decode code 2007 = .ok (.iconst 0, 1))), trivial⟩
def b_law_2008 (g : GG) (z : Scr) : Blk := [(1, o_aload 3), (3, o_callX (T_La_edge g) 5 4 24)]
set_option maxRecDepth 8000 in
theorem okb_law_2008 (g : GG) (l : Launch) (hst : l.stackTraces = false) (z : Scr) : BlkOkP (m_law g l) (PS z) 2008 (b_law_2008 g z) := 
  ⟨OpOk.p (ok_aload_n (by decide +kernel : decode code 2008 = .ok (.aload_n 3, 1)) rfl),
  ⟨OpOk.p (ok_callSH (k := 5) (s_La_edge g l hst) (show 12 < 100 from by decide) (Nat.le_of_ble_eq_true rfl) rfl tw_1149 tw_1150 tw_0 tw_1151 ⟨by decide, by decide, by decide⟩ (by decide +kernel : decode code 2009 = .ok (.invokestatic 236, 3))), trivial⟩⟩
def b_law_2012 (g : GG) (z : Scr) : Blk := [(2, o_istore 6), (1, o_aload 2), (1, o_aload 0), (2, o_iload 5), (1, o_push (.int 1)), (1, o_iadd), (1, o_sld z), (1, o_aload 0), (2, o_iload 5), (1, o_push (.int 2)), (1, o_iadd), (1, o_sld z), (1, o_aload 0), (2, o_iload 5), (1, o_push (.int 3)), (1, o_iadd), (1, o_sld z), (3, o_ifeq 2040), (1, o_push (.int 1)), (3, o_goto 2041)]
set_option maxRecDepth 8000 in
theorem okb_law_2012 (g : GG) (l : Launch) (hst : l.stackTraces = false) (z : Scr) : BlkOkP (m_law g l) (PS z) 2012 (b_law_2012 g z) := 
  ⟨OpOk.p (ok_istore (Nat.le_of_ble_eq_true rfl) (by decide +kernel : decode code 2012 = .ok (.istore 6, 2))),
  ⟨OpOk.p (ok_aload_n (by decide +kernel : decode code 2014 = .ok (.aload_n 2, 1)) rfl),
  ⟨OpOk.p (ok_aload_n (by decide +kernel : decode code 2015 = .ok (.aload_n 0, 1)) rfl),
  ⟨OpOk.p (ok_iload (by decide +kernel : decode code 2016 = .ok (.iload 5, 2))),
  ⟨OpOk.p (ok_iconst (by decide) (by decide +kernel : decode code 2018 = .ok (.iconst 1, 1))),
  ⟨OpOk.p (ok_iadd (by decide +kernel : decode code 2019 = .ok (.iadd, 1))),
  ⟨ok_sld (by decide +kernel : decode code 2020 = .ok (.iaload, 1)),
  ⟨OpOk.p (ok_aload_n (by decide +kernel : decode code 2021 = .ok (.aload_n 0, 1)) rfl),
  ⟨OpOk.p (ok_iload (by decide +kernel : decode code 2022 = .ok (.iload 5, 2))),
  ⟨OpOk.p (ok_iconst (by decide) (by decide +kernel : decode code 2024 = .ok (.iconst 2, 1))),
  ⟨OpOk.p (ok_iadd (by decide +kernel : decode code 2025 = .ok (.iadd, 1))),
  ⟨ok_sld (by decide +kernel : decode code 2026 = .ok (.iaload, 1)),
  ⟨OpOk.p (ok_aload_n (by decide +kernel : decode code 2027 = .ok (.aload_n 0, 1)) rfl),
  ⟨OpOk.p (ok_iload (by decide +kernel : decode code 2028 = .ok (.iload 5, 2))),
  ⟨OpOk.p (ok_iconst (by decide) (by decide +kernel : decode code 2030 = .ok (.iconst 3, 1))),
  ⟨OpOk.p (ok_iadd (by decide +kernel : decode code 2031 = .ok (.iadd, 1))),
  ⟨ok_sld (by decide +kernel : decode code 2032 = .ok (.iaload, 1)),
  ⟨OpOk.p (ok_ifeq (by decide) (by decide +kernel : decode code 2033 = .ok (.ifCond .eq 7, 3))),
  ⟨OpOk.p (ok_iconst (by decide) (by decide +kernel : decode code 2036 = .ok (.iconst 1, 1))),
  ⟨OpOk.p (ok_goto (by decide) (by decide +kernel : decode code 2037 = .ok (.goto 4, 3))), trivial⟩⟩⟩⟩⟩⟩⟩⟩⟩⟩⟩⟩⟩⟩⟩⟩⟩⟩⟩⟩
def b_law_2040 (g : GG) (z : Scr) : Blk := [(1, o_push (.int 0))]
set_option maxRecDepth 8000 in
theorem okb_law_2040 (g : GG) (l : Launch) (hst : l.stackTraces = false) (z : Scr) : BlkOkP (m_law g l) (PS z) 2040 (b_law_2040 g z) := 
  ⟨OpOk.p (ok_iconst (by decide) (by decide +kernel : decode code 2040 = .ok (.iconst 0, 1))), trivial⟩
def b_law_2041 (g : GG) (z : Scr) : Blk := [(3, o_callR (o_call0 T_Mo_edge 4) 10 4)]
set_option maxRecDepth 8000 in
theorem okb_law_2041 (g : GG) (l : Launch) (hst : l.stackTraces = false) (z : Scr) : BlkOkP (m_law g l) (PS z) 2041 (b_law_2041 g z) := 
  ⟨OpOk.p (OpOk.mono (M := m_law g l) (pc := 2041) (ok_callV (k := 3) cls_10 (s_Mo_edge g l hst) (show 8 < 100 from by decide) (Nat.le_of_ble_eq_true rfl) rfl rfl tw_1720 tw_1721 tw_1722 tw_9 tw_1723 ⟨by decide, by decide, by decide⟩ (by decide +kernel : decode code 2041 = .ok (.invokevirtual 239, 3))) callR0_of), trivial⟩
def b_law_2044 (g : GG) (z : Scr) : Blk := [(2, o_istore 7), (1, o_aload 2), (3, o_callR (o_call0 T_Mo_thrown 1) 10 1)]
set_option maxRecDepth 8000 in
theorem okb_law_2044 (g : GG) (l : Launch) (hst : l.stackTraces = false) (z : Scr) : BlkOkP (m_law g l) (PS z) 2044 (b_law_2044 g z) := 
  ⟨OpOk.p (ok_istore (Nat.le_of_ble_eq_true rfl) (by decide +kernel : decode code 2044 = .ok (.istore 7, 2))),
  ⟨OpOk.p (ok_aload_n (by decide +kernel : decode code 2046 = .ok (.aload_n 2, 1)) rfl),
  ⟨OpOk.p (OpOk.mono (M := m_law g l) (pc := 2047) (ok_callV (k := 0) cls_10 (s_Mo_thrown g l hst) (show 1 < 100 from by decide) (Nat.le_of_ble_eq_true rfl) rfl rfl tw_1416 tw_1417 tw_1418 tw_9 tw_1419 ⟨by decide, by decide, by decide⟩ (by decide +kernel : decode code 2047 = .ok (.invokevirtual 139, 3))) callR0_of), trivial⟩⟩⟩
def b_law_2050 (g : GG) (z : Scr) : Blk := [(2, o_iload 6), (3, o_iceq 2057), (1, o_push (.int 0)), (1, o_zret)]
set_option maxRecDepth 8000 in
theorem okb_law_2050 (g : GG) (l : Launch) (hst : l.stackTraces = false) (z : Scr) : BlkOkP (m_law g l) (PS z) 2050 (b_law_2050 g z) := 
  ⟨OpOk.p (ok_iload (by decide +kernel : decode code 2050 = .ok (.iload 6, 2))),
  ⟨OpOk.p (ok_iceq (by decide) (by decide +kernel : decode code 2052 = .ok (.if_icmp .eq 5, 3))),
  ⟨OpOk.p (ok_iconst (by decide) (by decide +kernel : decode code 2055 = .ok (.iconst 0, 1))),
  ⟨OpOk.p (ok_zret rfl (by decide +kernel : decode code 2056 = .ok (.ireturn, 1))), trivial⟩⟩⟩⟩
def b_law_2057 (g : GG) (z : Scr) : Blk := [(2, o_iload 6), (3, o_ifne 2074), (1, o_aload 3), (1, o_push (.int 0)), (1, o_lald), (2, o_iload 7), (1, o_i2l), (1, o_lcmp), (3, o_ifeq 2074), (1, o_push (.int 0)), (1, o_zret)]
set_option maxRecDepth 8000 in
theorem okb_law_2057 (g : GG) (l : Launch) (hst : l.stackTraces = false) (z : Scr) : BlkOkP (m_law g l) (PS z) 2057 (b_law_2057 g z) := 
  ⟨OpOk.p (ok_iload (by decide +kernel : decode code 2057 = .ok (.iload 6, 2))),
  ⟨OpOk.p (ok_ifne (by decide) (by decide +kernel : decode code 2059 = .ok (.ifCond .ne 15, 3))),
  ⟨OpOk.p (ok_aload_n (by decide +kernel : decode code 2062 = .ok (.aload_n 3, 1)) rfl),
  ⟨OpOk.p (ok_iconst (by decide) (by decide +kernel : decode code 2063 = .ok (.iconst 0, 1))),
  ⟨OpOk.p (ok_lald (by decide +kernel : decode code 2064 = .ok (.laload, 1))),
  ⟨OpOk.p (ok_iload (by decide +kernel : decode code 2065 = .ok (.iload 7, 2))),
  ⟨OpOk.p (ok_i2l (by decide +kernel : decode code 2067 = .ok (.i2l, 1))),
  ⟨OpOk.p (ok_lcmp (by decide +kernel : decode code 2068 = .ok (.lcmp, 1))),
  ⟨OpOk.p (ok_ifeq (by decide) (by decide +kernel : decode code 2069 = .ok (.ifCond .eq 5, 3))),
  ⟨OpOk.p (ok_iconst (by decide) (by decide +kernel : decode code 2072 = .ok (.iconst 0, 1))),
  ⟨OpOk.p (ok_zret rfl (by decide +kernel : decode code 2073 = .ok (.ireturn, 1))), trivial⟩⟩⟩⟩⟩⟩⟩⟩⟩⟩⟩
def b_law_2074 (g : GG) (z : Scr) : Blk := [(3, o_goto 2528)]
set_option maxRecDepth 8000 in
theorem okb_law_2074 (g : GG) (l : Launch) (hst : l.stackTraces = false) (z : Scr) : BlkOkP (m_law g l) (PS z) 2074 (b_law_2074 g z) := 
  ⟨OpOk.p (ok_goto (by decide) (by decide +kernel : decode code 2074 = .ok (.goto 454, 3))), trivial⟩
def k_law_c29 (g : GG) (z : Scr) : List (Nat × Blk) := [(1981, b_law_1981 g z), (2007, b_law_2007 g z), (2008, b_law_2008 g z), (2012, b_law_2012 g z), (2040, b_law_2040 g z), (2041, b_law_2041 g z), (2044, b_law_2044 g z), (2050, b_law_2050 g z), (2057, b_law_2057 g z), (2074, b_law_2074 g z)]
theorem okl_law_c29 (g : GG) (l : Launch) (hst : l.stackTraces = false) (z : Scr) : ∀ b ∈ k_law_c29 g z, BlkOkP (m_law g l) (PS z) b.1 b.2 := List.forall_mem_cons.mpr ⟨okb_law_1981 g l hst z, List.forall_mem_cons.mpr ⟨okb_law_2007 g l hst z, List.forall_mem_cons.mpr ⟨okb_law_2008 g l hst z, List.forall_mem_cons.mpr ⟨okb_law_2012 g l hst z, List.forall_mem_cons.mpr ⟨okb_law_2040 g l hst z, List.forall_mem_cons.mpr ⟨okb_law_2041 g l hst z, List.forall_mem_cons.mpr ⟨okb_law_2044 g l hst z, List.forall_mem_cons.mpr ⟨okb_law_2050 g l hst z, List.forall_mem_cons.mpr ⟨okb_law_2057 g l hst z, List.forall_mem_cons.mpr ⟨okb_law_2074 g l hst z, fun _ h => by cases h⟩⟩⟩⟩⟩⟩⟩⟩⟩⟩
def b_law_2077 (g : GG) (z : Scr) : Blk := [(1, o_aload 1), (1, o_aload 0), (2, o_iload 5), (1, o_push (.int 1)), (1, o_iadd), (1, o_sld z), (1, o_aload 3), (3, o_callX (T_La_isKept g) 3 1 6)]
set_option maxRecDepth 8000 in
theorem okb_law_2077 (g : GG) (l : Launch) (hst : l.stackTraces = false) (z : Scr) : BlkOkP (m_law g l) (PS z) 2077 (b_law_2077 g z) := 
  ⟨OpOk.p (ok_aload_n (by decide +kernel : decode code 2077 = .ok (.aload_n 1, 1)) rfl),
  ⟨OpOk.p (ok_aload_n (by decide +kernel : decode code 2078 = .ok (.aload_n 0, 1)) rfl),
  ⟨OpOk.p (ok_iload (by decide +kernel : decode code 2079 = .ok (.iload 5, 2))),
  ⟨OpOk.p (ok_iconst (by decide) (by decide +kernel : decode code 2081 = .ok (.iconst 1, 1))),
  ⟨OpOk.p (ok_iadd (by decide +kernel : decode code 2082 = .ok (.iadd, 1))),
  ⟨ok_sld (by decide +kernel : decode code 2083 = .ok (.iaload, 1)),
  ⟨OpOk.p (ok_aload_n (by decide +kernel : decode code 2084 = .ok (.aload_n 3, 1)) rfl),
  ⟨OpOk.p (ok_callSH (k := 3) (s_La_isKept g l hst) (show 12 < 100 from by decide) (Nat.le_of_ble_eq_true rfl) rfl tw_1172 tw_1173 tw_0 tw_1174 ⟨by decide, by decide, by decide⟩ (by decide +kernel : decode code 2085 = .ok (.invokestatic 240, 3))), trivial⟩⟩⟩⟩⟩⟩⟩⟩
def b_law_2088 (g : GG) (z : Scr) : Blk := [(2, o_istore 6), (1, o_aload 2), (1, o_aload 0), (2, o_iload 5), (1, o_push (.int 1)), (1, o_iadd), (1, o_sld z), (3, o_callR (o_call0 T_Mo_isKept 2) 10 2)]
set_option maxRecDepth 8000 in
theorem okb_law_2088 (g : GG) (l : Launch) (hst : l.stackTraces = false) (z : Scr) : BlkOkP (m_law g l) (PS z) 2088 (b_law_2088 g z) := 
  ⟨OpOk.p (ok_istore (Nat.le_of_ble_eq_true rfl) (by decide +kernel : decode code 2088 = .ok (.istore 6, 2))),
  ⟨OpOk.p (ok_aload_n (by decide +kernel : decode code 2090 = .ok (.aload_n 2, 1)) rfl),
  ⟨OpOk.p (ok_aload_n (by decide +kernel : decode code 2091 = .ok (.aload_n 0, 1)) rfl),
  ⟨OpOk.p (ok_iload (by decide +kernel : decode code 2092 = .ok (.iload 5, 2))),
  ⟨OpOk.p (ok_iconst (by decide) (by decide +kernel : decode code 2094 = .ok (.iconst 1, 1))),
  ⟨OpOk.p (ok_iadd (by decide +kernel : decode code 2095 = .ok (.iadd, 1))),
  ⟨ok_sld (by decide +kernel : decode code 2096 = .ok (.iaload, 1)),
  ⟨OpOk.p (OpOk.mono (M := m_law g l) (pc := 2097) (ok_callV (k := 1) cls_10 (s_Mo_isKept g l hst) (show 4 < 100 from by decide) (Nat.le_of_ble_eq_true rfl) rfl rfl tw_1724 tw_1725 tw_1726 tw_9 tw_1727 ⟨by decide, by decide, by decide⟩ (by decide +kernel : decode code 2097 = .ok (.invokevirtual 242, 3))) callR0_of), trivial⟩⟩⟩⟩⟩⟩⟩⟩
def b_law_2100 (g : GG) (z : Scr) : Blk := [(2, o_istore 7), (1, o_aload 2), (3, o_callR (o_call0 T_Mo_thrown 1) 10 1)]
set_option maxRecDepth 8000 in
theorem okb_law_2100 (g : GG) (l : Launch) (hst : l.stackTraces = false) (z : Scr) : BlkOkP (m_law g l) (PS z) 2100 (b_law_2100 g z) := 
  ⟨OpOk.p (ok_istore (Nat.le_of_ble_eq_true rfl) (by decide +kernel : decode code 2100 = .ok (.istore 7, 2))),
  ⟨OpOk.p (ok_aload_n (by decide +kernel : decode code 2102 = .ok (.aload_n 2, 1)) rfl),
  ⟨OpOk.p (OpOk.mono (M := m_law g l) (pc := 2103) (ok_callV (k := 0) cls_10 (s_Mo_thrown g l hst) (show 1 < 100 from by decide) (Nat.le_of_ble_eq_true rfl) rfl rfl tw_1416 tw_1417 tw_1418 tw_9 tw_1419 ⟨by decide, by decide, by decide⟩ (by decide +kernel : decode code 2103 = .ok (.invokevirtual 139, 3))) callR0_of), trivial⟩⟩⟩
def b_law_2106 (g : GG) (z : Scr) : Blk := [(2, o_iload 6), (3, o_iceq 2113), (1, o_push (.int 0)), (1, o_zret)]
set_option maxRecDepth 8000 in
theorem okb_law_2106 (g : GG) (l : Launch) (hst : l.stackTraces = false) (z : Scr) : BlkOkP (m_law g l) (PS z) 2106 (b_law_2106 g z) := 
  ⟨OpOk.p (ok_iload (by decide +kernel : decode code 2106 = .ok (.iload 6, 2))),
  ⟨OpOk.p (ok_iceq (by decide) (by decide +kernel : decode code 2108 = .ok (.if_icmp .eq 5, 3))),
  ⟨OpOk.p (ok_iconst (by decide) (by decide +kernel : decode code 2111 = .ok (.iconst 0, 1))),
  ⟨OpOk.p (ok_zret rfl (by decide +kernel : decode code 2112 = .ok (.ireturn, 1))), trivial⟩⟩⟩⟩
def b_law_2113 (g : GG) (z : Scr) : Blk := [(2, o_iload 6), (3, o_ifne 2137), (1, o_aload 3), (1, o_push (.int 0)), (1, o_lald), (2, o_iload 7), (3, o_ifeq 2130), (1, o_push (.long 1)), (3, o_goto 2131)]
set_option maxRecDepth 8000 in
theorem okb_law_2113 (g : GG) (l : Launch) (hst : l.stackTraces = false) (z : Scr) : BlkOkP (m_law g l) (PS z) 2113 (b_law_2113 g z) := 
  ⟨OpOk.p (ok_iload (by decide +kernel : decode code 2113 = .ok (.iload 6, 2))),
  ⟨OpOk.p (ok_ifne (by decide) (by decide +kernel : decode code 2115 = .ok (.ifCond .ne 22, 3))),
  ⟨OpOk.p (ok_aload_n (by decide +kernel : decode code 2118 = .ok (.aload_n 3, 1)) rfl),
  ⟨OpOk.p (ok_iconst (by decide) (by decide +kernel : decode code 2119 = .ok (.iconst 0, 1))),
  ⟨OpOk.p (ok_lald (by decide +kernel : decode code 2120 = .ok (.laload, 1))),
  ⟨OpOk.p (ok_iload (by decide +kernel : decode code 2121 = .ok (.iload 7, 2))),
  ⟨OpOk.p (ok_ifeq (by decide) (by decide +kernel : decode code 2123 = .ok (.ifCond .eq 7, 3))),
  ⟨OpOk.p (ok_lconst (by decide) (by decide +kernel : decode code 2126 = .ok (.lconst 1, 1))),
  ⟨OpOk.p (ok_goto (by decide) (by decide +kernel : decode code 2127 = .ok (.goto 4, 3))), trivial⟩⟩⟩⟩⟩⟩⟩⟩⟩
def b_law_2130 (g : GG) (z : Scr) : Blk := [(1, o_push (.long 0))]
set_option maxRecDepth 8000 in
theorem okb_law_2130 (g : GG) (l : Launch) (hst : l.stackTraces = false) (z : Scr) : BlkOkP (m_law g l) (PS z) 2130 (b_law_2130 g z) := 
  ⟨OpOk.p (ok_lconst (by decide) (by decide +kernel : decode code 2130 = .ok (.lconst 0, 1))), trivial⟩
def b_law_2131 (g : GG) (z : Scr) : Blk := [(1, o_lcmp), (3, o_ifeq 2137), (1, o_push (.int 0)), (1, o_zret)]
set_option maxRecDepth 8000 in
theorem okb_law_2131 (g : GG) (l : Launch) (hst : l.stackTraces = false) (z : Scr) : BlkOkP (m_law g l) (PS z) 2131 (b_law_2131 g z) := 
  ⟨OpOk.p (ok_lcmp (by decide +kernel : decode code 2131 = .ok (.lcmp, 1))),
  ⟨OpOk.p (ok_ifeq (by decide) (by decide +kernel : decode code 2132 = .ok (.ifCond .eq 5, 3))),
  ⟨OpOk.p (ok_iconst (by decide) (by decide +kernel : decode code 2135 = .ok (.iconst 0, 1))),
  ⟨OpOk.p (ok_zret rfl (by decide +kernel : decode code 2136 = .ok (.ireturn, 1))), trivial⟩⟩⟩⟩
def b_law_2137 (g : GG) (z : Scr) : Blk := [(3, o_goto 2528)]
set_option maxRecDepth 8000 in
theorem okb_law_2137 (g : GG) (l : Launch) (hst : l.stackTraces = false) (z : Scr) : BlkOkP (m_law g l) (PS z) 2137 (b_law_2137 g z) := 
  ⟨OpOk.p (ok_goto (by decide) (by decide +kernel : decode code 2137 = .ok (.goto 391, 3))), trivial⟩
def k_law_c30 (g : GG) (z : Scr) : List (Nat × Blk) := [(2077, b_law_2077 g z), (2088, b_law_2088 g z), (2100, b_law_2100 g z), (2106, b_law_2106 g z), (2113, b_law_2113 g z), (2130, b_law_2130 g z), (2131, b_law_2131 g z), (2137, b_law_2137 g z)]
theorem okl_law_c30 (g : GG) (l : Launch) (hst : l.stackTraces = false) (z : Scr) : ∀ b ∈ k_law_c30 g z, BlkOkP (m_law g l) (PS z) b.1 b.2 := List.forall_mem_cons.mpr ⟨okb_law_2077 g l hst z, List.forall_mem_cons.mpr ⟨okb_law_2088 g l hst z, List.forall_mem_cons.mpr ⟨okb_law_2100 g l hst z, List.forall_mem_cons.mpr ⟨okb_law_2106 g l hst z, List.forall_mem_cons.mpr ⟨okb_law_2113 g l hst z, List.forall_mem_cons.mpr ⟨okb_law_2130 g l hst z, List.forall_mem_cons.mpr ⟨okb_law_2131 g l hst z, List.forall_mem_cons.mpr ⟨okb_law_2137 g l hst z, fun _ h => by cases h⟩⟩⟩⟩⟩⟩⟩⟩
def b_law_2140 (g : GG) (z : Scr) : Blk := [(1, o_aload 1), (1, o_aload 0), (2, o_iload 5), (1, o_push (.int 1)), (1, o_iadd), (1, o_sld z), (1, o_aload 0), (2, o_iload 5), (1, o_push (.int 2)), (1, o_iadd), (1, o_sld z), (1, o_aload 0), (2, o_iload 5), (1, o_push (.int 3)), (1, o_iadd), (1, o_sld z), (1, o_aload 3), (3, o_callX (T_La_keptFor g) 5 1 6)]
set_option maxRecDepth 8000 in
theorem okb_law_2140 (g : GG) (l : Launch) (hst : l.stackTraces = false) (z : Scr) : BlkOkP (m_law g l) (PS z) 2140 (b_law_2140 g z) := 
  ⟨OpOk.p (ok_aload_n (by decide +kernel : decode code 2140 = .ok (.aload_n 1, 1)) rfl),
  ⟨OpOk.p (ok_aload_n (by decide +kernel : decode code 2141 = .ok (.aload_n 0, 1)) rfl),
  ⟨OpOk.p (ok_iload (by decide +kernel : decode code 2142 = .ok (.iload 5, 2))),
  ⟨OpOk.p (ok_iconst (by decide) (by decide +kernel : decode code 2144 = .ok (.iconst 1, 1))),
  ⟨OpOk.p (ok_iadd (by decide +kernel : decode code 2145 = .ok (.iadd, 1))),
  ⟨ok_sld (by decide +kernel : decode code 2146 = .ok (.iaload, 1)),
  ⟨OpOk.p (ok_aload_n (by decide +kernel : decode code 2147 = .ok (.aload_n 0, 1)) rfl),
  ⟨OpOk.p (ok_iload (by decide +kernel : decode code 2148 = .ok (.iload 5, 2))),
  ⟨OpOk.p (ok_iconst (by decide) (by decide +kernel : decode code 2150 = .ok (.iconst 2, 1))),
  ⟨OpOk.p (ok_iadd (by decide +kernel : decode code 2151 = .ok (.iadd, 1))),
  ⟨ok_sld (by decide +kernel : decode code 2152 = .ok (.iaload, 1)),
  ⟨OpOk.p (ok_aload_n (by decide +kernel : decode code 2153 = .ok (.aload_n 0, 1)) rfl),
  ⟨OpOk.p (ok_iload (by decide +kernel : decode code 2154 = .ok (.iload 5, 2))),
  ⟨OpOk.p (ok_iconst (by decide) (by decide +kernel : decode code 2156 = .ok (.iconst 3, 1))),
  ⟨OpOk.p (ok_iadd (by decide +kernel : decode code 2157 = .ok (.iadd, 1))),
  ⟨ok_sld (by decide +kernel : decode code 2158 = .ok (.iaload, 1)),
  ⟨OpOk.p (ok_aload_n (by decide +kernel : decode code 2159 = .ok (.aload_n 3, 1)) rfl),
  ⟨OpOk.p (ok_callSH (k := 5) (s_La_keptFor g l hst) (show 12 < 100 from by decide) (Nat.le_of_ble_eq_true rfl) rfl tw_1179 tw_1180 tw_0 tw_1181 ⟨by decide, by decide, by decide⟩ (by decide +kernel : decode code 2160 = .ok (.invokestatic 243, 3))), trivial⟩⟩⟩⟩⟩⟩⟩⟩⟩⟩⟩⟩⟩⟩⟩⟩⟩⟩
def b_law_2163 (g : GG) (z : Scr) : Blk := [(2, o_istore 6), (1, o_aload 2), (1, o_aload 0), (2, o_iload 5), (1, o_push (.int 1)), (1, o_iadd), (1, o_sld z), (1, o_aload 0), (2, o_iload 5), (1, o_push (.int 2)), (1, o_iadd), (1, o_sld z), (1, o_aload 0), (2, o_iload 5), (1, o_push (.int 3)), (1, o_iadd), (1, o_sld z), (3, o_callR (o_call0 T_Mo_keptFor 4) 10 4)]
set_option maxRecDepth 8000 in
theorem okb_law_2163 (g : GG) (l : Launch) (hst : l.stackTraces = false) (z : Scr) : BlkOkP (m_law g l) (PS z) 2163 (b_law_2163 g z) := 
  ⟨OpOk.p (ok_istore (Nat.le_of_ble_eq_true rfl) (by decide +kernel : decode code 2163 = .ok (.istore 6, 2))),
  ⟨OpOk.p (ok_aload_n (by decide +kernel : decode code 2165 = .ok (.aload_n 2, 1)) rfl),
  ⟨OpOk.p (ok_aload_n (by decide +kernel : decode code 2166 = .ok (.aload_n 0, 1)) rfl),
  ⟨OpOk.p (ok_iload (by decide +kernel : decode code 2167 = .ok (.iload 5, 2))),
  ⟨OpOk.p (ok_iconst (by decide) (by decide +kernel : decode code 2169 = .ok (.iconst 1, 1))),
  ⟨OpOk.p (ok_iadd (by decide +kernel : decode code 2170 = .ok (.iadd, 1))),
  ⟨ok_sld (by decide +kernel : decode code 2171 = .ok (.iaload, 1)),
  ⟨OpOk.p (ok_aload_n (by decide +kernel : decode code 2172 = .ok (.aload_n 0, 1)) rfl),
  ⟨OpOk.p (ok_iload (by decide +kernel : decode code 2173 = .ok (.iload 5, 2))),
  ⟨OpOk.p (ok_iconst (by decide) (by decide +kernel : decode code 2175 = .ok (.iconst 2, 1))),
  ⟨OpOk.p (ok_iadd (by decide +kernel : decode code 2176 = .ok (.iadd, 1))),
  ⟨ok_sld (by decide +kernel : decode code 2177 = .ok (.iaload, 1)),
  ⟨OpOk.p (ok_aload_n (by decide +kernel : decode code 2178 = .ok (.aload_n 0, 1)) rfl),
  ⟨OpOk.p (ok_iload (by decide +kernel : decode code 2179 = .ok (.iload 5, 2))),
  ⟨OpOk.p (ok_iconst (by decide) (by decide +kernel : decode code 2181 = .ok (.iconst 3, 1))),
  ⟨OpOk.p (ok_iadd (by decide +kernel : decode code 2182 = .ok (.iadd, 1))),
  ⟨ok_sld (by decide +kernel : decode code 2183 = .ok (.iaload, 1)),
  ⟨OpOk.p (OpOk.mono (M := m_law g l) (pc := 2184) (ok_callV (k := 3) cls_10 (s_Mo_keptFor g l hst) (show 4 < 100 from by decide) (Nat.le_of_ble_eq_true rfl) rfl rfl tw_1732 tw_1733 tw_1734 tw_9 tw_1735 ⟨by decide, by decide, by decide⟩ (by decide +kernel : decode code 2184 = .ok (.invokevirtual 245, 3))) callR0_of), trivial⟩⟩⟩⟩⟩⟩⟩⟩⟩⟩⟩⟩⟩⟩⟩⟩⟩⟩
def b_law_2187 (g : GG) (z : Scr) : Blk := [(2, o_istore 7), (1, o_aload 2), (3, o_callR (o_call0 T_Mo_thrown 1) 10 1)]
set_option maxRecDepth 8000 in
theorem okb_law_2187 (g : GG) (l : Launch) (hst : l.stackTraces = false) (z : Scr) : BlkOkP (m_law g l) (PS z) 2187 (b_law_2187 g z) := 
  ⟨OpOk.p (ok_istore (Nat.le_of_ble_eq_true rfl) (by decide +kernel : decode code 2187 = .ok (.istore 7, 2))),
  ⟨OpOk.p (ok_aload_n (by decide +kernel : decode code 2189 = .ok (.aload_n 2, 1)) rfl),
  ⟨OpOk.p (OpOk.mono (M := m_law g l) (pc := 2190) (ok_callV (k := 0) cls_10 (s_Mo_thrown g l hst) (show 1 < 100 from by decide) (Nat.le_of_ble_eq_true rfl) rfl rfl tw_1416 tw_1417 tw_1418 tw_9 tw_1419 ⟨by decide, by decide, by decide⟩ (by decide +kernel : decode code 2190 = .ok (.invokevirtual 139, 3))) callR0_of), trivial⟩⟩⟩
def b_law_2193 (g : GG) (z : Scr) : Blk := [(2, o_iload 6), (3, o_iceq 2200), (1, o_push (.int 0)), (1, o_zret)]
set_option maxRecDepth 8000 in
theorem okb_law_2193 (g : GG) (l : Launch) (hst : l.stackTraces = false) (z : Scr) : BlkOkP (m_law g l) (PS z) 2193 (b_law_2193 g z) := 
  ⟨OpOk.p (ok_iload (by decide +kernel : decode code 2193 = .ok (.iload 6, 2))),
  ⟨OpOk.p (ok_iceq (by decide) (by decide +kernel : decode code 2195 = .ok (.if_icmp .eq 5, 3))),
  ⟨OpOk.p (ok_iconst (by decide) (by decide +kernel : decode code 2198 = .ok (.iconst 0, 1))),
  ⟨OpOk.p (ok_zret rfl (by decide +kernel : decode code 2199 = .ok (.ireturn, 1))), trivial⟩⟩⟩⟩
def b_law_2200 (g : GG) (z : Scr) : Blk := [(2, o_iload 6), (3, o_ifne 2217), (1, o_aload 3), (1, o_push (.int 0)), (1, o_lald), (2, o_iload 7), (1, o_i2l), (1, o_lcmp), (3, o_ifeq 2217), (1, o_push (.int 0)), (1, o_zret)]
set_option maxRecDepth 8000 in
theorem okb_law_2200 (g : GG) (l : Launch) (hst : l.stackTraces = false) (z : Scr) : BlkOkP (m_law g l) (PS z) 2200 (b_law_2200 g z) := 
  ⟨OpOk.p (ok_iload (by decide +kernel : decode code 2200 = .ok (.iload 6, 2))),
  ⟨OpOk.p (ok_ifne (by decide) (by decide +kernel : decode code 2202 = .ok (.ifCond .ne 15, 3))),
  ⟨OpOk.p (ok_aload_n (by decide +kernel : decode code 2205 = .ok (.aload_n 3, 1)) rfl),
  ⟨OpOk.p (ok_iconst (by decide) (by decide +kernel : decode code 2206 = .ok (.iconst 0, 1))),
  ⟨OpOk.p (ok_lald (by decide +kernel : decode code 2207 = .ok (.laload, 1))),
  ⟨OpOk.p (ok_iload (by decide +kernel : decode code 2208 = .ok (.iload 7, 2))),
  ⟨OpOk.p (ok_i2l (by decide +kernel : decode code 2210 = .ok (.i2l, 1))),
  ⟨OpOk.p (ok_lcmp (by decide +kernel : decode code 2211 = .ok (.lcmp, 1))),
  ⟨OpOk.p (ok_ifeq (by decide) (by decide +kernel : decode code 2212 = .ok (.ifCond .eq 5, 3))),
  ⟨OpOk.p (ok_iconst (by decide) (by decide +kernel : decode code 2215 = .ok (.iconst 0, 1))),
  ⟨OpOk.p (ok_zret rfl (by decide +kernel : decode code 2216 = .ok (.ireturn, 1))), trivial⟩⟩⟩⟩⟩⟩⟩⟩⟩⟩⟩
def b_law_2217 (g : GG) (z : Scr) : Blk := [(3, o_goto 2528)]
set_option maxRecDepth 8000 in
theorem okb_law_2217 (g : GG) (l : Launch) (hst : l.stackTraces = false) (z : Scr) : BlkOkP (m_law g l) (PS z) 2217 (b_law_2217 g z) := 
  ⟨OpOk.p (ok_goto (by decide) (by decide +kernel : decode code 2217 = .ok (.goto 311, 3))), trivial⟩
def k_law_c31 (g : GG) (z : Scr) : List (Nat × Blk) := [(2140, b_law_2140 g z), (2163, b_law_2163 g z), (2187, b_law_2187 g z), (2193, b_law_2193 g z), (2200, b_law_2200 g z), (2217, b_law_2217 g z)]
theorem okl_law_c31 (g : GG) (l : Launch) (hst : l.stackTraces = false) (z : Scr) : ∀ b ∈ k_law_c31 g z, BlkOkP (m_law g l) (PS z) b.1 b.2 := List.forall_mem_cons.mpr ⟨okb_law_2140 g l hst z, List.forall_mem_cons.mpr ⟨okb_law_2163 g l hst z, List.forall_mem_cons.mpr ⟨okb_law_2187 g l hst z, List.forall_mem_cons.mpr ⟨okb_law_2193 g l hst z, List.forall_mem_cons.mpr ⟨okb_law_2200 g l hst z, List.forall_mem_cons.mpr ⟨okb_law_2217 g l hst z, fun _ h => by cases h⟩⟩⟩⟩⟩⟩
def b_law_2220 (g : GG) (z : Scr) : Blk := [(1, o_aload 1), (1, o_aload 0), (2, o_iload 5), (1, o_push (.int 1)), (1, o_iadd), (1, o_sld z), (1, o_aload 0), (2, o_iload 5), (1, o_push (.int 2)), (1, o_iadd), (1, o_sld z), (1, o_aload 3), (3, o_callX (T_La_sum g) 4 2 12)]
set_option maxRecDepth 8000 in
theorem okb_law_2220 (g : GG) (l : Launch) (hst : l.stackTraces = false) (z : Scr) : BlkOkP (m_law g l) (PS z) 2220 (b_law_2220 g z) := 
  ⟨OpOk.p (ok_aload_n (by decide +kernel : decode code 2220 = .ok (.aload_n 1, 1)) rfl),
  ⟨OpOk.p (ok_aload_n (by decide +kernel : decode code 2221 = .ok (.aload_n 0, 1)) rfl),
  ⟨OpOk.p (ok_iload (by decide +kernel : decode code 2222 = .ok (.iload 5, 2))),
  ⟨OpOk.p (ok_iconst (by decide) (by decide +kernel : decode code 2224 = .ok (.iconst 1, 1))),
  ⟨OpOk.p (ok_iadd (by decide +kernel : decode code 2225 = .ok (.iadd, 1))),
  ⟨ok_sld (by decide +kernel : decode code 2226 = .ok (.iaload, 1)),
  ⟨OpOk.p (ok_aload_n (by decide +kernel : decode code 2227 = .ok (.aload_n 0, 1)) rfl),
  ⟨OpOk.p (ok_iload (by decide +kernel : decode code 2228 = .ok (.iload 5, 2))),
  ⟨OpOk.p (ok_iconst (by decide) (by decide +kernel : decode code 2230 = .ok (.iconst 2, 1))),
  ⟨OpOk.p (ok_iadd (by decide +kernel : decode code 2231 = .ok (.iadd, 1))),
  ⟨ok_sld (by decide +kernel : decode code 2232 = .ok (.iaload, 1)),
  ⟨OpOk.p (ok_aload_n (by decide +kernel : decode code 2233 = .ok (.aload_n 3, 1)) rfl),
  ⟨OpOk.p (ok_callSH (k := 4) (s_La_sum g l hst) (show 12 < 100 from by decide) (Nat.le_of_ble_eq_true rfl) rfl tw_1186 tw_1187 tw_0 tw_1188 ⟨by decide, by decide, by decide⟩ (by decide +kernel : decode code 2234 = .ok (.invokestatic 246, 3))), trivial⟩⟩⟩⟩⟩⟩⟩⟩⟩⟩⟩⟩⟩
def b_law_2237 (g : GG) (z : Scr) : Blk := [(2, o_istore 6), (1, o_aload 2), (1, o_aload 0), (2, o_iload 5), (1, o_push (.int 1)), (1, o_iadd), (1, o_sld z), (1, o_aload 0), (2, o_iload 5), (1, o_push (.int 2)), (1, o_iadd), (1, o_sld z), (3, o_callR (o_call0 T_Mo_sum 3) 10 3)]
set_option maxRecDepth 8000 in
theorem okb_law_2237 (g : GG) (l : Launch) (hst : l.stackTraces = false) (z : Scr) : BlkOkP (m_law g l) (PS z) 2237 (b_law_2237 g z) := 
  ⟨OpOk.p (ok_istore (Nat.le_of_ble_eq_true rfl) (by decide +kernel : decode code 2237 = .ok (.istore 6, 2))),
  ⟨OpOk.p (ok_aload_n (by decide +kernel : decode code 2239 = .ok (.aload_n 2, 1)) rfl),
  ⟨OpOk.p (ok_aload_n (by decide +kernel : decode code 2240 = .ok (.aload_n 0, 1)) rfl),
  ⟨OpOk.p (ok_iload (by decide +kernel : decode code 2241 = .ok (.iload 5, 2))),
  ⟨OpOk.p (ok_iconst (by decide) (by decide +kernel : decode code 2243 = .ok (.iconst 1, 1))),
  ⟨OpOk.p (ok_iadd (by decide +kernel : decode code 2244 = .ok (.iadd, 1))),
  ⟨ok_sld (by decide +kernel : decode code 2245 = .ok (.iaload, 1)),
  ⟨OpOk.p (ok_aload_n (by decide +kernel : decode code 2246 = .ok (.aload_n 0, 1)) rfl),
  ⟨OpOk.p (ok_iload (by decide +kernel : decode code 2247 = .ok (.iload 5, 2))),
  ⟨OpOk.p (ok_iconst (by decide) (by decide +kernel : decode code 2249 = .ok (.iconst 2, 1))),
  ⟨OpOk.p (ok_iadd (by decide +kernel : decode code 2250 = .ok (.iadd, 1))),
  ⟨ok_sld (by decide +kernel : decode code 2251 = .ok (.iaload, 1)),
  ⟨OpOk.p (OpOk.mono (M := m_law g l) (pc := 2252) (ok_callV (k := 2) cls_10 (s_Mo_sum g l hst) (show 36 < 100 from by decide) (Nat.le_of_ble_eq_true rfl) rfl rfl tw_1736 tw_1737 tw_1738 tw_9 tw_1739 ⟨by decide, by decide, by decide⟩ (by decide +kernel : decode code 2252 = .ok (.invokevirtual 248, 3))) callR0_of), trivial⟩⟩⟩⟩⟩⟩⟩⟩⟩⟩⟩⟩⟩
def b_law_2255 (g : GG) (z : Scr) : Blk := [(2, o_istore 7), (1, o_aload 2), (3, o_callR (o_call0 T_Mo_thrown 1) 10 1)]
set_option maxRecDepth 8000 in
theorem okb_law_2255 (g : GG) (l : Launch) (hst : l.stackTraces = false) (z : Scr) : BlkOkP (m_law g l) (PS z) 2255 (b_law_2255 g z) := 
  ⟨OpOk.p (ok_istore (Nat.le_of_ble_eq_true rfl) (by decide +kernel : decode code 2255 = .ok (.istore 7, 2))),
  ⟨OpOk.p (ok_aload_n (by decide +kernel : decode code 2257 = .ok (.aload_n 2, 1)) rfl),
  ⟨OpOk.p (OpOk.mono (M := m_law g l) (pc := 2258) (ok_callV (k := 0) cls_10 (s_Mo_thrown g l hst) (show 1 < 100 from by decide) (Nat.le_of_ble_eq_true rfl) rfl rfl tw_1416 tw_1417 tw_1418 tw_9 tw_1419 ⟨by decide, by decide, by decide⟩ (by decide +kernel : decode code 2258 = .ok (.invokevirtual 139, 3))) callR0_of), trivial⟩⟩⟩
def b_law_2261 (g : GG) (z : Scr) : Blk := [(2, o_iload 6), (3, o_iceq 2268), (1, o_push (.int 0)), (1, o_zret)]
set_option maxRecDepth 8000 in
theorem okb_law_2261 (g : GG) (l : Launch) (hst : l.stackTraces = false) (z : Scr) : BlkOkP (m_law g l) (PS z) 2261 (b_law_2261 g z) := 
  ⟨OpOk.p (ok_iload (by decide +kernel : decode code 2261 = .ok (.iload 6, 2))),
  ⟨OpOk.p (ok_iceq (by decide) (by decide +kernel : decode code 2263 = .ok (.if_icmp .eq 5, 3))),
  ⟨OpOk.p (ok_iconst (by decide) (by decide +kernel : decode code 2266 = .ok (.iconst 0, 1))),
  ⟨OpOk.p (ok_zret rfl (by decide +kernel : decode code 2267 = .ok (.ireturn, 1))), trivial⟩⟩⟩⟩
def b_law_2268 (g : GG) (z : Scr) : Blk := [(2, o_iload 6), (3, o_ifne 2285), (1, o_aload 3), (1, o_push (.int 0)), (1, o_lald), (2, o_iload 7), (1, o_i2l), (1, o_lcmp), (3, o_ifeq 2285), (1, o_push (.int 0)), (1, o_zret)]
set_option maxRecDepth 8000 in
theorem okb_law_2268 (g : GG) (l : Launch) (hst : l.stackTraces = false) (z : Scr) : BlkOkP (m_law g l) (PS z) 2268 (b_law_2268 g z) := 
  ⟨OpOk.p (ok_iload (by decide +kernel : decode code 2268 = .ok (.iload 6, 2))),
  ⟨OpOk.p (ok_ifne (by decide) (by decide +kernel : decode code 2270 = .ok (.ifCond .ne 15, 3))),
  ⟨OpOk.p (ok_aload_n (by decide +kernel : decode code 2273 = .ok (.aload_n 3, 1)) rfl),
  ⟨OpOk.p (ok_iconst (by decide) (by decide +kernel : decode code 2274 = .ok (.iconst 0, 1))),
  ⟨OpOk.p (ok_lald (by decide +kernel : decode code 2275 = .ok (.laload, 1))),
  ⟨OpOk.p (ok_iload (by decide +kernel : decode code 2276 = .ok (.iload 7, 2))),
  ⟨OpOk.p (ok_i2l (by decide +kernel : decode code 2278 = .ok (.i2l, 1))),
  ⟨OpOk.p (ok_lcmp (by decide +kernel : decode code 2279 = .ok (.lcmp, 1))),
  ⟨OpOk.p (ok_ifeq (by decide) (by decide +kernel : decode code 2280 = .ok (.ifCond .eq 5, 3))),
  ⟨OpOk.p (ok_iconst (by decide) (by decide +kernel : decode code 2283 = .ok (.iconst 0, 1))),
  ⟨OpOk.p (ok_zret rfl (by decide +kernel : decode code 2284 = .ok (.ireturn, 1))), trivial⟩⟩⟩⟩⟩⟩⟩⟩⟩⟩⟩
def b_law_2285 (g : GG) (z : Scr) : Blk := [(3, o_goto 2528)]
set_option maxRecDepth 8000 in
theorem okb_law_2285 (g : GG) (l : Launch) (hst : l.stackTraces = false) (z : Scr) : BlkOkP (m_law g l) (PS z) 2285 (b_law_2285 g z) := 
  ⟨OpOk.p (ok_goto (by decide) (by decide +kernel : decode code 2285 = .ok (.goto 243, 3))), trivial⟩
def k_law_c32 (g : GG) (z : Scr) : List (Nat × Blk) := [(2220, b_law_2220 g z), (2237, b_law_2237 g z), (2255, b_law_2255 g z), (2261, b_law_2261 g z), (2268, b_law_2268 g z), (2285, b_law_2285 g z)]
theorem okl_law_c32 (g : GG) (l : Launch) (hst : l.stackTraces = false) (z : Scr) : ∀ b ∈ k_law_c32 g z, BlkOkP (m_law g l) (PS z) b.1 b.2 := List.forall_mem_cons.mpr ⟨okb_law_2220 g l hst z, List.forall_mem_cons.mpr ⟨okb_law_2237 g l hst z, List.forall_mem_cons.mpr ⟨okb_law_2255 g l hst z, List.forall_mem_cons.mpr ⟨okb_law_2261 g l hst z, List.forall_mem_cons.mpr ⟨okb_law_2268 g l hst z, List.forall_mem_cons.mpr ⟨okb_law_2285 g l hst z, fun _ h => by cases h⟩⟩⟩⟩⟩⟩
def b_law_2288 (g : GG) (z : Scr) : Blk := [(1, o_aload 1), (1, o_aload 0), (2, o_iload 5), (1, o_push (.int 1)), (1, o_iadd), (1, o_sld z), (1, o_aload 0), (2, o_iload 5), (1, o_push (.int 2)), (1, o_iadd), (1, o_sld z), (1, o_aload 0), (2, o_iload 5), (1, o_push (.int 3)), (1, o_iadd), (1, o_sld z), (3, o_ifeq 2314), (1, o_push (.int 1)), (3, o_goto 2315)]
set_option maxRecDepth 8000 in
theorem okb_law_2288 (g : GG) (l : Launch) (hst : l.stackTraces = false) (z : Scr) : BlkOkP (m_law g l) (PS z) 2288 (b_law_2288 g z) := 
  ⟨OpOk.p (ok_aload_n (by decide +kernel : decode code 2288 = .ok (.aload_n 1, 1)) rfl),
  ⟨OpOk.p (ok_aload_n (by decide +kernel : decode code 2289 = .ok (.aload_n 0, 1)) rfl),
  ⟨OpOk.p (ok_iload (by decide +kernel : decode code 2290 = .ok (.iload 5, 2))),
  ⟨OpOk.p (ok_iconst (by decide) (by decide +kernel : decode code 2292 = .ok (.iconst 1, 1))),
  ⟨OpOk.p (ok_iadd (by decide +kernel : decode code 2293 = .ok (.iadd, 1))),
  ⟨ok_sld (by decide +kernel : decode code 2294 = .ok (.iaload, 1)),
  ⟨OpOk.p (ok_aload_n (by decide +kernel : decode code 2295 = .ok (.aload_n 0, 1)) rfl),
  ⟨OpOk.p (ok_iload (by decide +kernel : decode code 2296 = .ok (.iload 5, 2))),
  ⟨OpOk.p (ok_iconst (by decide) (by decide +kernel : decode code 2298 = .ok (.iconst 2, 1))),
  ⟨OpOk.p (ok_iadd (by decide +kernel : decode code 2299 = .ok (.iadd, 1))),
  ⟨ok_sld (by decide +kernel : decode code 2300 = .ok (.iaload, 1)),
  ⟨OpOk.p (ok_aload_n (by decide +kernel : decode code 2301 = .ok (.aload_n 0, 1)) rfl),
  ⟨OpOk.p (ok_iload (by decide +kernel : decode code 2302 = .ok (.iload 5, 2))),
  ⟨OpOk.p (ok_iconst (by decide) (by decide +kernel : decode code 2304 = .ok (.iconst 3, 1))),
  ⟨OpOk.p (ok_iadd (by decide +kernel : decode code 2305 = .ok (.iadd, 1))),
  ⟨ok_sld (by decide +kernel : decode code 2306 = .ok (.iaload, 1)),
  ⟨OpOk.p (ok_ifeq (by decide) (by decide +kernel : decode code 2307 = .ok (.ifCond .eq 7, 3))),
  ⟨OpOk.p (ok_iconst (by decide) (by decide +kernel : decode code 2310 = .ok (.iconst 1, 1))),
  ⟨OpOk.p (ok_goto (by decide) (by decide +kernel : decode code 2311 = .ok (.goto 4, 3))), trivial⟩⟩⟩⟩⟩⟩⟩⟩⟩⟩⟩⟩⟩⟩⟩⟩⟩⟩⟩
def b_law_2314 (g : GG) (z : Scr) : Blk := [(1, o_push (.int 0))]
set_option maxRecDepth 8000 in
theorem okb_law_2314 (g : GG) (l : Launch) (hst : l.stackTraces = false) (z : Scr) : BlkOkP (m_law g l) (PS z) 2314 (b_law_2314 g z) := 
  ⟨OpOk.p (ok_iconst (by decide) (by decide +kernel : decode code 2314 = .ok (.iconst 0, 1))), trivial⟩
def b_law_2315 (g : GG) (z : Scr) : Blk := [(1, o_aload 3), (3, o_callX (T_La_bound g) 5 2 12)]
set_option maxRecDepth 8000 in
theorem okb_law_2315 (g : GG) (l : Launch) (hst : l.stackTraces = false) (z : Scr) : BlkOkP (m_law g l) (PS z) 2315 (b_law_2315 g z) := 
  ⟨OpOk.p (ok_aload_n (by decide +kernel : decode code 2315 = .ok (.aload_n 3, 1)) rfl),
  ⟨OpOk.p (ok_callSH (k := 5) (s_La_bound g l hst) (show 12 < 100 from by decide) (Nat.le_of_ble_eq_true rfl) rfl tw_1197 tw_1198 tw_0 tw_1199 ⟨by decide, by decide, by decide⟩ (by decide +kernel : decode code 2316 = .ok (.invokestatic 249, 3))), trivial⟩⟩
def b_law_2319 (g : GG) (z : Scr) : Blk := [(2, o_istore 6), (1, o_aload 2), (1, o_aload 0), (2, o_iload 5), (1, o_push (.int 1)), (1, o_iadd), (1, o_sld z), (1, o_aload 0), (2, o_iload 5), (1, o_push (.int 2)), (1, o_iadd), (1, o_sld z), (1, o_aload 0), (2, o_iload 5), (1, o_push (.int 3)), (1, o_iadd), (1, o_sld z), (3, o_ifeq 2347), (1, o_push (.int 1)), (3, o_goto 2348)]
set_option maxRecDepth 8000 in
theorem okb_law_2319 (g : GG) (l : Launch) (hst : l.stackTraces = false) (z : Scr) : BlkOkP (m_law g l) (PS z) 2319 (b_law_2319 g z) := 
  ⟨OpOk.p (ok_istore (Nat.le_of_ble_eq_true rfl) (by decide +kernel : decode code 2319 = .ok (.istore 6, 2))),
  ⟨OpOk.p (ok_aload_n (by decide +kernel : decode code 2321 = .ok (.aload_n 2, 1)) rfl),
  ⟨OpOk.p (ok_aload_n (by decide +kernel : decode code 2322 = .ok (.aload_n 0, 1)) rfl),
  ⟨OpOk.p (ok_iload (by decide +kernel : decode code 2323 = .ok (.iload 5, 2))),
  ⟨OpOk.p (ok_iconst (by decide) (by decide +kernel : decode code 2325 = .ok (.iconst 1, 1))),
  ⟨OpOk.p (ok_iadd (by decide +kernel : decode code 2326 = .ok (.iadd, 1))),
  ⟨ok_sld (by decide +kernel : decode code 2327 = .ok (.iaload, 1)),
  ⟨OpOk.p (ok_aload_n (by decide +kernel : decode code 2328 = .ok (.aload_n 0, 1)) rfl),
  ⟨OpOk.p (ok_iload (by decide +kernel : decode code 2329 = .ok (.iload 5, 2))),
  ⟨OpOk.p (ok_iconst (by decide) (by decide +kernel : decode code 2331 = .ok (.iconst 2, 1))),
  ⟨OpOk.p (ok_iadd (by decide +kernel : decode code 2332 = .ok (.iadd, 1))),
  ⟨ok_sld (by decide +kernel : decode code 2333 = .ok (.iaload, 1)),
  ⟨OpOk.p (ok_aload_n (by decide +kernel : decode code 2334 = .ok (.aload_n 0, 1)) rfl),
  ⟨OpOk.p (ok_iload (by decide +kernel : decode code 2335 = .ok (.iload 5, 2))),
  ⟨OpOk.p (ok_iconst (by decide) (by decide +kernel : decode code 2337 = .ok (.iconst 3, 1))),
  ⟨OpOk.p (ok_iadd (by decide +kernel : decode code 2338 = .ok (.iadd, 1))),
  ⟨ok_sld (by decide +kernel : decode code 2339 = .ok (.iaload, 1)),
  ⟨OpOk.p (ok_ifeq (by decide) (by decide +kernel : decode code 2340 = .ok (.ifCond .eq 7, 3))),
  ⟨OpOk.p (ok_iconst (by decide) (by decide +kernel : decode code 2343 = .ok (.iconst 1, 1))),
  ⟨OpOk.p (ok_goto (by decide) (by decide +kernel : decode code 2344 = .ok (.goto 4, 3))), trivial⟩⟩⟩⟩⟩⟩⟩⟩⟩⟩⟩⟩⟩⟩⟩⟩⟩⟩⟩⟩
def b_law_2347 (g : GG) (z : Scr) : Blk := [(1, o_push (.int 0))]
set_option maxRecDepth 8000 in
theorem okb_law_2347 (g : GG) (l : Launch) (hst : l.stackTraces = false) (z : Scr) : BlkOkP (m_law g l) (PS z) 2347 (b_law_2347 g z) := 
  ⟨OpOk.p (ok_iconst (by decide) (by decide +kernel : decode code 2347 = .ok (.iconst 0, 1))), trivial⟩
def b_law_2348 (g : GG) (z : Scr) : Blk := [(3, o_callR (o_call0 T_Mo_bound 4) 10 4)]
set_option maxRecDepth 8000 in
theorem okb_law_2348 (g : GG) (l : Launch) (hst : l.stackTraces = false) (z : Scr) : BlkOkP (m_law g l) (PS z) 2348 (b_law_2348 g z) := 
  ⟨OpOk.p (OpOk.mono (M := m_law g l) (pc := 2348) (ok_callV (k := 3) cls_10 (s_Mo_bound g l hst) (show 36 < 100 from by decide) (Nat.le_of_ble_eq_true rfl) rfl rfl tw_1744 tw_1745 tw_1746 tw_9 tw_1747 ⟨by decide, by decide, by decide⟩ (by decide +kernel : decode code 2348 = .ok (.invokevirtual 251, 3))) callR0_of), trivial⟩
def b_law_2351 (g : GG) (z : Scr) : Blk := [(2, o_istore 7), (1, o_aload 2), (3, o_callR (o_call0 T_Mo_thrown 1) 10 1)]
set_option maxRecDepth 8000 in
theorem okb_law_2351 (g : GG) (l : Launch) (hst : l.stackTraces = false) (z : Scr) : BlkOkP (m_law g l) (PS z) 2351 (b_law_2351 g z) := 
  ⟨OpOk.p (ok_istore (Nat.le_of_ble_eq_true rfl) (by decide +kernel : decode code 2351 = .ok (.istore 7, 2))),
  ⟨OpOk.p (ok_aload_n (by decide +kernel : decode code 2353 = .ok (.aload_n 2, 1)) rfl),
  ⟨OpOk.p (OpOk.mono (M := m_law g l) (pc := 2354) (ok_callV (k := 0) cls_10 (s_Mo_thrown g l hst) (show 1 < 100 from by decide) (Nat.le_of_ble_eq_true rfl) rfl rfl tw_1416 tw_1417 tw_1418 tw_9 tw_1419 ⟨by decide, by decide, by decide⟩ (by decide +kernel : decode code 2354 = .ok (.invokevirtual 139, 3))) callR0_of), trivial⟩⟩⟩
def b_law_2357 (g : GG) (z : Scr) : Blk := [(2, o_iload 6), (3, o_iceq 2364), (1, o_push (.int 0)), (1, o_zret)]
set_option maxRecDepth 8000 in
theorem okb_law_2357 (g : GG) (l : Launch) (hst : l.stackTraces = false) (z : Scr) : BlkOkP (m_law g l) (PS z) 2357 (b_law_2357 g z) := 
  ⟨OpOk.p (ok_iload (by decide +kernel : decode code 2357 = .ok (.iload 6, 2))),
  ⟨OpOk.p (ok_iceq (by decide) (by decide +kernel : decode code 2359 = .ok (.if_icmp .eq 5, 3))),
  ⟨OpOk.p (ok_iconst (by decide) (by decide +kernel : decode code 2362 = .ok (.iconst 0, 1))),
  ⟨OpOk.p (ok_zret rfl (by decide +kernel : decode code 2363 = .ok (.ireturn, 1))), trivial⟩⟩⟩⟩
def b_law_2364 (g : GG) (z : Scr) : Blk := [(2, o_iload 6), (3, o_ifne 2381), (1, o_aload 3), (1, o_push (.int 0)), (1, o_lald), (2, o_iload 7), (1, o_i2l), (1, o_lcmp), (3, o_ifeq 2381), (1, o_push (.int 0)), (1, o_zret)]
set_option maxRecDepth 8000 in
theorem okb_law_2364 (g : GG) (l : Launch) (hst : l.stackTraces = false) (z : Scr) : BlkOkP (m_law g l) (PS z) 2364 (b_law_2364 g z) := 
  ⟨OpOk.p (ok_iload (by decide +kernel : decode code 2364 = .ok (.iload 6, 2))),
  ⟨OpOk.p (ok_ifne (by decide) (by decide +kernel : decode code 2366 = .ok (.ifCond .ne 15, 3))),
  ⟨OpOk.p (ok_aload_n (by decide +kernel : decode code 2369 = .ok (.aload_n 3, 1)) rfl),
  ⟨OpOk.p (ok_iconst (by decide) (by decide +kernel : decode code 2370 = .ok (.iconst 0, 1))),
  ⟨OpOk.p (ok_lald (by decide +kernel : decode code 2371 = .ok (.laload, 1))),
  ⟨OpOk.p (ok_iload (by decide +kernel : decode code 2372 = .ok (.iload 7, 2))),
  ⟨OpOk.p (ok_i2l (by decide +kernel : decode code 2374 = .ok (.i2l, 1))),
  ⟨OpOk.p (ok_lcmp (by decide +kernel : decode code 2375 = .ok (.lcmp, 1))),
  ⟨OpOk.p (ok_ifeq (by decide) (by decide +kernel : decode code 2376 = .ok (.ifCond .eq 5, 3))),
  ⟨OpOk.p (ok_iconst (by decide) (by decide +kernel : decode code 2379 = .ok (.iconst 0, 1))),
  ⟨OpOk.p (ok_zret rfl (by decide +kernel : decode code 2380 = .ok (.ireturn, 1))), trivial⟩⟩⟩⟩⟩⟩⟩⟩⟩⟩⟩
def b_law_2381 (g : GG) (z : Scr) : Blk := [(3, o_goto 2528)]
set_option maxRecDepth 8000 in
theorem okb_law_2381 (g : GG) (l : Launch) (hst : l.stackTraces = false) (z : Scr) : BlkOkP (m_law g l) (PS z) 2381 (b_law_2381 g z) := 
  ⟨OpOk.p (ok_goto (by decide) (by decide +kernel : decode code 2381 = .ok (.goto 147, 3))), trivial⟩
def k_law_c33 (g : GG) (z : Scr) : List (Nat × Blk) := [(2288, b_law_2288 g z), (2314, b_law_2314 g z), (2315, b_law_2315 g z), (2319, b_law_2319 g z), (2347, b_law_2347 g z), (2348, b_law_2348 g z), (2351, b_law_2351 g z), (2357, b_law_2357 g z), (2364, b_law_2364 g z), (2381, b_law_2381 g z)]
theorem okl_law_c33 (g : GG) (l : Launch) (hst : l.stackTraces = false) (z : Scr) : ∀ b ∈ k_law_c33 g z, BlkOkP (m_law g l) (PS z) b.1 b.2 := List.forall_mem_cons.mpr ⟨okb_law_2288 g l hst z, List.forall_mem_cons.mpr ⟨okb_law_2314 g l hst z, List.forall_mem_cons.mpr ⟨okb_law_2315 g l hst z, List.forall_mem_cons.mpr ⟨okb_law_2319 g l hst z, List.forall_mem_cons.mpr ⟨okb_law_2347 g l hst z, List.forall_mem_cons.mpr ⟨okb_law_2348 g l hst z, List.forall_mem_cons.mpr ⟨okb_law_2351 g l hst z, List.forall_mem_cons.mpr ⟨okb_law_2357 g l hst z, List.forall_mem_cons.mpr ⟨okb_law_2364 g l hst z, List.forall_mem_cons.mpr ⟨okb_law_2381 g l hst z, fun _ h => by cases h⟩⟩⟩⟩⟩⟩⟩⟩⟩⟩
def b_law_2384 (g : GG) (z : Scr) : Blk := [(1, o_aload 1), (2, o_aload 4), (3, o_callX (T_La_meanBits g) 2 1 6)]
set_option maxRecDepth 8000 in
theorem okb_law_2384 (g : GG) (l : Launch) (hst : l.stackTraces = false) (z : Scr) : BlkOkP (m_law g l) (PS z) 2384 (b_law_2384 g z) := 
  ⟨OpOk.p (ok_aload_n (by decide +kernel : decode code 2384 = .ok (.aload_n 1, 1)) rfl),
  ⟨OpOk.p (ok_aload (by decide +kernel : decode code 2385 = .ok (.aload 4, 2))),
  ⟨OpOk.p (ok_callSH (k := 2) (s_La_meanBits g l hst) (show 12 < 100 from by decide) (Nat.le_of_ble_eq_true rfl) rfl tw_1214 tw_1215 tw_0 tw_1216 ⟨by decide, by decide, by decide⟩ (by decide +kernel : decode code 2387 = .ok (.invokestatic 252, 3))), trivial⟩⟩⟩
def b_law_2390 (g : GG) (z : Scr) : Blk := [(2, o_istore 6), (1, o_aload 2), (3, o_callR (o_call0 T_Mo_meanBits 1) 10 1)]
set_option maxRecDepth 8000 in
theorem okb_law_2390 (g : GG) (l : Launch) (hst : l.stackTraces = false) (z : Scr) : BlkOkP (m_law g l) (PS z) 2390 (b_law_2390 g z) := 
  ⟨OpOk.p (ok_istore (Nat.le_of_ble_eq_true rfl) (by decide +kernel : decode code 2390 = .ok (.istore 6, 2))),
  ⟨OpOk.p (ok_aload_n (by decide +kernel : decode code 2392 = .ok (.aload_n 2, 1)) rfl),
  ⟨OpOk.p (OpOk.mono (M := m_law g l) (pc := 2393) (ok_callV (k := 0) cls_10 (s_Mo_meanBits g l hst) (show 9 < 100 from by decide) (Nat.le_of_ble_eq_true rfl) rfl rfl tw_1748 tw_1749 tw_1750 tw_9 tw_1751 ⟨by decide, by decide, by decide⟩ (by decide +kernel : decode code 2393 = .ok (.invokevirtual 255, 3))) callR0_of), trivial⟩⟩⟩
def b_law_2396 (g : GG) (z : Scr) : Blk := [(2, o_dstore 7), (1, o_aload 2), (3, o_callR (o_call0 T_Mo_thrown 1) 10 1)]
set_option maxRecDepth 8000 in
theorem okb_law_2396 (g : GG) (l : Launch) (hst : l.stackTraces = false) (z : Scr) : BlkOkP (m_law g l) (PS z) 2396 (b_law_2396 g z) := 
  ⟨OpOk.p (ok_dstore (Nat.le_of_ble_eq_true rfl) (by decide +kernel : decode code 2396 = .ok (.dstore 7, 2))),
  ⟨OpOk.p (ok_aload_n (by decide +kernel : decode code 2398 = .ok (.aload_n 2, 1)) rfl),
  ⟨OpOk.p (OpOk.mono (M := m_law g l) (pc := 2399) (ok_callV (k := 0) cls_10 (s_Mo_thrown g l hst) (show 1 < 100 from by decide) (Nat.le_of_ble_eq_true rfl) rfl rfl tw_1416 tw_1417 tw_1418 tw_9 tw_1419 ⟨by decide, by decide, by decide⟩ (by decide +kernel : decode code 2399 = .ok (.invokevirtual 139, 3))) callR0_of), trivial⟩⟩⟩
def b_law_2402 (g : GG) (z : Scr) : Blk := [(2, o_iload 6), (3, o_iceq 2409), (1, o_push (.int 0)), (1, o_zret)]
set_option maxRecDepth 8000 in
theorem okb_law_2402 (g : GG) (l : Launch) (hst : l.stackTraces = false) (z : Scr) : BlkOkP (m_law g l) (PS z) 2402 (b_law_2402 g z) := 
  ⟨OpOk.p (ok_iload (by decide +kernel : decode code 2402 = .ok (.iload 6, 2))),
  ⟨OpOk.p (ok_iceq (by decide) (by decide +kernel : decode code 2404 = .ok (.if_icmp .eq 5, 3))),
  ⟨OpOk.p (ok_iconst (by decide) (by decide +kernel : decode code 2407 = .ok (.iconst 0, 1))),
  ⟨OpOk.p (ok_zret rfl (by decide +kernel : decode code 2408 = .ok (.ireturn, 1))), trivial⟩⟩⟩⟩
def b_law_2409 (g : GG) (z : Scr) : Blk := [(2, o_iload 6), (3, o_ifne 2446), (2, o_aload 4), (1, o_push (.int 0)), (1, o_dald), (2, o_dload 7), (1, o_dcmp_l), (3, o_ifeq 2446), (2, o_aload 4), (1, o_push (.int 0)), (1, o_dald), (2, o_aload 4), (1, o_push (.int 0)), (1, o_dald), (1, o_dcmp_l), (3, o_ifeq 2444), (2, o_dload 7), (2, o_dload 7), (1, o_dcmp_l), (3, o_ifne 2446)]
set_option maxRecDepth 8000 in
theorem okb_law_2409 (g : GG) (l : Launch) (hst : l.stackTraces = false) (z : Scr) : BlkOkP (m_law g l) (PS z) 2409 (b_law_2409 g z) := 
  ⟨OpOk.p (ok_iload (by decide +kernel : decode code 2409 = .ok (.iload 6, 2))),
  ⟨OpOk.p (ok_ifne (by decide) (by decide +kernel : decode code 2411 = .ok (.ifCond .ne 35, 3))),
  ⟨OpOk.p (ok_aload (by decide +kernel : decode code 2414 = .ok (.aload 4, 2))),
  ⟨OpOk.p (ok_iconst (by decide) (by decide +kernel : decode code 2416 = .ok (.iconst 0, 1))),
  ⟨OpOk.p (ok_dald (by decide +kernel : decode code 2417 = .ok (.daload, 1))),
  ⟨OpOk.p (ok_dload (by decide +kernel : decode code 2418 = .ok (.dload 7, 2))),
  ⟨OpOk.p (ok_dcmp_l (by decide +kernel : decode code 2420 = .ok (.dcmp .l, 1))),
  ⟨OpOk.p (ok_ifeq (by decide) (by decide +kernel : decode code 2421 = .ok (.ifCond .eq 25, 3))),
  ⟨OpOk.p (ok_aload (by decide +kernel : decode code 2424 = .ok (.aload 4, 2))),
  ⟨OpOk.p (ok_iconst (by decide) (by decide +kernel : decode code 2426 = .ok (.iconst 0, 1))),
  ⟨OpOk.p (ok_dald (by decide +kernel : decode code 2427 = .ok (.daload, 1))),
  ⟨OpOk.p (ok_aload (by decide +kernel : decode code 2428 = .ok (.aload 4, 2))),
  ⟨OpOk.p (ok_iconst (by decide) (by decide +kernel : decode code 2430 = .ok (.iconst 0, 1))),
  ⟨OpOk.p (ok_dald (by decide +kernel : decode code 2431 = .ok (.daload, 1))),
  ⟨OpOk.p (ok_dcmp_l (by decide +kernel : decode code 2432 = .ok (.dcmp .l, 1))),
  ⟨OpOk.p (ok_ifeq (by decide) (by decide +kernel : decode code 2433 = .ok (.ifCond .eq 11, 3))),
  ⟨OpOk.p (ok_dload (by decide +kernel : decode code 2436 = .ok (.dload 7, 2))),
  ⟨OpOk.p (ok_dload (by decide +kernel : decode code 2438 = .ok (.dload 7, 2))),
  ⟨OpOk.p (ok_dcmp_l (by decide +kernel : decode code 2440 = .ok (.dcmp .l, 1))),
  ⟨OpOk.p (ok_ifne (by decide) (by decide +kernel : decode code 2441 = .ok (.ifCond .ne 5, 3))), trivial⟩⟩⟩⟩⟩⟩⟩⟩⟩⟩⟩⟩⟩⟩⟩⟩⟩⟩⟩⟩
def b_law_2444 (g : GG) (z : Scr) : Blk := [(1, o_push (.int 0)), (1, o_zret)]
set_option maxRecDepth 8000 in
theorem okb_law_2444 (g : GG) (l : Launch) (hst : l.stackTraces = false) (z : Scr) : BlkOkP (m_law g l) (PS z) 2444 (b_law_2444 g z) := 
  ⟨OpOk.p (ok_iconst (by decide) (by decide +kernel : decode code 2444 = .ok (.iconst 0, 1))),
  ⟨OpOk.p (ok_zret rfl (by decide +kernel : decode code 2445 = .ok (.ireturn, 1))), trivial⟩⟩
def b_law_2446 (g : GG) (z : Scr) : Blk := [(3, o_goto 2528)]
set_option maxRecDepth 8000 in
theorem okb_law_2446 (g : GG) (l : Launch) (hst : l.stackTraces = false) (z : Scr) : BlkOkP (m_law g l) (PS z) 2446 (b_law_2446 g z) := 
  ⟨OpOk.p (ok_goto (by decide) (by decide +kernel : decode code 2446 = .ok (.goto 82, 3))), trivial⟩
def k_law_c34 (g : GG) (z : Scr) : List (Nat × Blk) := [(2384, b_law_2384 g z), (2390, b_law_2390 g z), (2396, b_law_2396 g z), (2402, b_law_2402 g z), (2409, b_law_2409 g z), (2444, b_law_2444 g z), (2446, b_law_2446 g z)]
theorem okl_law_c34 (g : GG) (l : Launch) (hst : l.stackTraces = false) (z : Scr) : ∀ b ∈ k_law_c34 g z, BlkOkP (m_law g l) (PS z) b.1 b.2 := List.forall_mem_cons.mpr ⟨okb_law_2384 g l hst z, List.forall_mem_cons.mpr ⟨okb_law_2390 g l hst z, List.forall_mem_cons.mpr ⟨okb_law_2396 g l hst z, List.forall_mem_cons.mpr ⟨okb_law_2402 g l hst z, List.forall_mem_cons.mpr ⟨okb_law_2409 g l hst z, List.forall_mem_cons.mpr ⟨okb_law_2444 g l hst z, List.forall_mem_cons.mpr ⟨okb_law_2446 g l hst z, fun _ h => by cases h⟩⟩⟩⟩⟩⟩⟩
def b_law_2449 (g : GG) (z : Scr) : Blk := [(1, o_aload 1), (2, o_aload 4), (3, o_callX (T_La_skippedShare g) 2 1 6)]
set_option maxRecDepth 8000 in
theorem okb_law_2449 (g : GG) (l : Launch) (hst : l.stackTraces = false) (z : Scr) : BlkOkP (m_law g l) (PS z) 2449 (b_law_2449 g z) := 
  ⟨OpOk.p (ok_aload_n (by decide +kernel : decode code 2449 = .ok (.aload_n 1, 1)) rfl),
  ⟨OpOk.p (ok_aload (by decide +kernel : decode code 2450 = .ok (.aload 4, 2))),
  ⟨OpOk.p (ok_callSH (k := 2) (s_La_skippedShare g l hst) (show 12 < 100 from by decide) (Nat.le_of_ble_eq_true rfl) rfl tw_1240 tw_1241 tw_0 tw_1242 ⟨by decide, by decide, by decide⟩ (by decide +kernel : decode code 2452 = .ok (.invokestatic 256, 3))), trivial⟩⟩⟩
def b_law_2455 (g : GG) (z : Scr) : Blk := [(2, o_istore 6), (1, o_aload 2), (3, o_callR (o_call0 T_Mo_skippedShare 1) 10 1)]
set_option maxRecDepth 8000 in
theorem okb_law_2455 (g : GG) (l : Launch) (hst : l.stackTraces = false) (z : Scr) : BlkOkP (m_law g l) (PS z) 2455 (b_law_2455 g z) := 
  ⟨OpOk.p (ok_istore (Nat.le_of_ble_eq_true rfl) (by decide +kernel : decode code 2455 = .ok (.istore 6, 2))),
  ⟨OpOk.p (ok_aload_n (by decide +kernel : decode code 2457 = .ok (.aload_n 2, 1)) rfl),
  ⟨OpOk.p (OpOk.mono (M := m_law g l) (pc := 2458) (ok_callV (k := 0) cls_10 (s_Mo_skippedShare g l hst) (show 2 < 100 from by decide) (Nat.le_of_ble_eq_true rfl) rfl rfl tw_1752 tw_1753 tw_1754 tw_9 tw_1755 ⟨by decide, by decide, by decide⟩ (by decide +kernel : decode code 2458 = .ok (.invokevirtual 258, 3))) callR0_of), trivial⟩⟩⟩
def b_law_2461 (g : GG) (z : Scr) : Blk := [(2, o_fstore 7), (1, o_aload 2), (3, o_callR (o_call0 T_Mo_thrown 1) 10 1)]
set_option maxRecDepth 8000 in
theorem okb_law_2461 (g : GG) (l : Launch) (hst : l.stackTraces = false) (z : Scr) : BlkOkP (m_law g l) (PS z) 2461 (b_law_2461 g z) := 
  ⟨OpOk.p (ok_fstore (Nat.le_of_ble_eq_true rfl) (by decide +kernel : decode code 2461 = .ok (.fstore 7, 2))),
  ⟨OpOk.p (ok_aload_n (by decide +kernel : decode code 2463 = .ok (.aload_n 2, 1)) rfl),
  ⟨OpOk.p (OpOk.mono (M := m_law g l) (pc := 2464) (ok_callV (k := 0) cls_10 (s_Mo_thrown g l hst) (show 1 < 100 from by decide) (Nat.le_of_ble_eq_true rfl) rfl rfl tw_1416 tw_1417 tw_1418 tw_9 tw_1419 ⟨by decide, by decide, by decide⟩ (by decide +kernel : decode code 2464 = .ok (.invokevirtual 139, 3))) callR0_of), trivial⟩⟩⟩
def b_law_2467 (g : GG) (z : Scr) : Blk := [(2, o_iload 6), (3, o_iceq 2474), (1, o_push (.int 0)), (1, o_zret)]
set_option maxRecDepth 8000 in
theorem okb_law_2467 (g : GG) (l : Launch) (hst : l.stackTraces = false) (z : Scr) : BlkOkP (m_law g l) (PS z) 2467 (b_law_2467 g z) := 
  ⟨OpOk.p (ok_iload (by decide +kernel : decode code 2467 = .ok (.iload 6, 2))),
  ⟨OpOk.p (ok_iceq (by decide) (by decide +kernel : decode code 2469 = .ok (.if_icmp .eq 5, 3))),
  ⟨OpOk.p (ok_iconst (by decide) (by decide +kernel : decode code 2472 = .ok (.iconst 0, 1))),
  ⟨OpOk.p (ok_zret rfl (by decide +kernel : decode code 2473 = .ok (.ireturn, 1))), trivial⟩⟩⟩⟩
def b_law_2474 (g : GG) (z : Scr) : Blk := [(2, o_iload 6), (3, o_ifne 2512), (2, o_aload 4), (1, o_push (.int 0)), (1, o_dald), (2, o_fload 7), (1, o_f2d), (1, o_dcmp_l), (3, o_ifeq 2512), (2, o_aload 4), (1, o_push (.int 0)), (1, o_dald), (2, o_aload 4), (1, o_push (.int 0)), (1, o_dald), (1, o_dcmp_l), (3, o_ifeq 2510), (2, o_fload 7), (2, o_fload 7), (1, o_fcmp_l), (3, o_ifne 2512)]
set_option maxRecDepth 8000 in
theorem okb_law_2474 (g : GG) (l : Launch) (hst : l.stackTraces = false) (z : Scr) : BlkOkP (m_law g l) (PS z) 2474 (b_law_2474 g z) := 
  ⟨OpOk.p (ok_iload (by decide +kernel : decode code 2474 = .ok (.iload 6, 2))),
  ⟨OpOk.p (ok_ifne (by decide) (by decide +kernel : decode code 2476 = .ok (.ifCond .ne 36, 3))),
  ⟨OpOk.p (ok_aload (by decide +kernel : decode code 2479 = .ok (.aload 4, 2))),
  ⟨OpOk.p (ok_iconst (by decide) (by decide +kernel : decode code 2481 = .ok (.iconst 0, 1))),
  ⟨OpOk.p (ok_dald (by decide +kernel : decode code 2482 = .ok (.daload, 1))),
  ⟨OpOk.p (ok_fload (by decide +kernel : decode code 2483 = .ok (.fload 7, 2))),
  ⟨OpOk.p (ok_f2d (by decide +kernel : decode code 2485 = .ok (.f2d, 1))),
  ⟨OpOk.p (ok_dcmp_l (by decide +kernel : decode code 2486 = .ok (.dcmp .l, 1))),
  ⟨OpOk.p (ok_ifeq (by decide) (by decide +kernel : decode code 2487 = .ok (.ifCond .eq 25, 3))),
  ⟨OpOk.p (ok_aload (by decide +kernel : decode code 2490 = .ok (.aload 4, 2))),
  ⟨OpOk.p (ok_iconst (by decide) (by decide +kernel : decode code 2492 = .ok (.iconst 0, 1))),
  ⟨OpOk.p (ok_dald (by decide +kernel : decode code 2493 = .ok (.daload, 1))),
  ⟨OpOk.p (ok_aload (by decide +kernel : decode code 2494 = .ok (.aload 4, 2))),
  ⟨OpOk.p (ok_iconst (by decide) (by decide +kernel : decode code 2496 = .ok (.iconst 0, 1))),
  ⟨OpOk.p (ok_dald (by decide +kernel : decode code 2497 = .ok (.daload, 1))),
  ⟨OpOk.p (ok_dcmp_l (by decide +kernel : decode code 2498 = .ok (.dcmp .l, 1))),
  ⟨OpOk.p (ok_ifeq (by decide) (by decide +kernel : decode code 2499 = .ok (.ifCond .eq 11, 3))),
  ⟨OpOk.p (ok_fload (by decide +kernel : decode code 2502 = .ok (.fload 7, 2))),
  ⟨OpOk.p (ok_fload (by decide +kernel : decode code 2504 = .ok (.fload 7, 2))),
  ⟨OpOk.p (ok_fcmp_l (by decide +kernel : decode code 2506 = .ok (.fcmp .l, 1))),
  ⟨OpOk.p (ok_ifne (by decide) (by decide +kernel : decode code 2507 = .ok (.ifCond .ne 5, 3))), trivial⟩⟩⟩⟩⟩⟩⟩⟩⟩⟩⟩⟩⟩⟩⟩⟩⟩⟩⟩⟩⟩
def b_law_2510 (g : GG) (z : Scr) : Blk := [(1, o_push (.int 0)), (1, o_zret)]
set_option maxRecDepth 8000 in
theorem okb_law_2510 (g : GG) (l : Launch) (hst : l.stackTraces = false) (z : Scr) : BlkOkP (m_law g l) (PS z) 2510 (b_law_2510 g z) := 
  ⟨OpOk.p (ok_iconst (by decide) (by decide +kernel : decode code 2510 = .ok (.iconst 0, 1))),
  ⟨OpOk.p (ok_zret rfl (by decide +kernel : decode code 2511 = .ok (.ireturn, 1))), trivial⟩⟩
def b_law_2512 (g : GG) (z : Scr) : Blk := [(3, o_goto 2528)]
set_option maxRecDepth 8000 in
theorem okb_law_2512 (g : GG) (l : Launch) (hst : l.stackTraces = false) (z : Scr) : BlkOkP (m_law g l) (PS z) 2512 (b_law_2512 g z) := 
  ⟨OpOk.p (ok_goto (by decide) (by decide +kernel : decode code 2512 = .ok (.goto 16, 3))), trivial⟩
def k_law_c35 (g : GG) (z : Scr) : List (Nat × Blk) := [(2449, b_law_2449 g z), (2455, b_law_2455 g z), (2461, b_law_2461 g z), (2467, b_law_2467 g z), (2474, b_law_2474 g z), (2510, b_law_2510 g z), (2512, b_law_2512 g z)]
theorem okl_law_c35 (g : GG) (l : Launch) (hst : l.stackTraces = false) (z : Scr) : ∀ b ∈ k_law_c35 g z, BlkOkP (m_law g l) (PS z) b.1 b.2 := List.forall_mem_cons.mpr ⟨okb_law_2449 g l hst z, List.forall_mem_cons.mpr ⟨okb_law_2455 g l hst z, List.forall_mem_cons.mpr ⟨okb_law_2461 g l hst z, List.forall_mem_cons.mpr ⟨okb_law_2467 g l hst z, List.forall_mem_cons.mpr ⟨okb_law_2474 g l hst z, List.forall_mem_cons.mpr ⟨okb_law_2510 g l hst z, List.forall_mem_cons.mpr ⟨okb_law_2512 g l hst z, fun _ h => by cases h⟩⟩⟩⟩⟩⟩⟩
def b_law_2515 (g : GG) (z : Scr) : Blk := [(1, o_aload 1), (3, o_callR (o_call0 (T_GP_isSound g) 1) 9 1)]
set_option maxRecDepth 8000 in
theorem okb_law_2515 (g : GG) (l : Launch) (hst : l.stackTraces = false) (z : Scr) : BlkOkP (m_law g l) (PS z) 2515 (b_law_2515 g z) := 
  ⟨OpOk.p (ok_aload_n (by decide +kernel : decode code 2515 = .ok (.aload_n 1, 1)) rfl),
  ⟨OpOk.p (OpOk.mono (M := m_law g l) (pc := 2516) (ok_callV (k := 0) cls_9 (s_GP_isSound g l hst) (show 10 < 100 from by decide) (Nat.le_of_ble_eq_true rfl) rfl rfl tw_208 tw_209 tw_210 tw_1 tw_211 ⟨by decide, by decide, by decide⟩ (by decide +kernel : decode code 2516 = .ok (.invokevirtual 259, 3))) callR0_of), trivial⟩⟩
def b_law_2519 (g : GG) (z : Scr) : Blk := [(1, o_aload 2), (3, o_callR (o_call0 T_Mo_isSound 1) 10 1)]
set_option maxRecDepth 8000 in
theorem okb_law_2519 (g : GG) (l : Launch) (hst : l.stackTraces = false) (z : Scr) : BlkOkP (m_law g l) (PS z) 2519 (b_law_2519 g z) := 
  ⟨OpOk.p (ok_aload_n (by decide +kernel : decode code 2519 = .ok (.aload_n 2, 1)) rfl),
  ⟨OpOk.p (OpOk.mono (M := m_law g l) (pc := 2520) (ok_callV (k := 0) cls_10 (s_Mo_isSound g l hst) (show 1 < 100 from by decide) (Nat.le_of_ble_eq_true rfl) rfl rfl tw_1756 tw_1757 tw_1758 tw_9 tw_1759 ⟨by decide, by decide, by decide⟩ (by decide +kernel : decode code 2520 = .ok (.invokevirtual 263, 3))) callR0_of), trivial⟩⟩
def b_law_2523 (g : GG) (z : Scr) : Blk := [(3, o_iceq 2528), (1, o_push (.int 0)), (1, o_zret)]
set_option maxRecDepth 8000 in
theorem okb_law_2523 (g : GG) (l : Launch) (hst : l.stackTraces = false) (z : Scr) : BlkOkP (m_law g l) (PS z) 2523 (b_law_2523 g z) := 
  ⟨OpOk.p (ok_iceq (by decide) (by decide +kernel : decode code 2523 = .ok (.if_icmp .eq 5, 3))),
  ⟨OpOk.p (ok_iconst (by decide) (by decide +kernel : decode code 2526 = .ok (.iconst 0, 1))),
  ⟨OpOk.p (ok_zret rfl (by decide +kernel : decode code 2527 = .ok (.ireturn, 1))), trivial⟩⟩⟩
def k_law_c36 (g : GG) (z : Scr) : List (Nat × Blk) := [(2515, b_law_2515 g z), (2519, b_law_2519 g z), (2523, b_law_2523 g z)]
theorem okl_law_c36 (g : GG) (l : Launch) (hst : l.stackTraces = false) (z : Scr) : ∀ b ∈ k_law_c36 g z, BlkOkP (m_law g l) (PS z) b.1 b.2 := List.forall_mem_cons.mpr ⟨okb_law_2515 g l hst z, List.forall_mem_cons.mpr ⟨okb_law_2519 g l hst z, List.forall_mem_cons.mpr ⟨okb_law_2523 g l hst z, fun _ h => by cases h⟩⟩⟩

