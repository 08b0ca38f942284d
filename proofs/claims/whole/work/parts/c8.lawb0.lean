-- deps: c7.lawp c2.law1 c3.law2 c4.law3 c5.law4 c6.law5
abbrev m_law (g : GG) (l : Launch) : MI := ("GranaryPartitionLaw", code, 9, (some .boolean), [], false, 100, g, l)
def b_law_0 (g : GG) (z : Scr) : Blk := [(3, o_new 9 11 [.null, .null, .null, .null, .null, .null, .int 0, .int 0, .int 0, .long 0, .int 0]), (1, o_dup), (3, o_callI (T_GP_init g) 1 15 1827)]
set_option maxRecDepth 8000 in
theorem okb_law_0 (g : GG) (l : Launch) (hst : l.stackTraces = false) (z : Scr) : BlkOkP (m_law g l) (PS z) 0 (b_law_0 g z) := 
  ⟨OpOk.p (ok_new cls_9 tw_34 tw_35 tw_1 (fun j (hj : j < 11) => by rcases (show j = 0 ∨ j = 1 ∨ j = 2 ∨ j = 3 ∨ j = 4 ∨ j = 5 ∨ j = 6 ∨ j = 7 ∨ j = 8 ∨ j = 9 ∨ j = 10 by omega) with rfl | rfl | rfl | rfl | rfl | rfl | rfl | rfl | rfl | rfl | rfl <;> rfl) (by decide +kernel : decode code 0 = .ok (.new 8, 3))),
  ⟨OpOk.p (ok_dup (by decide +kernel : decode code 3 = .ok (.dup, 1))),
  ⟨OpOk.p (ok_callI (k := 0) rfl (s_GP_init g l hst) (show 5 < 100 from by decide) (Nat.le_of_ble_eq_true rfl) rfl rfl rfl tw_36 tw_37 tw_1 tw_38 ⟨by decide, by decide, by decide⟩ (by decide +kernel : decode code 4 = .ok (.invokespecial 129, 3))), trivial⟩⟩⟩
def b_law_7 (g : GG) (z : Scr) : Blk := [(1, o_astore 1), (3, o_new 10 52 [.int 0, .int 0, .int 0, .int 0, .int 0, .int 0, .null, .null, .null, .null, .null, .null, .null, .null, .null, .null, .null, .null, .null, .null, .null, .null, .null, .null, .null, .null, .null, .null, .null, .null, .null, .null, .null, .null, .null, .null, .null, .null, .null, .null, .null, .null, .null, .null, .null, .int 0, .long 0, .long 0, .long 0, .int 0, .null, .null]), (1, o_dup), (3, o_callI (T_Mo_init g) 1 361 59050)]
set_option maxRecDepth 8000 in
theorem okb_law_7 (g : GG) (l : Launch) (hst : l.stackTraces = false) (z : Scr) : BlkOkP (m_law g l) (PS z) 7 (b_law_7 g z) := 
  ⟨OpOk.p (ok_astore_n rfl (Nat.le_of_ble_eq_true rfl) (by decide +kernel : decode code 7 = .ok (.astore_n 1, 1))),
  ⟨OpOk.p (ok_new cls_10 tw_1248 tw_1249 tw_9 (fun j (hj : j < 52) => by rcases (show j = 0 ∨ j = 1 ∨ j = 2 ∨ j = 3 ∨ j = 4 ∨ j = 5 ∨ j = 6 ∨ j = 7 ∨ j = 8 ∨ j = 9 ∨ j = 10 ∨ j = 11 ∨ j = 12 ∨ j = 13 ∨ j = 14 ∨ j = 15 ∨ j = 16 ∨ j = 17 ∨ j = 18 ∨ j = 19 ∨ j = 20 ∨ j = 21 ∨ j = 22 ∨ j = 23 ∨ j = 24 ∨ j = 25 ∨ j = 26 ∨ j = 27 ∨ j = 28 ∨ j = 29 ∨ j = 30 ∨ j = 31 ∨ j = 32 ∨ j = 33 ∨ j = 34 ∨ j = 35 ∨ j = 36 ∨ j = 37 ∨ j = 38 ∨ j = 39 ∨ j = 40 ∨ j = 41 ∨ j = 42 ∨ j = 43 ∨ j = 44 ∨ j = 45 ∨ j = 46 ∨ j = 47 ∨ j = 48 ∨ j = 49 ∨ j = 50 ∨ j = 51 by omega) with rfl | rfl | rfl | rfl | rfl | rfl | rfl | rfl | rfl | rfl | rfl | rfl | rfl | rfl | rfl | rfl | rfl | rfl | rfl | rfl | rfl | rfl | rfl | rfl | rfl | rfl | rfl | rfl | rfl | rfl | rfl | rfl | rfl | rfl | rfl | rfl | rfl | rfl | rfl | rfl | rfl | rfl | rfl | rfl | rfl | rfl | rfl | rfl | rfl | rfl | rfl | rfl <;> rfl) (by decide +kernel : decode code 8 = .ok (.new 130, 3))),
  ⟨OpOk.p (ok_dup (by decide +kernel : decode code 11 = .ok (.dup, 1))),
  ⟨OpOk.p (ok_callI (k := 0) rfl (s_Mo_init g l hst) (show 2 < 100 from by decide) (Nat.le_of_ble_eq_true rfl) rfl rfl rfl tw_1250 tw_1251 tw_9 tw_1252 ⟨by decide, by decide, by decide⟩ (by decide +kernel : decode code 12 = .ok (.invokespecial 132, 3))), trivial⟩⟩⟩⟩
def b_law_15 (g : GG) (z : Scr) : Blk := [(1, o_astore 2), (1, o_push (.int 1)), (2, o_newarr 3 (0, .inr (.inl (fun _ => 0)))), (1, o_astore 3), (1, o_push (.int 1)), (2, o_newarr 4 (0, .inr (.inr (.inr (.inl (fun _ => 0)))))), (2, o_astore 4), (1, o_push (.int 0)), (2, o_istore 5)]
set_option maxRecDepth 8000 in
theorem okb_law_15 (g : GG) (l : Launch) (hst : l.stackTraces = false) (z : Scr) : BlkOkP (m_law g l) (PS z) 15 (b_law_15 g z) := 
  ⟨OpOk.p (ok_astore_n rfl (Nat.le_of_ble_eq_true rfl) (by decide +kernel : decode code 15 = .ok (.astore_n 2, 1))),
  ⟨OpOk.p (ok_iconst (by decide) (by decide +kernel : decode code 16 = .ok (.iconst 1, 1))),
  ⟨OpOk.p (ok_newarr_long tw_1760 (by decide +kernel : decode code 17 = .ok (.newarray .long, 2))),
  ⟨OpOk.p (ok_astore_n rfl (Nat.le_of_ble_eq_true rfl) (by decide +kernel : decode code 19 = .ok (.astore_n 3, 1))),
  ⟨OpOk.p (ok_iconst (by decide) (by decide +kernel : decode code 20 = .ok (.iconst 1, 1))),
  ⟨OpOk.p (ok_newarr_double tw_1761 (by decide +kernel : decode code 21 = .ok (.newarray .double, 2))),
  ⟨OpOk.p (ok_astore (Nat.le_of_ble_eq_true rfl) (by decide +kernel : decode code 23 = .ok (.astore 4, 2))),
  ⟨OpOk.p (ok_iconst (by decide) (by decide +kernel : decode code 25 = .ok (.iconst 0, 1))),
  ⟨OpOk.p (ok_istore (Nat.le_of_ble_eq_true rfl) (by decide +kernel : decode code 26 = .ok (.istore 5, 2))), trivial⟩⟩⟩⟩⟩⟩⟩⟩⟩
def b_law_28 (g : GG) (z : Scr) : Blk := [(2, o_iload 5), (1, o_aload 0), (1, o_sln z), (1, o_push (.int 5)), (1, o_isub), (3, o_icgt 2534), (1, o_aload 0), (2, o_iload 5), (1, o_sld z), (2, o_push (.int 63)), (1, o_iand), (164, o_tbl 0 [208, 300, 387, 462, 518, 586, 599, 612, 680, 748, 804, 872, 940, 1015, 1071, 1153, 1235, 1303, 1395, 1451, 1519, 1582, 1595, 1609, 1665, 1721, 1777, 1833, 1901, 1981, 2077, 2140, 2220, 2288, 2384, 2449, 2515] 2528)]
set_option maxRecDepth 8000 in
theorem okb_law_28 (g : GG) (l : Launch) (hst : l.stackTraces = false) (z : Scr) : BlkOkP (m_law g l) (PS z) 28 (b_law_28 g z) := 
  ⟨OpOk.p (ok_iload (by decide +kernel : decode code 28 = .ok (.iload 5, 2))),
  ⟨OpOk.p (ok_aload_n (by decide +kernel : decode code 30 = .ok (.aload_n 0, 1)) rfl),
  ⟨ok_sln (by decide +kernel : decode code 31 = .ok (.arraylength, 1)),
  ⟨OpOk.p (ok_iconst (by decide) (by decide +kernel : decode code 32 = .ok (.iconst 5, 1))),
  ⟨OpOk.p (ok_isub (by decide +kernel : decode code 33 = .ok (.isub, 1))),
  ⟨OpOk.p (ok_icgt (by decide) (by decide +kernel : decode code 34 = .ok (.if_icmp .gt 2500, 3))),
  ⟨OpOk.p (ok_aload_n (by decide +kernel : decode code 37 = .ok (.aload_n 0, 1)) rfl),
  ⟨OpOk.p (ok_iload (by decide +kernel : decode code 38 = .ok (.iload 5, 2))),
  ⟨ok_sld (by decide +kernel : decode code 40 = .ok (.iaload, 1)),
  ⟨OpOk.p (ok_bipush (by decide) (by decide +kernel : decode code 41 = .ok (.bipush 63, 2))),
  ⟨OpOk.p (ok_iand (by decide +kernel : decode code 43 = .ok (.iand, 1))),
  ⟨OpOk.p (ok_tbl (ts := [208, 300, 387, 462, 518, 586, 599, 612, 680, 748, 804, 872, 940, 1015, 1071, 1153, 1235, 1303, 1395, 1451, 1519, 1582, 1595, 1609, 1665, 1721, 1777, 1833, 1901, 1981, 2077, 2140, 2220, 2288, 2384, 2449, 2515]) rfl rfl (by decide +kernel) (by decide +kernel : decode code 44 = .ok (.tableswitch 2484 0 36 #[164, 256, 343, 418, 474, 542, 555, 568, 636, 704, 760, 828, 896, 971, 1027, 1109, 1191, 1259, 1351, 1407, 1475, 1538, 1551, 1565, 1621, 1677, 1733, 1789, 1857, 1937, 2033, 2096, 2176, 2244, 2340, 2405, 2471], 164))), trivial⟩⟩⟩⟩⟩⟩⟩⟩⟩⟩⟩⟩
def b_law_2528 (g : GG) (z : Scr) : Blk := [(3, o_iinc 5 5), (3, o_goto 28)]
set_option maxRecDepth 8000 in
theorem okb_law_2528 (g : GG) (l : Launch) (hst : l.stackTraces = false) (z : Scr) : BlkOkP (m_law g l) (PS z) 2528 (b_law_2528 g z) := 
  ⟨OpOk.p (ok_iinc (by decide) (Nat.le_of_ble_eq_true rfl) (by decide +kernel : decode code 2528 = .ok (.iinc 5 5, 3))),
  ⟨OpOk.p (ok_goto (by decide) (by decide +kernel : decode code 2531 = .ok (.goto (-2503), 3))), trivial⟩⟩
def b_law_2534 (g : GG) (z : Scr) : Blk := [(1, o_push (.int 1)), (1, o_zret)]
set_option maxRecDepth 8000 in
theorem okb_law_2534 (g : GG) (l : Launch) (hst : l.stackTraces = false) (z : Scr) : BlkOkP (m_law g l) (PS z) 2534 (b_law_2534 g z) := 
  ⟨OpOk.p (ok_iconst (by decide) (by decide +kernel : decode code 2534 = .ok (.iconst 1, 1))),
  ⟨OpOk.p (ok_zret rfl (by decide +kernel : decode code 2535 = .ok (.ireturn, 1))), trivial⟩⟩
def k_law_hd (g : GG) (z : Scr) : List (Nat × Blk) := [(0, b_law_0 g z), (7, b_law_7 g z), (15, b_law_15 g z), (28, b_law_28 g z), (2528, b_law_2528 g z), (2534, b_law_2534 g z)]
theorem okl_law_hd (g : GG) (l : Launch) (hst : l.stackTraces = false) (z : Scr) : ∀ b ∈ k_law_hd g z, BlkOkP (m_law g l) (PS z) b.1 b.2 := List.forall_mem_cons.mpr ⟨okb_law_0 g l hst z, List.forall_mem_cons.mpr ⟨okb_law_7 g l hst z, List.forall_mem_cons.mpr ⟨okb_law_15 g l hst z, List.forall_mem_cons.mpr ⟨okb_law_28 g l hst z, List.forall_mem_cons.mpr ⟨okb_law_2528 g l hst z, List.forall_mem_cons.mpr ⟨okb_law_2534 g l hst z, fun _ h => by cases h⟩⟩⟩⟩⟩⟩
def b_law_208 (g : GG) (z : Scr) : Blk := [(1, o_aload 1), (1, o_aload 0), (2, o_iload 5), (1, o_push (.int 1)), (1, o_iadd), (1, o_sld z), (1, o_aload 0), (2, o_iload 5), (1, o_push (.int 2)), (1, o_iadd), (1, o_sld z), (1, o_aload 0), (2, o_iload 5), (1, o_push (.int 3)), (1, o_iadd), (1, o_sld z), (1, o_aload 0), (2, o_iload 5), (1, o_push (.int 4)), (1, o_iadd), (1, o_sld z), (1, o_aload 3), (3, o_callX (T_La_load g) 6 280 5920)]
set_option maxRecDepth 8000 in
theorem okb_law_208 (g : GG) (l : Launch) (hst : l.stackTraces = false) (z : Scr) : BlkOkP (m_law g l) (PS z) 208 (b_law_208 g z) := 
  ⟨OpOk.p (ok_aload_n (by decide +kernel : decode code 208 = .ok (.aload_n 1, 1)) rfl),
  ⟨OpOk.p (ok_aload_n (by decide +kernel : decode code 209 = .ok (.aload_n 0, 1)) rfl),
  ⟨OpOk.p (ok_iload (by decide +kernel : decode code 210 = .ok (.iload 5, 2))),
  ⟨OpOk.p (ok_iconst (by decide) (by decide +kernel : decode code 212 = .ok (.iconst 1, 1))),
  ⟨OpOk.p (ok_iadd (by decide +kernel : decode code 213 = .ok (.iadd, 1))),
  ⟨ok_sld (by decide +kernel : decode code 214 = .ok (.iaload, 1)),
  ⟨OpOk.p (ok_aload_n (by decide +kernel : decode code 215 = .ok (.aload_n 0, 1)) rfl),
  ⟨OpOk.p (ok_iload (by decide +kernel : decode code 216 = .ok (.iload 5, 2))),
  ⟨OpOk.p (ok_iconst (by decide) (by decide +kernel : decode code 218 = .ok (.iconst 2, 1))),
  ⟨OpOk.p (ok_iadd (by decide +kernel : decode code 219 = .ok (.iadd, 1))),
  ⟨ok_sld (by decide +kernel : decode code 220 = .ok (.iaload, 1)),
  ⟨OpOk.p (ok_aload_n (by decide +kernel : decode code 221 = .ok (.aload_n 0, 1)) rfl),
  ⟨OpOk.p (ok_iload (by decide +kernel : decode code 222 = .ok (.iload 5, 2))),
  ⟨OpOk.p (ok_iconst (by decide) (by decide +kernel : decode code 224 = .ok (.iconst 3, 1))),
  ⟨OpOk.p (ok_iadd (by decide +kernel : decode code 225 = .ok (.iadd, 1))),
  ⟨ok_sld (by decide +kernel : decode code 226 = .ok (.iaload, 1)),
  ⟨OpOk.p (ok_aload_n (by decide +kernel : decode code 227 = .ok (.aload_n 0, 1)) rfl),
  ⟨OpOk.p (ok_iload (by decide +kernel : decode code 228 = .ok (.iload 5, 2))),
  ⟨OpOk.p (ok_iconst (by decide) (by decide +kernel : decode code 230 = .ok (.iconst 4, 1))),
  ⟨OpOk.p (ok_iadd (by decide +kernel : decode code 231 = .ok (.iadd, 1))),
  ⟨ok_sld (by decide +kernel : decode code 232 = .ok (.iaload, 1)),
  ⟨OpOk.p (ok_aload_n (by decide +kernel : decode code 233 = .ok (.aload_n 3, 1)) rfl),
  ⟨OpOk.p (ok_callSH (k := 6) (s_La_load g l hst) (show 12 < 100 from by decide) (Nat.le_of_ble_eq_true rfl) rfl tw_396 tw_397 tw_0 tw_398 ⟨by decide, by decide, by decide⟩ (by decide +kernel : decode code 234 = .ok (.invokestatic 133, 3))), trivial⟩⟩⟩⟩⟩⟩⟩⟩⟩⟩⟩⟩⟩⟩⟩⟩⟩⟩⟩⟩⟩⟩⟩
def b_law_237 (g : GG) (z : Scr) : Blk := [(2, o_istore 6), (1, o_aload 2), (1, o_aload 0), (2, o_iload 5), (1, o_push (.int 1)), (1, o_iadd), (1, o_sld z), (1, o_aload 0), (2, o_iload 5), (1, o_push (.int 2)), (1, o_iadd), (1, o_sld z), (1, o_aload 0), (2, o_iload 5), (1, o_push (.int 3)), (1, o_iadd), (1, o_sld z), (1, o_aload 0), (2, o_iload 5), (1, o_push (.int 4)), (1, o_iadd), (1, o_sld z), (3, o_callR (o_call0 T_Mo_load 5) 10 5)]
set_option maxRecDepth 8000 in
theorem okb_law_237 (g : GG) (l : Launch) (hst : l.stackTraces = false) (z : Scr) : BlkOkP (m_law g l) (PS z) 237 (b_law_237 g z) := 
  ⟨OpOk.p (ok_istore (Nat.le_of_ble_eq_true rfl) (by decide +kernel : decode code 237 = .ok (.istore 6, 2))),
  ⟨OpOk.p (ok_aload_n (by decide +kernel : decode code 239 = .ok (.aload_n 2, 1)) rfl),
  ⟨OpOk.p (ok_aload_n (by decide +kernel : decode code 240 = .ok (.aload_n 0, 1)) rfl),
  ⟨OpOk.p (ok_iload (by decide +kernel : decode code 241 = .ok (.iload 5, 2))),
  ⟨OpOk.p (ok_iconst (by decide) (by decide +kernel : decode code 243 = .ok (.iconst 1, 1))),
  ⟨OpOk.p (ok_iadd (by decide +kernel : decode code 244 = .ok (.iadd, 1))),
  ⟨ok_sld (by decide +kernel : decode code 245 = .ok (.iaload, 1)),
  ⟨OpOk.p (ok_aload_n (by decide +kernel : decode code 246 = .ok (.aload_n 0, 1)) rfl),
  ⟨OpOk.p (ok_iload (by decide +kernel : decode code 247 = .ok (.iload 5, 2))),
  ⟨OpOk.p (ok_iconst (by decide) (by decide +kernel : decode code 249 = .ok (.iconst 2, 1))),
  ⟨OpOk.p (ok_iadd (by decide +kernel : decode code 250 = .ok (.iadd, 1))),
  ⟨ok_sld (by decide +kernel : decode code 251 = .ok (.iaload, 1)),
  ⟨OpOk.p (ok_aload_n (by decide +kernel : decode code 252 = .ok (.aload_n 0, 1)) rfl),
  ⟨OpOk.p (ok_iload (by decide +kernel : decode code 253 = .ok (.iload 5, 2))),
  ⟨OpOk.p (ok_iconst (by decide) (by decide +kernel : decode code 255 = .ok (.iconst 3, 1))),
  ⟨OpOk.p (ok_iadd (by decide +kernel : decode code 256 = .ok (.iadd, 1))),
  ⟨ok_sld (by decide +kernel : decode code 257 = .ok (.iaload, 1)),
  ⟨OpOk.p (ok_aload_n (by decide +kernel : decode code 258 = .ok (.aload_n 0, 1)) rfl),
  ⟨OpOk.p (ok_iload (by decide +kernel : decode code 259 = .ok (.iload 5, 2))),
  ⟨OpOk.p (ok_iconst (by decide) (by decide +kernel : decode code 261 = .ok (.iconst 4, 1))),
  ⟨OpOk.p (ok_iadd (by decide +kernel : decode code 262 = .ok (.iadd, 1))),
  ⟨ok_sld (by decide +kernel : decode code 263 = .ok (.iaload, 1)),
  ⟨OpOk.p (OpOk.mono (M := m_law g l) (pc := 264) (ok_callV (k := 4) cls_10 (s_Mo_load g l hst) (show 40 < 100 from by decide) (Nat.le_of_ble_eq_true rfl) rfl rfl tw_1420 tw_1421 tw_1422 tw_9 tw_1423 ⟨by decide, by decide, by decide⟩ (by decide +kernel : decode code 264 = .ok (.invokevirtual 138, 3))) callR0_of), trivial⟩⟩⟩⟩⟩⟩⟩⟩⟩⟩⟩⟩⟩⟩⟩⟩⟩⟩⟩⟩⟩⟩⟩
def b_law_267 (g : GG) (z : Scr) : Blk := [(2, o_istore 7), (1, o_aload 2), (3, o_callR (o_call0 T_Mo_thrown 1) 10 1)]
set_option maxRecDepth 8000 in
theorem okb_law_267 (g : GG) (l : Launch) (hst : l.stackTraces = false) (z : Scr) : BlkOkP (m_law g l) (PS z) 267 (b_law_267 g z) := 
  ⟨OpOk.p (ok_istore (Nat.le_of_ble_eq_true rfl) (by decide +kernel : decode code 267 = .ok (.istore 7, 2))),
  ⟨OpOk.p (ok_aload_n (by decide +kernel : decode code 269 = .ok (.aload_n 2, 1)) rfl),
  ⟨OpOk.p (OpOk.mono (M := m_law g l) (pc := 270) (ok_callV (k := 0) cls_10 (s_Mo_thrown g l hst) (show 1 < 100 from by decide) (Nat.le_of_ble_eq_true rfl) rfl rfl tw_1416 tw_1417 tw_1418 tw_9 tw_1419 ⟨by decide, by decide, by decide⟩ (by decide +kernel : decode code 270 = .ok (.invokevirtual 139, 3))) callR0_of), trivial⟩⟩⟩
def b_law_273 (g : GG) (z : Scr) : Blk := [(2, o_iload 6), (3, o_iceq 280), (1, o_push (.int 0)), (1, o_zret)]
set_option maxRecDepth 8000 in
theorem okb_law_273 (g : GG) (l : Launch) (hst : l.stackTraces = false) (z : Scr) : BlkOkP (m_law g l) (PS z) 273 (b_law_273 g z) := 
  ⟨OpOk.p (ok_iload (by decide +kernel : decode code 273 = .ok (.iload 6, 2))),
  ⟨OpOk.p (ok_iceq (by decide) (by decide +kernel : decode code 275 = .ok (.if_icmp .eq 5, 3))),
  ⟨OpOk.p (ok_iconst (by decide) (by decide +kernel : decode code 278 = .ok (.iconst 0, 1))),
  ⟨OpOk.p (ok_zret rfl (by decide +kernel : decode code 279 = .ok (.ireturn, 1))), trivial⟩⟩⟩⟩
def b_law_280 (g : GG) (z : Scr) : Blk := [(2, o_iload 6), (3, o_ifne 297), (1, o_aload 3), (1, o_push (.int 0)), (1, o_lald), (2, o_iload 7), (1, o_i2l), (1, o_lcmp), (3, o_ifeq 297), (1, o_push (.int 0)), (1, o_zret)]
set_option maxRecDepth 8000 in
theorem okb_law_280 (g : GG) (l : Launch) (hst : l.stackTraces = false) (z : Scr) : BlkOkP (m_law g l) (PS z) 280 (b_law_280 g z) := 
  ⟨OpOk.p (ok_iload (by decide +kernel : decode code 280 = .ok (.iload 6, 2))),
  ⟨OpOk.p (ok_ifne (by decide) (by decide +kernel : decode code 282 = .ok (.ifCond .ne 15, 3))),
  ⟨OpOk.p (ok_aload_n (by decide +kernel : decode code 285 = .ok (.aload_n 3, 1)) rfl),
  ⟨OpOk.p (ok_iconst (by decide) (by decide +kernel : decode code 286 = .ok (.iconst 0, 1))),
  ⟨OpOk.p (ok_lald (by decide +kernel : decode code 287 = .ok (.laload, 1))),
  ⟨OpOk.p (ok_iload (by decide +kernel : decode code 288 = .ok (.iload 7, 2))),
  ⟨OpOk.p (ok_i2l (by decide +kernel : decode code 290 = .ok (.i2l, 1))),
  ⟨OpOk.p (ok_lcmp (by decide +kernel : decode code 291 = .ok (.lcmp, 1))),
  ⟨OpOk.p (ok_ifeq (by decide) (by decide +kernel : decode code 292 = .ok (.ifCond .eq 5, 3))),
  ⟨OpOk.p (ok_iconst (by decide) (by decide +kernel : decode code 295 = .ok (.iconst 0, 1))),
  ⟨OpOk.p (ok_zret rfl (by decide +kernel : decode code 296 = .ok (.ireturn, 1))), trivial⟩⟩⟩⟩⟩⟩⟩⟩⟩⟩⟩
def b_law_297 (g : GG) (z : Scr) : Blk := [(3, o_goto 2528)]
set_option maxRecDepth 8000 in
theorem okb_law_297 (g : GG) (l : Launch) (hst : l.stackTraces = false) (z : Scr) : BlkOkP (m_law g l) (PS z) 297 (b_law_297 g z) := 
  ⟨OpOk.p (ok_goto (by decide) (by decide +kernel : decode code 297 = .ok (.goto 2231, 3))), trivial⟩
def k_law_c0 (g : GG) (z : Scr) : List (Nat × Blk) := [(208, b_law_208 g z), (237, b_law_237 g z), (267, b_law_267 g z), (273, b_law_273 g z), (280, b_law_280 g z), (297, b_law_297 g z)]
theorem okl_law_c0 (g : GG) (l : Launch) (hst : l.stackTraces = false) (z : Scr) : ∀ b ∈ k_law_c0 g z, BlkOkP (m_law g l) (PS z) b.1 b.2 := List.forall_mem_cons.mpr ⟨okb_law_208 g l hst z, List.forall_mem_cons.mpr ⟨okb_law_237 g l hst z, List.forall_mem_cons.mpr ⟨okb_law_267 g l hst z, List.forall_mem_cons.mpr ⟨okb_law_273 g l hst z, List.forall_mem_cons.mpr ⟨okb_law_280 g l hst z, List.forall_mem_cons.mpr ⟨okb_law_297 g l hst z, fun _ h => by cases h⟩⟩⟩⟩⟩⟩
def b_law_300 (g : GG) (z : Scr) : Blk := [(1, o_aload 1), (1, o_aload 0), (2, o_iload 5), (1, o_push (.int 1)), (1, o_iadd), (1, o_sld z), (1, o_aload 0), (2, o_iload 5), (1, o_push (.int 2)), (1, o_iadd), (1, o_sld z), (1, o_aload 0), (2, o_iload 5), (1, o_push (.int 3)), (1, o_iadd), (1, o_sld z), (1, o_aload 3), (3, o_callX (T_La_set g) 5 2 12)]
set_option maxRecDepth 8000 in
theorem okb_law_300 (g : GG) (l : Launch) (hst : l.stackTraces = false) (z : Scr) : BlkOkP (m_law g l) (PS z) 300 (b_law_300 g z) := 
  ⟨OpOk.p (ok_aload_n (by decide +kernel : decode code 300 = .ok (.aload_n 1, 1)) rfl),
  ⟨OpOk.p (ok_aload_n (by decide +kernel : decode code 301 = .ok (.aload_n 0, 1)) rfl),
  ⟨OpOk.p (ok_iload (by decide +kernel : decode code 302 = .ok (.iload 5, 2))),
  ⟨OpOk.p (ok_iconst (by decide) (by decide +kernel : decode code 304 = .ok (.iconst 1, 1))),
  ⟨OpOk.p (ok_iadd (by decide +kernel : decode code 305 = .ok (.iadd, 1))),
  ⟨ok_sld (by decide +kernel : decode code 306 = .ok (.iaload, 1)),
  ⟨OpOk.p (ok_aload_n (by decide +kernel : decode code 307 = .ok (.aload_n 0, 1)) rfl),
  ⟨OpOk.p (ok_iload (by decide +kernel : decode code 308 = .ok (.iload 5, 2))),
  ⟨OpOk.p (ok_iconst (by decide) (by decide +kernel : decode code 310 = .ok (.iconst 2, 1))),
  ⟨OpOk.p (ok_iadd (by decide +kernel : decode code 311 = .ok (.iadd, 1))),
  ⟨ok_sld (by decide +kernel : decode code 312 = .ok (.iaload, 1)),
  ⟨OpOk.p (ok_aload_n (by decide +kernel : decode code 313 = .ok (.aload_n 0, 1)) rfl),
  ⟨OpOk.p (ok_iload (by decide +kernel : decode code 314 = .ok (.iload 5, 2))),
  ⟨OpOk.p (ok_iconst (by decide) (by decide +kernel : decode code 316 = .ok (.iconst 3, 1))),
  ⟨OpOk.p (ok_iadd (by decide +kernel : decode code 317 = .ok (.iadd, 1))),
  ⟨ok_sld (by decide +kernel : decode code 318 = .ok (.iaload, 1)),
  ⟨OpOk.p (ok_aload_n (by decide +kernel : decode code 319 = .ok (.aload_n 3, 1)) rfl),
  ⟨OpOk.p (ok_callSH (k := 5) (s_La_set g l hst) (show 12 < 100 from by decide) (Nat.le_of_ble_eq_true rfl) rfl tw_609 tw_610 tw_0 tw_611 ⟨by decide, by decide, by decide⟩ (by decide +kernel : decode code 320 = .ok (.invokestatic 143, 3))), trivial⟩⟩⟩⟩⟩⟩⟩⟩⟩⟩⟩⟩⟩⟩⟩⟩⟩⟩
def b_law_323 (g : GG) (z : Scr) : Blk := [(2, o_istore 6), (1, o_aload 2), (1, o_aload 0), (2, o_iload 5), (1, o_push (.int 1)), (1, o_iadd), (1, o_sld z), (1, o_aload 0), (2, o_iload 5), (1, o_push (.int 2)), (1, o_iadd), (1, o_sld z), (1, o_aload 0), (2, o_iload 5), (1, o_push (.int 3)), (1, o_iadd), (1, o_sld z), (3, o_callR (o_call0 T_Mo_set 4) 10 4)]
set_option maxRecDepth 8000 in
theorem okb_law_323 (g : GG) (l : Launch) (hst : l.stackTraces = false) (z : Scr) : BlkOkP (m_law g l) (PS z) 323 (b_law_323 g z) := 
  ⟨OpOk.p (ok_istore (Nat.le_of_ble_eq_true rfl) (by decide +kernel : decode code 323 = .ok (.istore 6, 2))),
  ⟨OpOk.p (ok_aload_n (by decide +kernel : decode code 325 = .ok (.aload_n 2, 1)) rfl),
  ⟨OpOk.p (ok_aload_n (by decide +kernel : decode code 326 = .ok (.aload_n 0, 1)) rfl),
  ⟨OpOk.p (ok_iload (by decide +kernel : decode code 327 = .ok (.iload 5, 2))),
  ⟨OpOk.p (ok_iconst (by decide) (by decide +kernel : decode code 329 = .ok (.iconst 1, 1))),
  ⟨OpOk.p (ok_iadd (by decide +kernel : decode code 330 = .ok (.iadd, 1))),
  ⟨ok_sld (by decide +kernel : decode code 331 = .ok (.iaload, 1)),
  ⟨OpOk.p (ok_aload_n (by decide +kernel : decode code 332 = .ok (.aload_n 0, 1)) rfl),
  ⟨OpOk.p (ok_iload (by decide +kernel : decode code 333 = .ok (.iload 5, 2))),
  ⟨OpOk.p (ok_iconst (by decide) (by decide +kernel : decode code 335 = .ok (.iconst 2, 1))),
  ⟨OpOk.p (ok_iadd (by decide +kernel : decode code 336 = .ok (.iadd, 1))),
  ⟨ok_sld (by decide +kernel : decode code 337 = .ok (.iaload, 1)),
  ⟨OpOk.p (ok_aload_n (by decide +kernel : decode code 338 = .ok (.aload_n 0, 1)) rfl),
  ⟨OpOk.p (ok_iload (by decide +kernel : decode code 339 = .ok (.iload 5, 2))),
  ⟨OpOk.p (ok_iconst (by decide) (by decide +kernel : decode code 341 = .ok (.iconst 3, 1))),
  ⟨OpOk.p (ok_iadd (by decide +kernel : decode code 342 = .ok (.iadd, 1))),
  ⟨ok_sld (by decide +kernel : decode code 343 = .ok (.iaload, 1)),
  ⟨OpOk.p (OpOk.mono (M := m_law g l) (pc := 344) (ok_callV (k := 3) cls_10 (s_Mo_set g l hst) (show 40 < 100 from by decide) (Nat.le_of_ble_eq_true rfl) rfl rfl tw_1446 tw_1447 tw_1448 tw_9 tw_1449 ⟨by decide, by decide, by decide⟩ (by decide +kernel : decode code 344 = .ok (.invokevirtual 146, 3))) callR0_of), trivial⟩⟩⟩⟩⟩⟩⟩⟩⟩⟩⟩⟩⟩⟩⟩⟩⟩⟩
def b_law_347 (g : GG) (z : Scr) : Blk := [(2, o_istore 7), (1, o_aload 2), (3, o_callR (o_call0 T_Mo_thrown 1) 10 1)]
set_option maxRecDepth 8000 in
theorem okb_law_347 (g : GG) (l : Launch) (hst : l.stackTraces = false) (z : Scr) : BlkOkP (m_law g l) (PS z) 347 (b_law_347 g z) := 
  ⟨OpOk.p (ok_istore (Nat.le_of_ble_eq_true rfl) (by decide +kernel : decode code 347 = .ok (.istore 7, 2))),
  ⟨OpOk.p (ok_aload_n (by decide +kernel : decode code 349 = .ok (.aload_n 2, 1)) rfl),
  ⟨OpOk.p (OpOk.mono (M := m_law g l) (pc := 350) (ok_callV (k := 0) cls_10 (s_Mo_thrown g l hst) (show 1 < 100 from by decide) (Nat.le_of_ble_eq_true rfl) rfl rfl tw_1416 tw_1417 tw_1418 tw_9 tw_1419 ⟨by decide, by decide, by decide⟩ (by decide +kernel : decode code 350 = .ok (.invokevirtual 139, 3))) callR0_of), trivial⟩⟩⟩
def b_law_353 (g : GG) (z : Scr) : Blk := [(2, o_iload 6), (3, o_iceq 360), (1, o_push (.int 0)), (1, o_zret)]
set_option maxRecDepth 8000 in
theorem okb_law_353 (g : GG) (l : Launch) (hst : l.stackTraces = false) (z : Scr) : BlkOkP (m_law g l) (PS z) 353 (b_law_353 g z) := 
  ⟨OpOk.p (ok_iload (by decide +kernel : decode code 353 = .ok (.iload 6, 2))),
  ⟨OpOk.p (ok_iceq (by decide) (by decide +kernel : decode code 355 = .ok (.if_icmp .eq 5, 3))),
  ⟨OpOk.p (ok_iconst (by decide) (by decide +kernel : decode code 358 = .ok (.iconst 0, 1))),
  ⟨OpOk.p (ok_zret rfl (by decide +kernel : decode code 359 = .ok (.ireturn, 1))), trivial⟩⟩⟩⟩
def b_law_360 (g : GG) (z : Scr) : Blk := [(2, o_iload 6), (3, o_ifne 384), (1, o_aload 3), (1, o_push (.int 0)), (1, o_lald), (2, o_iload 7), (3, o_ifeq 377), (1, o_push (.long 1)), (3, o_goto 378)]
set_option maxRecDepth 8000 in
theorem okb_law_360 (g : GG) (l : Launch) (hst : l.stackTraces = false) (z : Scr) : BlkOkP (m_law g l) (PS z) 360 (b_law_360 g z) := 
  ⟨OpOk.p (ok_iload (by decide +kernel : decode code 360 = .ok (.iload 6, 2))),
  ⟨OpOk.p (ok_ifne (by decide) (by decide +kernel : decode code 362 = .ok (.ifCond .ne 22, 3))),
  ⟨OpOk.p (ok_aload_n (by decide +kernel : decode code 365 = .ok (.aload_n 3, 1)) rfl),
  ⟨OpOk.p (ok_iconst (by decide) (by decide +kernel : decode code 366 = .ok (.iconst 0, 1))),
  ⟨OpOk.p (ok_lald (by decide +kernel : decode code 367 = .ok (.laload, 1))),
  ⟨OpOk.p (ok_iload (by decide +kernel : decode code 368 = .ok (.iload 7, 2))),
  ⟨OpOk.p (ok_ifeq (by decide) (by decide +kernel : decode code 370 = .ok (.ifCond .eq 7, 3))),
  ⟨OpOk.p (ok_lconst (by decide) (by decide +kernel : decode code 373 = .ok (.lconst 1, 1))),
  ⟨OpOk.p (ok_goto (by decide) (by decide +kernel : decode code 374 = .ok (.goto 4, 3))), trivial⟩⟩⟩⟩⟩⟩⟩⟩⟩
def b_law_377 (g : GG) (z : Scr) : Blk := [(1, o_push (.long 0))]
set_option maxRecDepth 8000 in
theorem okb_law_377 (g : GG) (l : Launch) (hst : l.stackTraces = false) (z : Scr) : BlkOkP (m_law g l) (PS z) 377 (b_law_377 g z) := 
  ⟨OpOk.p (ok_lconst (by decide) (by decide +kernel : decode code 377 = .ok (.lconst 0, 1))), trivial⟩
def b_law_378 (g : GG) (z : Scr) : Blk := [(1, o_lcmp), (3, o_ifeq 384), (1, o_push (.int 0)), (1, o_zret)]
set_option maxRecDepth 8000 in
theorem okb_law_378 (g : GG) (l : Launch) (hst : l.stackTraces = false) (z : Scr) : BlkOkP (m_law g l) (PS z) 378 (b_law_378 g z) := 
  ⟨OpOk.p (ok_lcmp (by decide +kernel : decode code 378 = .ok (.lcmp, 1))),
  ⟨OpOk.p (ok_ifeq (by decide) (by decide +kernel : decode code 379 = .ok (.ifCond .eq 5, 3))),
  ⟨OpOk.p (ok_iconst (by decide) (by decide +kernel : decode code 382 = .ok (.iconst 0, 1))),
  ⟨OpOk.p (ok_zret rfl (by decide +kernel : decode code 383 = .ok (.ireturn, 1))), trivial⟩⟩⟩⟩
def b_law_384 (g : GG) (z : Scr) : Blk := [(3, o_goto 2528)]
set_option maxRecDepth 8000 in
theorem okb_law_384 (g : GG) (l : Launch) (hst : l.stackTraces = false) (z : Scr) : BlkOkP (m_law g l) (PS z) 384 (b_law_384 g z) := 
  ⟨OpOk.p (ok_goto (by decide) (by decide +kernel : decode code 384 = .ok (.goto 2144, 3))), trivial⟩
def k_law_c1 (g : GG) (z : Scr) : List (Nat × Blk) := [(300, b_law_300 g z), (323, b_law_323 g z), (347, b_law_347 g z), (353, b_law_353 g z), (360, b_law_360 g z), (377, b_law_377 g z), (378, b_law_378 g z), (384, b_law_384 g z)]
theorem okl_law_c1 (g : GG) (l : Launch) (hst : l.stackTraces = false) (z : Scr) : ∀ b ∈ k_law_c1 g z, BlkOkP (m_law g l) (PS z) b.1 b.2 := List.forall_mem_cons.mpr ⟨okb_law_300 g l hst z, List.forall_mem_cons.mpr ⟨okb_law_323 g l hst z, List.forall_mem_cons.mpr ⟨okb_law_347 g l hst z, List.forall_mem_cons.mpr ⟨okb_law_353 g l hst z, List.forall_mem_cons.mpr ⟨okb_law_360 g l hst z, List.forall_mem_cons.mpr ⟨okb_law_377 g l hst z, List.forall_mem_cons.mpr ⟨okb_law_378 g l hst z, List.forall_mem_cons.mpr ⟨okb_law_384 g l hst z, fun _ h => by cases h⟩⟩⟩⟩⟩⟩⟩⟩
def b_law_387 (g : GG) (z : Scr) : Blk := [(1, o_aload 1), (1, o_aload 0), (2, o_iload 5), (1, o_push (.int 1)), (1, o_iadd), (1, o_sld z), (1, o_aload 0), (2, o_iload 5), (1, o_push (.int 2)), (1, o_iadd), (1, o_sld z), (1, o_aload 3), (3, o_callX (T_La_clear g) 4 2 12)]
set_option maxRecDepth 8000 in
theorem okb_law_387 (g : GG) (l : Launch) (hst : l.stackTraces = false) (z : Scr) : BlkOkP (m_law g l) (PS z) 387 (b_law_387 g z) := 
  ⟨OpOk.p (ok_aload_n (by decide +kernel : decode code 387 = .ok (.aload_n 1, 1)) rfl),
  ⟨OpOk.p (ok_aload_n (by decide +kernel : decode code 388 = .ok (.aload_n 0, 1)) rfl),
  ⟨OpOk.p (ok_iload (by decide +kernel : decode code 389 = .ok (.iload 5, 2))),
  ⟨OpOk.p (ok_iconst (by decide) (by decide +kernel : decode code 391 = .ok (.iconst 1, 1))),
  ⟨OpOk.p (ok_iadd (by decide +kernel : decode code 392 = .ok (.iadd, 1))),
  ⟨ok_sld (by decide +kernel : decode code 393 = .ok (.iaload, 1)),
  ⟨OpOk.p (ok_aload_n (by decide +kernel : decode code 394 = .ok (.aload_n 0, 1)) rfl),
  ⟨OpOk.p (ok_iload (by decide +kernel : decode code 395 = .ok (.iload 5, 2))),
  ⟨OpOk.p (ok_iconst (by decide) (by decide +kernel : decode code 397 = .ok (.iconst 2, 1))),
  ⟨OpOk.p (ok_iadd (by decide +kernel : decode code 398 = .ok (.iadd, 1))),
  ⟨ok_sld (by decide +kernel : decode code 399 = .ok (.iaload, 1)),
  ⟨OpOk.p (ok_aload_n (by decide +kernel : decode code 400 = .ok (.aload_n 3, 1)) rfl),
  ⟨OpOk.p (ok_callSH (k := 4) (s_La_clear g l hst) (show 12 < 100 from by decide) (Nat.le_of_ble_eq_true rfl) rfl tw_684 tw_685 tw_0 tw_686 ⟨by decide, by decide, by decide⟩ (by decide +kernel : decode code 401 = .ok (.invokestatic 147, 3))), trivial⟩⟩⟩⟩⟩⟩⟩⟩⟩⟩⟩⟩⟩
def b_law_404 (g : GG) (z : Scr) : Blk := [(2, o_istore 6), (1, o_aload 2), (1, o_aload 0), (2, o_iload 5), (1, o_push (.int 1)), (1, o_iadd), (1, o_sld z), (1, o_aload 0), (2, o_iload 5), (1, o_push (.int 2)), (1, o_iadd), (1, o_sld z), (3, o_callR (o_call0 T_Mo_clear 3) 10 3)]
set_option maxRecDepth 8000 in
theorem okb_law_404 (g : GG) (l : Launch) (hst : l.stackTraces = false) (z : Scr) : BlkOkP (m_law g l) (PS z) 404 (b_law_404 g z) := 
  ⟨OpOk.p (ok_istore (Nat.le_of_ble_eq_true rfl) (by decide +kernel : decode code 404 = .ok (.istore 6, 2))),
  ⟨OpOk.p (ok_aload_n (by decide +kernel : decode code 406 = .ok (.aload_n 2, 1)) rfl),
  ⟨OpOk.p (ok_aload_n (by decide +kernel : decode code 407 = .ok (.aload_n 0, 1)) rfl),
  ⟨OpOk.p (ok_iload (by decide +kernel : decode code 408 = .ok (.iload 5, 2))),
  ⟨OpOk.p (ok_iconst (by decide) (by decide +kernel : decode code 410 = .ok (.iconst 1, 1))),
  ⟨OpOk.p (ok_iadd (by decide +kernel : decode code 411 = .ok (.iadd, 1))),
  ⟨ok_sld (by decide +kernel : decode code 412 = .ok (.iaload, 1)),
  ⟨OpOk.p (ok_aload_n (by decide +kernel : decode code 413 = .ok (.aload_n 0, 1)) rfl),
  ⟨OpOk.p (ok_iload (by decide +kernel : decode code 414 = .ok (.iload 5, 2))),
  ⟨OpOk.p (ok_iconst (by decide) (by decide +kernel : decode code 416 = .ok (.iconst 2, 1))),
  ⟨OpOk.p (ok_iadd (by decide +kernel : decode code 417 = .ok (.iadd, 1))),
  ⟨ok_sld (by decide +kernel : decode code 418 = .ok (.iaload, 1)),
  ⟨OpOk.p (OpOk.mono (M := m_law g l) (pc := 419) (ok_callV (k := 2) cls_10 (s_Mo_clear g l hst) (show 40 < 100 from by decide) (Nat.le_of_ble_eq_true rfl) rfl rfl tw_1462 tw_1463 tw_1464 tw_9 tw_1465 ⟨by decide, by decide, by decide⟩ (by decide +kernel : decode code 419 = .ok (.invokevirtual 150, 3))) callR0_of), trivial⟩⟩⟩⟩⟩⟩⟩⟩⟩⟩⟩⟩⟩
def b_law_422 (g : GG) (z : Scr) : Blk := [(2, o_istore 7), (1, o_aload 2), (3, o_callR (o_call0 T_Mo_thrown 1) 10 1)]
set_option maxRecDepth 8000 in
theorem okb_law_422 (g : GG) (l : Launch) (hst : l.stackTraces = false) (z : Scr) : BlkOkP (m_law g l) (PS z) 422 (b_law_422 g z) := 
  ⟨OpOk.p (ok_istore (Nat.le_of_ble_eq_true rfl) (by decide +kernel : decode code 422 = .ok (.istore 7, 2))),
  ⟨OpOk.p (ok_aload_n (by decide +kernel : decode code 424 = .ok (.aload_n 2, 1)) rfl),
  ⟨OpOk.p (OpOk.mono (M := m_law g l) (pc := 425) (ok_callV (k := 0) cls_10 (s_Mo_thrown g l hst) (show 1 < 100 from by decide) (Nat.le_of_ble_eq_true rfl) rfl rfl tw_1416 tw_1417 tw_1418 tw_9 tw_1419 ⟨by decide, by decide, by decide⟩ (by decide +kernel : decode code 425 = .ok (.invokevirtual 139, 3))) callR0_of), trivial⟩⟩⟩
def b_law_428 (g : GG) (z : Scr) : Blk := [(2, o_iload 6), (3, o_iceq 435), (1, o_push (.int 0)), (1, o_zret)]
set_option maxRecDepth 8000 in
theorem okb_law_428 (g : GG) (l : Launch) (hst : l.stackTraces = false) (z : Scr) : BlkOkP (m_law g l) (PS z) 428 (b_law_428 g z) := 
  ⟨OpOk.p (ok_iload (by decide +kernel : decode code 428 = .ok (.iload 6, 2))),
  ⟨OpOk.p (ok_iceq (by decide) (by decide +kernel : decode code 430 = .ok (.if_icmp .eq 5, 3))),
  ⟨OpOk.p (ok_iconst (by decide) (by decide +kernel : decode code 433 = .ok (.iconst 0, 1))),
  ⟨OpOk.p (ok_zret rfl (by decide +kernel : decode code 434 = .ok (.ireturn, 1))), trivial⟩⟩⟩⟩
def b_law_435 (g : GG) (z : Scr) : Blk := [(2, o_iload 6), (3, o_ifne 459), (1, o_aload 3), (1, o_push (.int 0)), (1, o_lald), (2, o_iload 7), (3, o_ifeq 452), (1, o_push (.long 1)), (3, o_goto 453)]
set_option maxRecDepth 8000 in
theorem okb_law_435 (g : GG) (l : Launch) (hst : l.stackTraces = false) (z : Scr) : BlkOkP (m_law g l) (PS z) 435 (b_law_435 g z) := 
  ⟨OpOk.p (ok_iload (by decide +kernel : decode code 435 = .ok (.iload 6, 2))),
  ⟨OpOk.p (ok_ifne (by decide) (by decide +kernel : decode code 437 = .ok (.ifCond .ne 22, 3))),
  ⟨OpOk.p (ok_aload_n (by decide +kernel : decode code 440 = .ok (.aload_n 3, 1)) rfl),
  ⟨OpOk.p (ok_iconst (by decide) (by decide +kernel : decode code 441 = .ok (.iconst 0, 1))),
  ⟨OpOk.p (ok_lald (by decide +kernel : decode code 442 = .ok (.laload, 1))),
  ⟨OpOk.p (ok_iload (by decide +kernel : decode code 443 = .ok (.iload 7, 2))),
  ⟨OpOk.p (ok_ifeq (by decide) (by decide +kernel : decode code 445 = .ok (.ifCond .eq 7, 3))),
  ⟨OpOk.p (ok_lconst (by decide) (by decide +kernel : decode code 448 = .ok (.lconst 1, 1))),
  ⟨OpOk.p (ok_goto (by decide) (by decide +kernel : decode code 449 = .ok (.goto 4, 3))), trivial⟩⟩⟩⟩⟩⟩⟩⟩⟩
def b_law_452 (g : GG) (z : Scr) : Blk := [(1, o_push (.long 0))]
set_option maxRecDepth 8000 in
theorem okb_law_452 (g : GG) (l : Launch) (hst : l.stackTraces = false) (z : Scr) : BlkOkP (m_law g l) (PS z) 452 (b_law_452 g z) := 
  ⟨OpOk.p (ok_lconst (by decide) (by decide +kernel : decode code 452 = .ok (.lconst 0, 1))), trivial⟩
def b_law_453 (g : GG) (z : Scr) : Blk := [(1, o_lcmp), (3, o_ifeq 459), (1, o_push (.int 0)), (1, o_zret)]
set_option maxRecDepth 8000 in
theorem okb_law_453 (g : GG) (l : Launch) (hst : l.stackTraces = false) (z : Scr) : BlkOkP (m_law g l) (PS z) 453 (b_law_453 g z) := 
  ⟨OpOk.p (ok_lcmp (by decide +kernel : decode code 453 = .ok (.lcmp, 1))),
  ⟨OpOk.p (ok_ifeq (by decide) (by decide +kernel : decode code 454 = .ok (.ifCond .eq 5, 3))),
  ⟨OpOk.p (ok_iconst (by decide) (by decide +kernel : decode code 457 = .ok (.iconst 0, 1))),
  ⟨OpOk.p (ok_zret rfl (by decide +kernel : decode code 458 = .ok (.ireturn, 1))), trivial⟩⟩⟩⟩
def b_law_459 (g : GG) (z : Scr) : Blk := [(3, o_goto 2528)]
set_option maxRecDepth 8000 in
theorem okb_law_459 (g : GG) (l : Launch) (hst : l.stackTraces = false) (z : Scr) : BlkOkP (m_law g l) (PS z) 459 (b_law_459 g z) := 
  ⟨OpOk.p (ok_goto (by decide) (by decide +kernel : decode code 459 = .ok (.goto 2069, 3))), trivial⟩
def k_law_c2 (g : GG) (z : Scr) : List (Nat × Blk) := [(387, b_law_387 g z), (404, b_law_404 g z), (422, b_law_422 g z), (428, b_law_428 g z), (435, b_law_435 g z), (452, b_law_452 g z), (453, b_law_453 g z), (459, b_law_459 g z)]
theorem okl_law_c2 (g : GG) (l : Launch) (hst : l.stackTraces = false) (z : Scr) : ∀ b ∈ k_law_c2 g z, BlkOkP (m_law g l) (PS z) b.1 b.2 := List.forall_mem_cons.mpr ⟨okb_law_387 g l hst z, List.forall_mem_cons.mpr ⟨okb_law_404 g l hst z, List.forall_mem_cons.mpr ⟨okb_law_422 g l hst z, List.forall_mem_cons.mpr ⟨okb_law_428 g l hst z, List.forall_mem_cons.mpr ⟨okb_law_435 g l hst z, List.forall_mem_cons.mpr ⟨okb_law_452 g l hst z, List.forall_mem_cons.mpr ⟨okb_law_453 g l hst z, List.forall_mem_cons.mpr ⟨okb_law_459 g l hst z, fun _ h => by cases h⟩⟩⟩⟩⟩⟩⟩⟩
def b_law_462 (g : GG) (z : Scr) : Blk := [(1, o_aload 1), (1, o_aload 0), (2, o_iload 5), (1, o_push (.int 1)), (1, o_iadd), (1, o_sld z), (1, o_aload 3), (3, o_callX (T_La_remove g) 3 2 12)]
set_option maxRecDepth 8000 in
theorem okb_law_462 (g : GG) (l : Launch) (hst : l.stackTraces = false) (z : Scr) : BlkOkP (m_law g l) (PS z) 462 (b_law_462 g z) := 
  ⟨OpOk.p (ok_aload_n (by decide +kernel : decode code 462 = .ok (.aload_n 1, 1)) rfl),
  ⟨OpOk.p (ok_aload_n (by decide +kernel : decode code 463 = .ok (.aload_n 0, 1)) rfl),
  ⟨OpOk.p (ok_iload (by decide +kernel : decode code 464 = .ok (.iload 5, 2))),
  ⟨OpOk.p (ok_iconst (by decide) (by decide +kernel : decode code 466 = .ok (.iconst 1, 1))),
  ⟨OpOk.p (ok_iadd (by decide +kernel : decode code 467 = .ok (.iadd, 1))),
  ⟨ok_sld (by decide +kernel : decode code 468 = .ok (.iaload, 1)),
  ⟨OpOk.p (ok_aload_n (by decide +kernel : decode code 469 = .ok (.aload_n 3, 1)) rfl),
  ⟨OpOk.p (ok_callSH (k := 3) (s_La_remove g l hst) (show 12 < 100 from by decide) (Nat.le_of_ble_eq_true rfl) rfl tw_691 tw_692 tw_0 tw_693 ⟨by decide, by decide, by decide⟩ (by decide +kernel : decode code 470 = .ok (.invokestatic 151, 3))), trivial⟩⟩⟩⟩⟩⟩⟩⟩
def b_law_473 (g : GG) (z : Scr) : Blk := [(2, o_istore 6), (1, o_aload 2), (1, o_aload 0), (2, o_iload 5), (1, o_push (.int 1)), (1, o_iadd), (1, o_sld z), (3, o_callR (o_call0 T_Mo_remove 2) 10 2)]
set_option maxRecDepth 8000 in
theorem okb_law_473 (g : GG) (l : Launch) (hst : l.stackTraces = false) (z : Scr) : BlkOkP (m_law g l) (PS z) 473 (b_law_473 g z) := 
  ⟨OpOk.p (ok_istore (Nat.le_of_ble_eq_true rfl) (by decide +kernel : decode code 473 = .ok (.istore 6, 2))),
  ⟨OpOk.p (ok_aload_n (by decide +kernel : decode code 475 = .ok (.aload_n 2, 1)) rfl),
  ⟨OpOk.p (ok_aload_n (by decide +kernel : decode code 476 = .ok (.aload_n 0, 1)) rfl),
  ⟨OpOk.p (ok_iload (by decide +kernel : decode code 477 = .ok (.iload 5, 2))),
  ⟨OpOk.p (ok_iconst (by decide) (by decide +kernel : decode code 479 = .ok (.iconst 1, 1))),
  ⟨OpOk.p (ok_iadd (by decide +kernel : decode code 480 = .ok (.iadd, 1))),
  ⟨ok_sld (by decide +kernel : decode code 481 = .ok (.iaload, 1)),
  ⟨OpOk.p (OpOk.mono (M := m_law g l) (pc := 482) (ok_callV (k := 1) cls_10 (s_Mo_remove g l hst) (show 40 < 100 from by decide) (Nat.le_of_ble_eq_true rfl) rfl rfl tw_1466 tw_1467 tw_1468 tw_9 tw_1469 ⟨by decide, by decide, by decide⟩ (by decide +kernel : decode code 482 = .ok (.invokevirtual 154, 3))) callR0_of), trivial⟩⟩⟩⟩⟩⟩⟩⟩
def b_law_485 (g : GG) (z : Scr) : Blk := [(2, o_istore 7), (1, o_aload 2), (3, o_callR (o_call0 T_Mo_thrown 1) 10 1)]
set_option maxRecDepth 8000 in
theorem okb_law_485 (g : GG) (l : Launch) (hst : l.stackTraces = false) (z : Scr) : BlkOkP (m_law g l) (PS z) 485 (b_law_485 g z) := 
  ⟨OpOk.p (ok_istore (Nat.le_of_ble_eq_true rfl) (by decide +kernel : decode code 485 = .ok (.istore 7, 2))),
  ⟨OpOk.p (ok_aload_n (by decide +kernel : decode code 487 = .ok (.aload_n 2, 1)) rfl),
  ⟨OpOk.p (OpOk.mono (M := m_law g l) (pc := 488) (ok_callV (k := 0) cls_10 (s_Mo_thrown g l hst) (show 1 < 100 from by decide) (Nat.le_of_ble_eq_true rfl) rfl rfl tw_1416 tw_1417 tw_1418 tw_9 tw_1419 ⟨by decide, by decide, by decide⟩ (by decide +kernel : decode code 488 = .ok (.invokevirtual 139, 3))) callR0_of), trivial⟩⟩⟩
def b_law_491 (g : GG) (z : Scr) : Blk := [(2, o_iload 6), (3, o_iceq 498), (1, o_push (.int 0)), (1, o_zret)]
set_option maxRecDepth 8000 in
theorem okb_law_491 (g : GG) (l : Launch) (hst : l.stackTraces = false) (z : Scr) : BlkOkP (m_law g l) (PS z) 491 (b_law_491 g z) := 
  ⟨OpOk.p (ok_iload (by decide +kernel : decode code 491 = .ok (.iload 6, 2))),
  ⟨OpOk.p (ok_iceq (by decide) (by decide +kernel : decode code 493 = .ok (.if_icmp .eq 5, 3))),
  ⟨OpOk.p (ok_iconst (by decide) (by decide +kernel : decode code 496 = .ok (.iconst 0, 1))),
  ⟨OpOk.p (ok_zret rfl (by decide +kernel : decode code 497 = .ok (.ireturn, 1))), trivial⟩⟩⟩⟩
def b_law_498 (g : GG) (z : Scr) : Blk := [(2, o_iload 6), (3, o_ifne 515), (1, o_aload 3), (1, o_push (.int 0)), (1, o_lald), (2, o_iload 7), (1, o_i2l), (1, o_lcmp), (3, o_ifeq 515), (1, o_push (.int 0)), (1, o_zret)]
set_option maxRecDepth 8000 in
theorem okb_law_498 (g : GG) (l : Launch) (hst : l.stackTraces = false) (z : Scr) : BlkOkP (m_law g l) (PS z) 498 (b_law_498 g z) := 
  ⟨OpOk.p (ok_iload (by decide +kernel : decode code 498 = .ok (.iload 6, 2))),
  ⟨OpOk.p (ok_ifne (by decide) (by decide +kernel : decode code 500 = .ok (.ifCond .ne 15, 3))),
  ⟨OpOk.p (ok_aload_n (by decide +kernel : decode code 503 = .ok (.aload_n 3, 1)) rfl),
  ⟨OpOk.p (ok_iconst (by decide) (by decide +kernel : decode code 504 = .ok (.iconst 0, 1))),
  ⟨OpOk.p (ok_lald (by decide +kernel : decode code 505 = .ok (.laload, 1))),
  ⟨OpOk.p (ok_iload (by decide +kernel : decode code 506 = .ok (.iload 7, 2))),
  ⟨OpOk.p (ok_i2l (by decide +kernel : decode code 508 = .ok (.i2l, 1))),
  ⟨OpOk.p (ok_lcmp (by decide +kernel : decode code 509 = .ok (.lcmp, 1))),
  ⟨OpOk.p (ok_ifeq (by decide) (by decide +kernel : decode code 510 = .ok (.ifCond .eq 5, 3))),
  ⟨OpOk.p (ok_iconst (by decide) (by decide +kernel : decode code 513 = .ok (.iconst 0, 1))),
  ⟨OpOk.p (ok_zret rfl (by decide +kernel : decode code 514 = .ok (.ireturn, 1))), trivial⟩⟩⟩⟩⟩⟩⟩⟩⟩⟩⟩
def b_law_515 (g : GG) (z : Scr) : Blk := [(3, o_goto 2528)]
set_option maxRecDepth 8000 in
theorem okb_law_515 (g : GG) (l : Launch) (hst : l.stackTraces = false) (z : Scr) : BlkOkP (m_law g l) (PS z) 515 (b_law_515 g z) := 
  ⟨OpOk.p (ok_goto (by decide) (by decide +kernel : decode code 515 = .ok (.goto 2013, 3))), trivial⟩
def k_law_c3 (g : GG) (z : Scr) : List (Nat × Blk) := [(462, b_law_462 g z), (473, b_law_473 g z), (485, b_law_485 g z), (491, b_law_491 g z), (498, b_law_498 g z), (515, b_law_515 g z)]
theorem okl_law_c3 (g : GG) (l : Launch) (hst : l.stackTraces = false) (z : Scr) : ∀ b ∈ k_law_c3 g z, BlkOkP (m_law g l) (PS z) b.1 b.2 := List.forall_mem_cons.mpr ⟨okb_law_462 g l hst z, List.forall_mem_cons.mpr ⟨okb_law_473 g l hst z, List.forall_mem_cons.mpr ⟨okb_law_485 g l hst z, List.forall_mem_cons.mpr ⟨okb_law_491 g l hst z, List.forall_mem_cons.mpr ⟨okb_law_498 g l hst z, List.forall_mem_cons.mpr ⟨okb_law_515 g l hst z, fun _ h => by cases h⟩⟩⟩⟩⟩⟩
def b_law_518 (g : GG) (z : Scr) : Blk := [(1, o_aload 1), (1, o_aload 0), (2, o_iload 5), (1, o_push (.int 1)), (1, o_iadd), (1, o_sld z), (1, o_aload 0), (2, o_iload 5), (1, o_push (.int 2)), (1, o_iadd), (1, o_sld z), (1, o_aload 3), (3, o_callX (T_La_valueAt g) 4 1 6)]
set_option maxRecDepth 8000 in
theorem okb_law_518 (g : GG) (l : Launch) (hst : l.stackTraces = false) (z : Scr) : BlkOkP (m_law g l) (PS z) 518 (b_law_518 g z) := 
  ⟨OpOk.p (ok_aload_n (by decide +kernel : decode code 518 = .ok (.aload_n 1, 1)) rfl),
  ⟨OpOk.p (ok_aload_n (by decide +kernel : decode code 519 = .ok (.aload_n 0, 1)) rfl),
  ⟨OpOk.p (ok_iload (by decide +kernel : decode code 520 = .ok (.iload 5, 2))),
  ⟨OpOk.p (ok_iconst (by decide) (by decide +kernel : decode code 522 = .ok (.iconst 1, 1))),
  ⟨OpOk.p (ok_iadd (by decide +kernel : decode code 523 = .ok (.iadd, 1))),
  ⟨ok_sld (by decide +kernel : decode code 524 = .ok (.iaload, 1)),
  ⟨OpOk.p (ok_aload_n (by decide +kernel : decode code 525 = .ok (.aload_n 0, 1)) rfl),
  ⟨OpOk.p (ok_iload (by decide +kernel : decode code 526 = .ok (.iload 5, 2))),
  ⟨OpOk.p (ok_iconst (by decide) (by decide +kernel : decode code 528 = .ok (.iconst 2, 1))),
  ⟨OpOk.p (ok_iadd (by decide +kernel : decode code 529 = .ok (.iadd, 1))),
  ⟨ok_sld (by decide +kernel : decode code 530 = .ok (.iaload, 1)),
  ⟨OpOk.p (ok_aload_n (by decide +kernel : decode code 531 = .ok (.aload_n 3, 1)) rfl),
  ⟨OpOk.p (ok_callSH (k := 4) (s_La_valueAt g l hst) (show 12 < 100 from by decide) (Nat.le_of_ble_eq_true rfl) rfl tw_703 tw_704 tw_0 tw_705 ⟨by decide, by decide, by decide⟩ (by decide +kernel : decode code 532 = .ok (.invokestatic 155, 3))), trivial⟩⟩⟩⟩⟩⟩⟩⟩⟩⟩⟩⟩⟩
def b_law_535 (g : GG) (z : Scr) : Blk := [(2, o_istore 6), (1, o_aload 2), (1, o_aload 0), (2, o_iload 5), (1, o_push (.int 1)), (1, o_iadd), (1, o_sld z), (1, o_aload 0), (2, o_iload 5), (1, o_push (.int 2)), (1, o_iadd), (1, o_sld z), (3, o_callR (o_call0 T_Mo_valueAt2 3) 10 3)]
set_option maxRecDepth 8000 in
theorem okb_law_535 (g : GG) (l : Launch) (hst : l.stackTraces = false) (z : Scr) : BlkOkP (m_law g l) (PS z) 535 (b_law_535 g z) := 
  ⟨OpOk.p (ok_istore (Nat.le_of_ble_eq_true rfl) (by decide +kernel : decode code 535 = .ok (.istore 6, 2))),
  ⟨OpOk.p (ok_aload_n (by decide +kernel : decode code 537 = .ok (.aload_n 2, 1)) rfl),
  ⟨OpOk.p (ok_aload_n (by decide +kernel : decode code 538 = .ok (.aload_n 0, 1)) rfl),
  ⟨OpOk.p (ok_iload (by decide +kernel : decode code 539 = .ok (.iload 5, 2))),
  ⟨OpOk.p (ok_iconst (by decide) (by decide +kernel : decode code 541 = .ok (.iconst 1, 1))),
  ⟨OpOk.p (ok_iadd (by decide +kernel : decode code 542 = .ok (.iadd, 1))),
  ⟨ok_sld (by decide +kernel : decode code 543 = .ok (.iaload, 1)),
  ⟨OpOk.p (ok_aload_n (by decide +kernel : decode code 544 = .ok (.aload_n 0, 1)) rfl),
  ⟨OpOk.p (ok_iload (by decide +kernel : decode code 545 = .ok (.iload 5, 2))),
  ⟨OpOk.p (ok_iconst (by decide) (by decide +kernel : decode code 547 = .ok (.iconst 2, 1))),
  ⟨OpOk.p (ok_iadd (by decide +kernel : decode code 548 = .ok (.iadd, 1))),
  ⟨ok_sld (by decide +kernel : decode code 549 = .ok (.iaload, 1)),
  ⟨OpOk.p (OpOk.mono (M := m_law g l) (pc := 550) (ok_callV (k := 2) cls_10 (s_Mo_valueAt2 g l hst) (show 10 < 100 from by decide) (Nat.le_of_ble_eq_true rfl) rfl rfl tw_1470 tw_1471 tw_1472 tw_9 tw_1473 ⟨by decide, by decide, by decide⟩ (by decide +kernel : decode code 550 = .ok (.invokevirtual 157, 3))) callR0_of), trivial⟩⟩⟩⟩⟩⟩⟩⟩⟩⟩⟩⟩⟩
def b_law_553 (g : GG) (z : Scr) : Blk := [(2, o_istore 7), (1, o_aload 2), (3, o_callR (o_call0 T_Mo_thrown 1) 10 1)]
set_option maxRecDepth 8000 in
theorem okb_law_553 (g : GG) (l : Launch) (hst : l.stackTraces = false) (z : Scr) : BlkOkP (m_law g l) (PS z) 553 (b_law_553 g z) := 
  ⟨OpOk.p (ok_istore (Nat.le_of_ble_eq_true rfl) (by decide +kernel : decode code 553 = .ok (.istore 7, 2))),
  ⟨OpOk.p (ok_aload_n (by decide +kernel : decode code 555 = .ok (.aload_n 2, 1)) rfl),
  ⟨OpOk.p (OpOk.mono (M := m_law g l) (pc := 556) (ok_callV (k := 0) cls_10 (s_Mo_thrown g l hst) (show 1 < 100 from by decide) (Nat.le_of_ble_eq_true rfl) rfl rfl tw_1416 tw_1417 tw_1418 tw_9 tw_1419 ⟨by decide, by decide, by decide⟩ (by decide +kernel : decode code 556 = .ok (.invokevirtual 139, 3))) callR0_of), trivial⟩⟩⟩
def b_law_559 (g : GG) (z : Scr) : Blk := [(2, o_iload 6), (3, o_iceq 566), (1, o_push (.int 0)), (1, o_zret)]
set_option maxRecDepth 8000 in
theorem okb_law_559 (g : GG) (l : Launch) (hst : l.stackTraces = false) (z : Scr) : BlkOkP (m_law g l) (PS z) 559 (b_law_559 g z) := 
  ⟨OpOk.p (ok_iload (by decide +kernel : decode code 559 = .ok (.iload 6, 2))),
  ⟨OpOk.p (ok_iceq (by decide) (by decide +kernel : decode code 561 = .ok (.if_icmp .eq 5, 3))),
  ⟨OpOk.p (ok_iconst (by decide) (by decide +kernel : decode code 564 = .ok (.iconst 0, 1))),
  ⟨OpOk.p (ok_zret rfl (by decide +kernel : decode code 565 = .ok (.ireturn, 1))), trivial⟩⟩⟩⟩
def b_law_566 (g : GG) (z : Scr) : Blk := [(2, o_iload 6), (3, o_ifne 583), (1, o_aload 3), (1, o_push (.int 0)), (1, o_lald), (2, o_iload 7), (1, o_i2l), (1, o_lcmp), (3, o_ifeq 583), (1, o_push (.int 0)), (1, o_zret)]
set_option maxRecDepth 8000 in
theorem okb_law_566 (g : GG) (l : Launch) (hst : l.stackTraces = false) (z : Scr) : BlkOkP (m_law g l) (PS z) 566 (b_law_566 g z) := 
  ⟨OpOk.p (ok_iload (by decide +kernel : decode code 566 = .ok (.iload 6, 2))),
  ⟨OpOk.p (ok_ifne (by decide) (by decide +kernel : decode code 568 = .ok (.ifCond .ne 15, 3))),
  ⟨OpOk.p (ok_aload_n (by decide +kernel : decode code 571 = .ok (.aload_n 3, 1)) rfl),
  ⟨OpOk.p (ok_iconst (by decide) (by decide +kernel : decode code 572 = .ok (.iconst 0, 1))),
  ⟨OpOk.p (ok_lald (by decide +kernel : decode code 573 = .ok (.laload, 1))),
  ⟨OpOk.p (ok_iload (by decide +kernel : decode code 574 = .ok (.iload 7, 2))),
  ⟨OpOk.p (ok_i2l (by decide +kernel : decode code 576 = .ok (.i2l, 1))),
  ⟨OpOk.p (ok_lcmp (by decide +kernel : decode code 577 = .ok (.lcmp, 1))),
  ⟨OpOk.p (ok_ifeq (by decide) (by decide +kernel : decode code 578 = .ok (.ifCond .eq 5, 3))),
  ⟨OpOk.p (ok_iconst (by decide) (by decide +kernel : decode code 581 = .ok (.iconst 0, 1))),
  ⟨OpOk.p (ok_zret rfl (by decide +kernel : decode code 582 = .ok (.ireturn, 1))), trivial⟩⟩⟩⟩⟩⟩⟩⟩⟩⟩⟩
def b_law_583 (g : GG) (z : Scr) : Blk := [(3, o_goto 2528)]
set_option maxRecDepth 8000 in
theorem okb_law_583 (g : GG) (l : Launch) (hst : l.stackTraces = false) (z : Scr) : BlkOkP (m_law g l) (PS z) 583 (b_law_583 g z) := 
  ⟨OpOk.p (ok_goto (by decide) (by decide +kernel : decode code 583 = .ok (.goto 1945, 3))), trivial⟩
def k_law_c4 (g : GG) (z : Scr) : List (Nat × Blk) := [(518, b_law_518 g z), (535, b_law_535 g z), (553, b_law_553 g z), (559, b_law_559 g z), (566, b_law_566 g z), (583, b_law_583 g z)]
theorem okl_law_c4 (g : GG) (l : Launch) (hst : l.stackTraces = false) (z : Scr) : ∀ b ∈ k_law_c4 g z, BlkOkP (m_law g l) (PS z) b.1 b.2 := List.forall_mem_cons.mpr ⟨okb_law_518 g l hst z, List.forall_mem_cons.mpr ⟨okb_law_535 g l hst z, List.forall_mem_cons.mpr ⟨okb_law_553 g l hst z, List.forall_mem_cons.mpr ⟨okb_law_559 g l hst z, List.forall_mem_cons.mpr ⟨okb_law_566 g l hst z, List.forall_mem_cons.mpr ⟨okb_law_583 g l hst z, fun _ h => by cases h⟩⟩⟩⟩⟩⟩
def b_law_586 (g : GG) (z : Scr) : Blk := [(1, o_aload 1), (3, o_callR (o_call0 (T_GP_moment g) 1) 9 1)]
set_option maxRecDepth 8000 in
theorem okb_law_586 (g : GG) (l : Launch) (hst : l.stackTraces = false) (z : Scr) : BlkOkP (m_law g l) (PS z) 586 (b_law_586 g z) := 
  ⟨OpOk.p (ok_aload_n (by decide +kernel : decode code 586 = .ok (.aload_n 1, 1)) rfl),
  ⟨OpOk.p (OpOk.mono (M := m_law g l) (pc := 587) (ok_callV (k := 0) cls_9 (s_GP_moment g l hst) (show 1 < 100 from by decide) (Nat.le_of_ble_eq_true rfl) rfl rfl tw_182 tw_183 tw_184 tw_1 tw_185 ⟨by decide, by decide, by decide⟩ (by decide +kernel : decode code 587 = .ok (.invokevirtual 158, 3))) callR0_of), trivial⟩⟩
def b_law_590 (g : GG) (z : Scr) : Blk := [(1, o_aload 2), (3, o_callR (o_call0 T_Mo_moment 1) 10 1)]
set_option maxRecDepth 8000 in
theorem okb_law_590 (g : GG) (l : Launch) (hst : l.stackTraces = false) (z : Scr) : BlkOkP (m_law g l) (PS z) 590 (b_law_590 g z) := 
  ⟨OpOk.p (ok_aload_n (by decide +kernel : decode code 590 = .ok (.aload_n 2, 1)) rfl),
  ⟨OpOk.p (OpOk.mono (M := m_law g l) (pc := 591) (ok_callV (k := 0) cls_10 (s_Mo_moment g l hst) (show 1 < 100 from by decide) (Nat.le_of_ble_eq_true rfl) rfl rfl tw_1474 tw_1475 tw_1476 tw_9 tw_1477 ⟨by decide, by decide, by decide⟩ (by decide +kernel : decode code 591 = .ok (.invokevirtual 161, 3))) callR0_of), trivial⟩⟩
def b_law_594 (g : GG) (z : Scr) : Blk := [(3, o_iceq 2528), (1, o_push (.int 0)), (1, o_zret)]
set_option maxRecDepth 8000 in
theorem okb_law_594 (g : GG) (l : Launch) (hst : l.stackTraces = false) (z : Scr) : BlkOkP (m_law g l) (PS z) 594 (b_law_594 g z) := 
  ⟨OpOk.p (ok_iceq (by decide) (by decide +kernel : decode code 594 = .ok (.if_icmp .eq 1934, 3))),
  ⟨OpOk.p (ok_iconst (by decide) (by decide +kernel : decode code 597 = .ok (.iconst 0, 1))),
  ⟨OpOk.p (ok_zret rfl (by decide +kernel : decode code 598 = .ok (.ireturn, 1))), trivial⟩⟩⟩
def k_law_c5 (g : GG) (z : Scr) : List (Nat × Blk) := [(586, b_law_586 g z), (590, b_law_590 g z), (594, b_law_594 g z)]
theorem okl_law_c5 (g : GG) (l : Launch) (hst : l.stackTraces = false) (z : Scr) : ∀ b ∈ k_law_c5 g z, BlkOkP (m_law g l) (PS z) b.1 b.2 := List.forall_mem_cons.mpr ⟨okb_law_586 g l hst z, List.forall_mem_cons.mpr ⟨okb_law_590 g l hst z, List.forall_mem_cons.mpr ⟨okb_law_594 g l hst z, fun _ h => by cases h⟩⟩⟩
def b_law_599 (g : GG) (z : Scr) : Blk := [(1, o_aload 1), (3, o_callR (o_call0 (T_GP_chunks g) 1) 9 1)]
set_option maxRecDepth 8000 in
theorem okb_law_599 (g : GG) (l : Launch) (hst : l.stackTraces = false) (z : Scr) : BlkOkP (m_law g l) (PS z) 599 (b_law_599 g z) := 
  ⟨OpOk.p (ok_aload_n (by decide +kernel : decode code 599 = .ok (.aload_n 1, 1)) rfl),
  ⟨OpOk.p (OpOk.mono (M := m_law g l) (pc := 600) (ok_callV (k := 0) cls_9 (s_GP_chunks g l hst) (show 2 < 100 from by decide) (Nat.le_of_ble_eq_true rfl) rfl rfl tw_186 tw_187 tw_188 tw_1 tw_189 ⟨by decide, by decide, by decide⟩ (by decide +kernel : decode code 600 = .ok (.invokevirtual 162, 3))) callR0_of), trivial⟩⟩
def b_law_603 (g : GG) (z : Scr) : Blk := [(1, o_aload 2), (3, o_callR (o_call0 T_Mo_chunks 1) 10 1)]
set_option maxRecDepth 8000 in
theorem okb_law_603 (g : GG) (l : Launch) (hst : l.stackTraces = false) (z : Scr) : BlkOkP (m_law g l) (PS z) 603 (b_law_603 g z) := 
  ⟨OpOk.p (ok_aload_n (by decide +kernel : decode code 603 = .ok (.aload_n 2, 1)) rfl),
  ⟨OpOk.p (OpOk.mono (M := m_law g l) (pc := 604) (ok_callV (k := 0) cls_10 (s_Mo_chunks g l hst) (show 2 < 100 from by decide) (Nat.le_of_ble_eq_true rfl) rfl rfl tw_1478 tw_1479 tw_1480 tw_9 tw_1481 ⟨by decide, by decide, by decide⟩ (by decide +kernel : decode code 604 = .ok (.invokevirtual 165, 3))) callR0_of), trivial⟩⟩
def b_law_607 (g : GG) (z : Scr) : Blk := [(3, o_iceq 2528), (1, o_push (.int 0)), (1, o_zret)]
set_option maxRecDepth 8000 in
theorem okb_law_607 (g : GG) (l : Launch) (hst : l.stackTraces = false) (z : Scr) : BlkOkP (m_law g l) (PS z) 607 (b_law_607 g z) := 
  ⟨OpOk.p (ok_iceq (by decide) (by decide +kernel : decode code 607 = .ok (.if_icmp .eq 1921, 3))),
  ⟨OpOk.p (ok_iconst (by decide) (by decide +kernel : decode code 610 = .ok (.iconst 0, 1))),
  ⟨OpOk.p (ok_zret rfl (by decide +kernel : decode code 611 = .ok (.ireturn, 1))), trivial⟩⟩⟩
def k_law_c6 (g : GG) (z : Scr) : List (Nat × Blk) := [(599, b_law_599 g z), (603, b_law_603 g z), (607, b_law_607 g z)]
theorem okl_law_c6 (g : GG) (l : Launch) (hst : l.stackTraces = false) (z : Scr) : ∀ b ∈ k_law_c6 g z, BlkOkP (m_law g l) (PS z) b.1 b.2 := List.forall_mem_cons.mpr ⟨okb_law_599 g l hst z, List.forall_mem_cons.mpr ⟨okb_law_603 g l hst z, List.forall_mem_cons.mpr ⟨okb_law_607 g l hst z, fun _ h => by cases h⟩⟩⟩
def b_law_612 (g : GG) (z : Scr) : Blk := [(1, o_aload 1), (1, o_aload 0), (2, o_iload 5), (1, o_push (.int 1)), (1, o_iadd), (1, o_sld z), (1, o_aload 0), (2, o_iload 5), (1, o_push (.int 2)), (1, o_iadd), (1, o_sld z), (1, o_aload 3), (3, o_callX (T_La_encoding g) 4 1 6)]
set_option maxRecDepth 8000 in
theorem okb_law_612 (g : GG) (l : Launch) (hst : l.stackTraces = false) (z : Scr) : BlkOkP (m_law g l) (PS z) 612 (b_law_612 g z) := 
  ⟨OpOk.p (ok_aload_n (by decide +kernel : decode code 612 = .ok (.aload_n 1, 1)) rfl),
  ⟨OpOk.p (ok_aload_n (by decide +kernel : decode code 613 = .ok (.aload_n 0, 1)) rfl),
  ⟨OpOk.p (ok_iload (by decide +kernel : decode code 614 = .ok (.iload 5, 2))),
  ⟨OpOk.p (ok_iconst (by decide) (by decide +kernel : decode code 616 = .ok (.iconst 1, 1))),
  ⟨OpOk.p (ok_iadd (by decide +kernel : decode code 617 = .ok (.iadd, 1))),
  ⟨ok_sld (by decide +kernel : decode code 618 = .ok (.iaload, 1)),
  ⟨OpOk.p (ok_aload_n (by decide +kernel : decode code 619 = .ok (.aload_n 0, 1)) rfl),
  ⟨OpOk.p (ok_iload (by decide +kernel : decode code 620 = .ok (.iload 5, 2))),
  ⟨OpOk.p (ok_iconst (by decide) (by decide +kernel : decode code 622 = .ok (.iconst 2, 1))),
  ⟨OpOk.p (ok_iadd (by decide +kernel : decode code 623 = .ok (.iadd, 1))),
  ⟨ok_sld (by decide +kernel : decode code 624 = .ok (.iaload, 1)),
  ⟨OpOk.p (ok_aload_n (by decide +kernel : decode code 625 = .ok (.aload_n 3, 1)) rfl),
  ⟨OpOk.p (ok_callSH (k := 4) (s_La_encoding g l hst) (show 12 < 100 from by decide) (Nat.le_of_ble_eq_true rfl) rfl tw_726 tw_727 tw_0 tw_728 ⟨by decide, by decide, by decide⟩ (by decide +kernel : decode code 626 = .ok (.invokestatic 166, 3))), trivial⟩⟩⟩⟩⟩⟩⟩⟩⟩⟩⟩⟩⟩
def b_law_629 (g : GG) (z : Scr) : Blk := [(2, o_istore 6), (1, o_aload 2), (1, o_aload 0), (2, o_iload 5), (1, o_push (.int 1)), (1, o_iadd), (1, o_sld z), (1, o_aload 0), (2, o_iload 5), (1, o_push (.int 2)), (1, o_iadd), (1, o_sld z), (3, o_callR (o_call0 T_Mo_encoding 3) 10 3)]
set_option maxRecDepth 8000 in
theorem okb_law_629 (g : GG) (l : Launch) (hst : l.stackTraces = false) (z : Scr) : BlkOkP (m_law g l) (PS z) 629 (b_law_629 g z) := 
  ⟨OpOk.p (ok_istore (Nat.le_of_ble_eq_true rfl) (by decide +kernel : decode code 629 = .ok (.istore 6, 2))),
  ⟨OpOk.p (ok_aload_n (by decide +kernel : decode code 631 = .ok (.aload_n 2, 1)) rfl),
  ⟨OpOk.p (ok_aload_n (by decide +kernel : decode code 632 = .ok (.aload_n 0, 1)) rfl),
  ⟨OpOk.p (ok_iload (by decide +kernel : decode code 633 = .ok (.iload 5, 2))),
  ⟨OpOk.p (ok_iconst (by decide) (by decide +kernel : decode code 635 = .ok (.iconst 1, 1))),
  ⟨OpOk.p (ok_iadd (by decide +kernel : decode code 636 = .ok (.iadd, 1))),
  ⟨ok_sld (by decide +kernel : decode code 637 = .ok (.iaload, 1)),
  ⟨OpOk.p (ok_aload_n (by decide +kernel : decode code 638 = .ok (.aload_n 0, 1)) rfl),
  ⟨OpOk.p (ok_iload (by decide +kernel : decode code 639 = .ok (.iload 5, 2))),
  ⟨OpOk.p (ok_iconst (by decide) (by decide +kernel : decode code 641 = .ok (.iconst 2, 1))),
  ⟨OpOk.p (ok_iadd (by decide +kernel : decode code 642 = .ok (.iadd, 1))),
  ⟨ok_sld (by decide +kernel : decode code 643 = .ok (.iaload, 1)),
  ⟨OpOk.p (OpOk.mono (M := m_law g l) (pc := 644) (ok_callV (k := 2) cls_10 (s_Mo_encoding g l hst) (show 8 < 100 from by decide) (Nat.le_of_ble_eq_true rfl) rfl rfl tw_1486 tw_1487 tw_1488 tw_9 tw_1489 ⟨by decide, by decide, by decide⟩ (by decide +kernel : decode code 644 = .ok (.invokevirtual 168, 3))) callR0_of), trivial⟩⟩⟩⟩⟩⟩⟩⟩⟩⟩⟩⟩⟩
def b_law_647 (g : GG) (z : Scr) : Blk := [(2, o_istore 7), (1, o_aload 2), (3, o_callR (o_call0 T_Mo_thrown 1) 10 1)]
set_option maxRecDepth 8000 in
theorem okb_law_647 (g : GG) (l : Launch) (hst : l.stackTraces = false) (z : Scr) : BlkOkP (m_law g l) (PS z) 647 (b_law_647 g z) := 
  ⟨OpOk.p (ok_istore (Nat.le_of_ble_eq_true rfl) (by decide +kernel : decode code 647 = .ok (.istore 7, 2))),
  ⟨OpOk.p (ok_aload_n (by decide +kernel : decode code 649 = .ok (.aload_n 2, 1)) rfl),
  ⟨OpOk.p (OpOk.mono (M := m_law g l) (pc := 650) (ok_callV (k := 0) cls_10 (s_Mo_thrown g l hst) (show 1 < 100 from by decide) (Nat.le_of_ble_eq_true rfl) rfl rfl tw_1416 tw_1417 tw_1418 tw_9 tw_1419 ⟨by decide, by decide, by decide⟩ (by decide +kernel : decode code 650 = .ok (.invokevirtual 139, 3))) callR0_of), trivial⟩⟩⟩
def b_law_653 (g : GG) (z : Scr) : Blk := [(2, o_iload 6), (3, o_iceq 660), (1, o_push (.int 0)), (1, o_zret)]
set_option maxRecDepth 8000 in
theorem okb_law_653 (g : GG) (l : Launch) (hst : l.stackTraces = false) (z : Scr) : BlkOkP (m_law g l) (PS z) 653 (b_law_653 g z) := 
  ⟨OpOk.p (ok_iload (by decide +kernel : decode code 653 = .ok (.iload 6, 2))),
  ⟨OpOk.p (ok_iceq (by decide) (by decide +kernel : decode code 655 = .ok (.if_icmp .eq 5, 3))),
  ⟨OpOk.p (ok_iconst (by decide) (by decide +kernel : decode code 658 = .ok (.iconst 0, 1))),
  ⟨OpOk.p (ok_zret rfl (by decide +kernel : decode code 659 = .ok (.ireturn, 1))), trivial⟩⟩⟩⟩
def b_law_660 (g : GG) (z : Scr) : Blk := [(2, o_iload 6), (3, o_ifne 677), (1, o_aload 3), (1, o_push (.int 0)), (1, o_lald), (2, o_iload 7), (1, o_i2l), (1, o_lcmp), (3, o_ifeq 677), (1, o_push (.int 0)), (1, o_zret)]
set_option maxRecDepth 8000 in
theorem okb_law_660 (g : GG) (l : Launch) (hst : l.stackTraces = false) (z : Scr) : BlkOkP (m_law g l) (PS z) 660 (b_law_660 g z) := 
  ⟨OpOk.p (ok_iload (by decide +kernel : decode code 660 = .ok (.iload 6, 2))),
  ⟨OpOk.p (ok_ifne (by decide) (by decide +kernel : decode code 662 = .ok (.ifCond .ne 15, 3))),
  ⟨OpOk.p (ok_aload_n (by decide +kernel : decode code 665 = .ok (.aload_n 3, 1)) rfl),
  ⟨OpOk.p (ok_iconst (by decide) (by decide +kernel : decode code 666 = .ok (.iconst 0, 1))),
  ⟨OpOk.p (ok_lald (by decide +kernel : decode code 667 = .ok (.laload, 1))),
  ⟨OpOk.p (ok_iload (by decide +kernel : decode code 668 = .ok (.iload 7, 2))),
  ⟨OpOk.p (ok_i2l (by decide +kernel : decode code 670 = .ok (.i2l, 1))),
  ⟨OpOk.p (ok_lcmp (by decide +kernel : decode code 671 = .ok (.lcmp, 1))),
  ⟨OpOk.p (ok_ifeq (by decide) (by decide +kernel : decode code 672 = .ok (.ifCond .eq 5, 3))),
  ⟨OpOk.p (ok_iconst (by decide) (by decide +kernel : decode code 675 = .ok (.iconst 0, 1))),
  ⟨OpOk.p (ok_zret rfl (by decide +kernel : decode code 676 = .ok (.ireturn, 1))), trivial⟩⟩⟩⟩⟩⟩⟩⟩⟩⟩⟩
def b_law_677 (g : GG) (z : Scr) : Blk := [(3, o_goto 2528)]
set_option maxRecDepth 8000 in
theorem okb_law_677 (g : GG) (l : Launch) (hst : l.stackTraces = false) (z : Scr) : BlkOkP (m_law g l) (PS z) 677 (b_law_677 g z) := 
  ⟨OpOk.p (ok_goto (by decide) (by decide +kernel : decode code 677 = .ok (.goto 1851, 3))), trivial⟩
def k_law_c7 (g : GG) (z : Scr) : List (Nat × Blk) := [(612, b_law_612 g z), (629, b_law_629 g z), (647, b_law_647 g z), (653, b_law_653 g z), (660, b_law_660 g z), (677, b_law_677 g z)]
theorem okl_law_c7 (g : GG) (l : Launch) (hst : l.stackTraces = false) (z : Scr) : ∀ b ∈ k_law_c7 g z, BlkOkP (m_law g l) (PS z) b.1 b.2 := List.forall_mem_cons.mpr ⟨okb_law_612 g l hst z, List.forall_mem_cons.mpr ⟨okb_law_629 g l hst z, List.forall_mem_cons.mpr ⟨okb_law_647 g l hst z, List.forall_mem_cons.mpr ⟨okb_law_653 g l hst z, List.forall_mem_cons.mpr ⟨okb_law_660 g l hst z, List.forall_mem_cons.mpr ⟨okb_law_677 g l hst z, fun _ h => by cases h⟩⟩⟩⟩⟩⟩
def b_law_680 (g : GG) (z : Scr) : Blk := [(1, o_aload 1), (1, o_aload 0), (2, o_iload 5), (1, o_push (.int 1)), (1, o_iadd), (1, o_sld z), (1, o_aload 0), (2, o_iload 5), (1, o_push (.int 2)), (1, o_iadd), (1, o_sld z), (1, o_aload 3), (3, o_callX (T_La_bits g) 4 1 6)]
set_option maxRecDepth 8000 in
theorem okb_law_680 (g : GG) (l : Launch) (hst : l.stackTraces = false) (z : Scr) : BlkOkP (m_law g l) (PS z) 680 (b_law_680 g z) := 
  ⟨OpOk.p (ok_aload_n (by decide +kernel : decode code 680 = .ok (.aload_n 1, 1)) rfl),
  ⟨OpOk.p (ok_aload_n (by decide +kernel : decode code 681 = .ok (.aload_n 0, 1)) rfl),
  ⟨OpOk.p (ok_iload (by decide +kernel : decode code 682 = .ok (.iload 5, 2))),
  ⟨OpOk.p (ok_iconst (by decide) (by decide +kernel : decode code 684 = .ok (.iconst 1, 1))),
  ⟨OpOk.p (ok_iadd (by decide +kernel : decode code 685 = .ok (.iadd, 1))),
  ⟨ok_sld (by decide +kernel : decode code 686 = .ok (.iaload, 1)),
  ⟨OpOk.p (ok_aload_n (by decide +kernel : decode code 687 = .ok (.aload_n 0, 1)) rfl),
  ⟨OpOk.p (ok_iload (by decide +kernel : decode code 688 = .ok (.iload 5, 2))),
  ⟨OpOk.p (ok_iconst (by decide) (by decide +kernel : decode code 690 = .ok (.iconst 2, 1))),
  ⟨OpOk.p (ok_iadd (by decide +kernel : decode code 691 = .ok (.iadd, 1))),
  ⟨ok_sld (by decide +kernel : decode code 692 = .ok (.iaload, 1)),
  ⟨OpOk.p (ok_aload_n (by decide +kernel : decode code 693 = .ok (.aload_n 3, 1)) rfl),
  ⟨OpOk.p (ok_callSH (k := 4) (s_La_bits g l hst) (show 12 < 100 from by decide) (Nat.le_of_ble_eq_true rfl) rfl tw_773 tw_774 tw_0 tw_775 ⟨by decide, by decide, by decide⟩ (by decide +kernel : decode code 694 = .ok (.invokestatic 169, 3))), trivial⟩⟩⟩⟩⟩⟩⟩⟩⟩⟩⟩⟩⟩
def b_law_697 (g : GG) (z : Scr) : Blk := [(2, o_istore 6), (1, o_aload 2), (1, o_aload 0), (2, o_iload 5), (1, o_push (.int 1)), (1, o_iadd), (1, o_sld z), (1, o_aload 0), (2, o_iload 5), (1, o_push (.int 2)), (1, o_iadd), (1, o_sld z), (3, o_callR (o_call0 T_Mo_bits 3) 10 3)]
set_option maxRecDepth 8000 in
theorem okb_law_697 (g : GG) (l : Launch) (hst : l.stackTraces = false) (z : Scr) : BlkOkP (m_law g l) (PS z) 697 (b_law_697 g z) := 
  ⟨OpOk.p (ok_istore (Nat.le_of_ble_eq_true rfl) (by decide +kernel : decode code 697 = .ok (.istore 6, 2))),
  ⟨OpOk.p (ok_aload_n (by decide +kernel : decode code 699 = .ok (.aload_n 2, 1)) rfl),
  ⟨OpOk.p (ok_aload_n (by decide +kernel : decode code 700 = .ok (.aload_n 0, 1)) rfl),
  ⟨OpOk.p (ok_iload (by decide +kernel : decode code 701 = .ok (.iload 5, 2))),
  ⟨OpOk.p (ok_iconst (by decide) (by decide +kernel : decode code 703 = .ok (.iconst 1, 1))),
  ⟨OpOk.p (ok_iadd (by decide +kernel : decode code 704 = .ok (.iadd, 1))),
  ⟨ok_sld (by decide +kernel : decode code 705 = .ok (.iaload, 1)),
  ⟨OpOk.p (ok_aload_n (by decide +kernel : decode code 706 = .ok (.aload_n 0, 1)) rfl),
  ⟨OpOk.p (ok_iload (by decide +kernel : decode code 707 = .ok (.iload 5, 2))),
  ⟨OpOk.p (ok_iconst (by decide) (by decide +kernel : decode code 709 = .ok (.iconst 2, 1))),
  ⟨OpOk.p (ok_iadd (by decide +kernel : decode code 710 = .ok (.iadd, 1))),
  ⟨ok_sld (by decide +kernel : decode code 711 = .ok (.iaload, 1)),
  ⟨OpOk.p (OpOk.mono (M := m_law g l) (pc := 712) (ok_callV (k := 2) cls_10 (s_Mo_bits g l hst) (show 8 < 100 from by decide) (Nat.le_of_ble_eq_true rfl) rfl rfl tw_1549 tw_1550 tw_1551 tw_9 tw_1552 ⟨by decide, by decide, by decide⟩ (by decide +kernel : decode code 712 = .ok (.invokevirtual 171, 3))) callR0_of), trivial⟩⟩⟩⟩⟩⟩⟩⟩⟩⟩⟩⟩⟩
def b_law_715 (g : GG) (z : Scr) : Blk := [(2, o_istore 7), (1, o_aload 2), (3, o_callR (o_call0 T_Mo_thrown 1) 10 1)]
set_option maxRecDepth 8000 in
theorem okb_law_715 (g : GG) (l : Launch) (hst : l.stackTraces = false) (z : Scr) : BlkOkP (m_law g l) (PS z) 715 (b_law_715 g z) := 
  ⟨OpOk.p (ok_istore (Nat.le_of_ble_eq_true rfl) (by decide +kernel : decode code 715 = .ok (.istore 7, 2))),
  ⟨OpOk.p (ok_aload_n (by decide +kernel : decode code 717 = .ok (.aload_n 2, 1)) rfl),
  ⟨OpOk.p (OpOk.mono (M := m_law g l) (pc := 718) (ok_callV (k := 0) cls_10 (s_Mo_thrown g l hst) (show 1 < 100 from by decide) (Nat.le_of_ble_eq_true rfl) rfl rfl tw_1416 tw_1417 tw_1418 tw_9 tw_1419 ⟨by decide, by decide, by decide⟩ (by decide +kernel : decode code 718 = .ok (.invokevirtual 139, 3))) callR0_of), trivial⟩⟩⟩
def b_law_721 (g : GG) (z : Scr) : Blk := [(2, o_iload 6), (3, o_iceq 728), (1, o_push (.int 0)), (1, o_zret)]
set_option maxRecDepth 8000 in
theorem okb_law_721 (g : GG) (l : Launch) (hst : l.stackTraces = false) (z : Scr) : BlkOkP (m_law g l) (PS z) 721 (b_law_721 g z) := 
  ⟨OpOk.p (ok_iload (by decide +kernel : decode code 721 = .ok (.iload 6, 2))),
  ⟨OpOk.p (ok_iceq (by decide) (by decide +kernel : decode code 723 = .ok (.if_icmp .eq 5, 3))),
  ⟨OpOk.p (ok_iconst (by decide) (by decide +kernel : decode code 726 = .ok (.iconst 0, 1))),
  ⟨OpOk.p (ok_zret rfl (by decide +kernel : decode code 727 = .ok (.ireturn, 1))), trivial⟩⟩⟩⟩
def b_law_728 (g : GG) (z : Scr) : Blk := [(2, o_iload 6), (3, o_ifne 745), (1, o_aload 3), (1, o_push (.int 0)), (1, o_lald), (2, o_iload 7), (1, o_i2l), (1, o_lcmp), (3, o_ifeq 745), (1, o_push (.int 0)), (1, o_zret)]
set_option maxRecDepth 8000 in
theorem okb_law_728 (g : GG) (l : Launch) (hst : l.stackTraces = false) (z : Scr) : BlkOkP (m_law g l) (PS z) 728 (b_law_728 g z) := 
  ⟨OpOk.p (ok_iload (by decide +kernel : decode code 728 = .ok (.iload 6, 2))),
  ⟨OpOk.p (ok_ifne (by decide) (by decide +kernel : decode code 730 = .ok (.ifCond .ne 15, 3))),
  ⟨OpOk.p (ok_aload_n (by decide +kernel : decode code 733 = .ok (.aload_n 3, 1)) rfl),
  ⟨OpOk.p (ok_iconst (by decide) (by decide +kernel : decode code 734 = .ok (.iconst 0, 1))),
  ⟨OpOk.p (ok_lald (by decide +kernel : decode code 735 = .ok (.laload, 1))),
  ⟨OpOk.p (ok_iload (by decide +kernel : decode code 736 = .ok (.iload 7, 2))),
  ⟨OpOk.p (ok_i2l (by decide +kernel : decode code 738 = .ok (.i2l, 1))),
  ⟨OpOk.p (ok_lcmp (by decide +kernel : decode code 739 = .ok (.lcmp, 1))),
  ⟨OpOk.p (ok_ifeq (by decide) (by decide +kernel : decode code 740 = .ok (.ifCond .eq 5, 3))),
  ⟨OpOk.p (ok_iconst (by decide) (by decide +kernel : decode code 743 = .ok (.iconst 0, 1))),
  ⟨OpOk.p (ok_zret rfl (by decide +kernel : decode code 744 = .ok (.ireturn, 1))), trivial⟩⟩⟩⟩⟩⟩⟩⟩⟩⟩⟩
def b_law_745 (g : GG) (z : Scr) : Blk := [(3, o_goto 2528)]
set_option maxRecDepth 8000 in
theorem okb_law_745 (g : GG) (l : Launch) (hst : l.stackTraces = false) (z : Scr) : BlkOkP (m_law g l) (PS z) 745 (b_law_745 g z) := 
  ⟨OpOk.p (ok_goto (by decide) (by decide +kernel : decode code 745 = .ok (.goto 1783, 3))), trivial⟩
def k_law_c8 (g : GG) (z : Scr) : List (Nat × Blk) := [(680, b_law_680 g z), (697, b_law_697 g z), (715, b_law_715 g z), (721, b_law_721 g z), (728, b_law_728 g z), (745, b_law_745 g z)]
theorem okl_law_c8 (g : GG) (l : Launch) (hst : l.stackTraces = false) (z : Scr) : ∀ b ∈ k_law_c8 g z, BlkOkP (m_law g l) (PS z) b.1 b.2 := List.forall_mem_cons.mpr ⟨okb_law_680 g l hst z, List.forall_mem_cons.mpr ⟨okb_law_697 g l hst z, List.forall_mem_cons.mpr ⟨okb_law_715 g l hst z, List.forall_mem_cons.mpr ⟨okb_law_721 g l hst z, List.forall_mem_cons.mpr ⟨okb_law_728 g l hst z, List.forall_mem_cons.mpr ⟨okb_law_745 g l hst z, fun _ h => by cases h⟩⟩⟩⟩⟩⟩

