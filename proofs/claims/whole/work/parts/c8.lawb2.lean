-- deps: c8.lawb0
def b_law_1451 (g : GG) (z : Scr) : Blk := [(1, o_aload 1), (1, o_aload 0), (2, o_iload 5), (1, o_push (.int 1)), (1, o_iadd), (1, o_sld z), (1, o_aload 0), (2, o_iload 5), (1, o_push (.int 2)), (1, o_iadd), (1, o_sld z), (1, o_aload 3), (3, o_callX (T_La_takeBack g) 4 2 12)]
set_option maxRecDepth 8000 in
theorem okb_law_1451 (g : GG) (l : Launch) (hst : l.stackTraces = false) (z : Scr) : BlkOkP (m_law g l) (PS z) 1451 (b_law_1451 g z) := 
  ⟨OpOk.p (ok_aload_n (by decide +kernel : decode code 1451 = .ok (.aload_n 1, 1)) rfl),
  ⟨OpOk.p (ok_aload_n (by decide +kernel : decode code 1452 = .ok (.aload_n 0, 1)) rfl),
  ⟨OpOk.p (ok_iload (by decide +kernel : decode code 1453 = .ok (.iload 5, 2))),
  ⟨OpOk.p (ok_iconst (by decide) (by decide +kernel : decode code 1455 = .ok (.iconst 1, 1))),
  ⟨OpOk.p (ok_iadd (by decide +kernel : decode code 1456 = .ok (.iadd, 1))),
  ⟨ok_sld (by decide +kernel : decode code 1457 = .ok (.iaload, 1)),
  ⟨OpOk.p (ok_aload_n (by decide +kernel : decode code 1458 = .ok (.aload_n 0, 1)) rfl),
  ⟨OpOk.p (ok_iload (by decide +kernel : decode code 1459 = .ok (.iload 5, 2))),
  ⟨OpOk.p (ok_iconst (by decide) (by decide +kernel : decode code 1461 = .ok (.iconst 2, 1))),
  ⟨OpOk.p (ok_iadd (by decide +kernel : decode code 1462 = .ok (.iadd, 1))),
  ⟨ok_sld (by decide +kernel : decode code 1463 = .ok (.iaload, 1)),
  ⟨OpOk.p (ok_aload_n (by decide +kernel : decode code 1464 = .ok (.aload_n 3, 1)) rfl),
  ⟨OpOk.p (ok_callSH (k := 4) (s_La_takeBack g l hst) (show 12 < 100 from by decide) (Nat.le_of_ble_eq_true rfl) rfl tw_1076 tw_1077 tw_0 tw_1078 ⟨by decide, by decide, by decide⟩ (by decide +kernel : decode code 1465 = .ok (.invokestatic 203, 3))), trivial⟩⟩⟩⟩⟩⟩⟩⟩⟩⟩⟩⟩⟩
def b_law_1468 (g : GG) (z : Scr) : Blk := [(2, o_istore 6), (1, o_aload 2), (1, o_aload 0), (2, o_iload 5), (1, o_push (.int 1)), (1, o_iadd), (1, o_sld z), (1, o_aload 0), (2, o_iload 5), (1, o_push (.int 2)), (1, o_iadd), (1, o_sld z), (3, o_callR (o_call0 T_Mo_takeBack 3) 10 3)]
set_option maxRecDepth 8000 in
theorem okb_law_1468 (g : GG) (l : Launch) (hst : l.stackTraces = false) (z : Scr) : BlkOkP (m_law g l) (PS z) 1468 (b_law_1468 g z) := 
  ⟨OpOk.p (ok_istore (Nat.le_of_ble_eq_true rfl) (by decide +kernel : decode code 1468 = .ok (.istore 6, 2))),
  ⟨OpOk.p (ok_aload_n (by decide +kernel : decode code 1470 = .ok (.aload_n 2, 1)) rfl),
  ⟨OpOk.p (ok_aload_n (by decide +kernel : decode code 1471 = .ok (.aload_n 0, 1)) rfl),
  ⟨OpOk.p (ok_iload (by decide +kernel : decode code 1472 = .ok (.iload 5, 2))),
  ⟨OpOk.p (ok_iconst (by decide) (by decide +kernel : decode code 1474 = .ok (.iconst 1, 1))),
  ⟨OpOk.p (ok_iadd (by decide +kernel : decode code 1475 = .ok (.iadd, 1))),
  ⟨ok_sld (by decide +kernel : decode code 1476 = .ok (.iaload, 1)),
  ⟨OpOk.p (ok_aload_n (by decide +kernel : decode code 1477 = .ok (.aload_n 0, 1)) rfl),
  ⟨OpOk.p (ok_iload (by decide +kernel : decode code 1478 = .ok (.iload 5, 2))),
  ⟨OpOk.p (ok_iconst (by decide) (by decide +kernel : decode code 1480 = .ok (.iconst 2, 1))),
  ⟨OpOk.p (ok_iadd (by decide +kernel : decode code 1481 = .ok (.iadd, 1))),
  ⟨ok_sld (by decide +kernel : decode code 1482 = .ok (.iaload, 1)),
  ⟨OpOk.p (OpOk.mono (M := m_law g l) (pc := 1483) (ok_callV (k := 2) cls_10 (s_Mo_takeBack g l hst) (show 6 < 100 from by decide) (Nat.le_of_ble_eq_true rfl) rfl rfl tw_1668 tw_1669 tw_1670 tw_9 tw_1671 ⟨by decide, by decide, by decide⟩ (by decide +kernel : decode code 1483 = .ok (.invokevirtual 205, 3))) callR0_of), trivial⟩⟩⟩⟩⟩⟩⟩⟩⟩⟩⟩⟩⟩
def b_law_1486 (g : GG) (z : Scr) : Blk := [(2, o_istore 7), (1, o_aload 2), (3, o_callR (o_call0 T_Mo_thrown 1) 10 1)]
set_option maxRecDepth 8000 in
theorem okb_law_1486 (g : GG) (l : Launch) (hst : l.stackTraces = false) (z : Scr) : BlkOkP (m_law g l) (PS z) 1486 (b_law_1486 g z) := 
  ⟨OpOk.p (ok_istore (Nat.le_of_ble_eq_true rfl) (by decide +kernel : decode code 1486 = .ok (.istore 7, 2))),
  ⟨OpOk.p (ok_aload_n (by decide +kernel : decode code 1488 = .ok (.aload_n 2, 1)) rfl),
  ⟨OpOk.p (OpOk.mono (M := m_law g l) (pc := 1489) (ok_callV (k := 0) cls_10 (s_Mo_thrown g l hst) (show 1 < 100 from by decide) (Nat.le_of_ble_eq_true rfl) rfl rfl tw_1416 tw_1417 tw_1418 tw_9 tw_1419 ⟨by decide, by decide, by decide⟩ (by decide +kernel : decode code 1489 = .ok (.invokevirtual 139, 3))) callR0_of), trivial⟩⟩⟩
def b_law_1492 (g : GG) (z : Scr) : Blk := [(2, o_iload 6), (3, o_iceq 1499), (1, o_push (.int 0)), (1, o_zret)]
set_option maxRecDepth 8000 in
theorem okb_law_1492 (g : GG) (l : Launch) (hst : l.stackTraces = false) (z : Scr) : BlkOkP (m_law g l) (PS z) 1492 (b_law_1492 g z) := 
  ⟨OpOk.p (ok_iload (by decide +kernel : decode code 1492 = .ok (.iload 6, 2))),
  ⟨OpOk.p (ok_iceq (by decide) (by decide +kernel : decode code 1494 = .ok (.if_icmp .eq 5, 3))),
  ⟨OpOk.p (ok_iconst (by decide) (by decide +kernel : decode code 1497 = .ok (.iconst 0, 1))),
  ⟨OpOk.p (ok_zret rfl (by decide +kernel : decode code 1498 = .ok (.ireturn, 1))), trivial⟩⟩⟩⟩
def b_law_1499 (g : GG) (z : Scr) : Blk := [(2, o_iload 6), (3, o_ifne 1516), (1, o_aload 3), (1, o_push (.int 0)), (1, o_lald), (2, o_iload 7), (1, o_i2l), (1, o_lcmp), (3, o_ifeq 1516), (1, o_push (.int 0)), (1, o_zret)]
set_option maxRecDepth 8000 in
theorem okb_law_1499 (g : GG) (l : Launch) (hst : l.stackTraces = false) (z : Scr) : BlkOkP (m_law g l) (PS z) 1499 (b_law_1499 g z) := 
  ⟨OpOk.p (ok_iload (by decide +kernel : decode code 1499 = .ok (.iload 6, 2))),
  ⟨OpOk.p (ok_ifne (by decide) (by decide +kernel : decode code 1501 = .ok (.ifCond .ne 15, 3))),
  ⟨OpOk.p (ok_aload_n (by decide +kernel : decode code 1504 = .ok (.aload_n 3, 1)) rfl),
  ⟨OpOk.p (ok_iconst (by decide) (by decide +kernel : decode code 1505 = .ok (.iconst 0, 1))),
  ⟨OpOk.p (ok_lald (by decide +kernel : decode code 1506 = .ok (.laload, 1))),
  ⟨OpOk.p (ok_iload (by decide +kernel : decode code 1507 = .ok (.iload 7, 2))),
  ⟨OpOk.p (ok_i2l (by decide +kernel : decode code 1509 = .ok (.i2l, 1))),
  ⟨OpOk.p (ok_lcmp (by decide +kernel : decode code 1510 = .ok (.lcmp, 1))),
  ⟨OpOk.p (ok_ifeq (by decide) (by decide +kernel : decode code 1511 = .ok (.ifCond .eq 5, 3))),
  ⟨OpOk.p (ok_iconst (by decide) (by decide +kernel : decode code 1514 = .ok (.iconst 0, 1))),
  ⟨OpOk.p (ok_zret rfl (by decide +kernel : decode code 1515 = .ok (.ireturn, 1))), trivial⟩⟩⟩⟩⟩⟩⟩⟩⟩⟩⟩
def b_law_1516 (g : GG) (z : Scr) : Blk := [(3, o_goto 2528)]
set_option maxRecDepth 8000 in
theorem okb_law_1516 (g : GG) (l : Launch) (hst : l.stackTraces = false) (z : Scr) : BlkOkP (m_law g l) (PS z) 1516 (b_law_1516 g z) := 
  ⟨OpOk.p (ok_goto (by decide) (by decide +kernel : decode code 1516 = .ok (.goto 1012, 3))), trivial⟩
def k_law_c19 (g : GG) (z : Scr) : List (Nat × Blk) := [(1451, b_law_1451 g z), (1468, b_law_1468 g z), (1486, b_law_1486 g z), (1492, b_law_1492 g z), (1499, b_law_1499 g z), (1516, b_law_1516 g z)]
theorem okl_law_c19 (g : GG) (l : Launch) (hst : l.stackTraces = false) (z : Scr) : ∀ b ∈ k_law_c19 g z, BlkOkP (m_law g l) (PS z) b.1 b.2 := List.forall_mem_cons.mpr ⟨okb_law_1451 g l hst z, List.forall_mem_cons.mpr ⟨okb_law_1468 g l hst z, List.forall_mem_cons.mpr ⟨okb_law_1486 g l hst z, List.forall_mem_cons.mpr ⟨okb_law_1492 g l hst z, List.forall_mem_cons.mpr ⟨okb_law_1499 g l hst z, List.forall_mem_cons.mpr ⟨okb_law_1516 g l hst z, fun _ h => by cases h⟩⟩⟩⟩⟩⟩
def b_law_1519 (g : GG) (z : Scr) : Blk := [(1, o_aload 1), (1, o_aload 0), (2, o_iload 5), (1, o_push (.int 1)), (1, o_iadd), (1, o_sld z), (1, o_aload 3), (3, o_callX (T_La_isDone g) 3 1 6)]
set_option maxRecDepth 8000 in
theorem okb_law_1519 (g : GG) (l : Launch) (hst : l.stackTraces = false) (z : Scr) : BlkOkP (m_law g l) (PS z) 1519 (b_law_1519 g z) := 
  ⟨OpOk.p (ok_aload_n (by decide +kernel : decode code 1519 = .ok (.aload_n 1, 1)) rfl),
  ⟨OpOk.p (ok_aload_n (by decide +kernel : decode code 1520 = .ok (.aload_n 0, 1)) rfl),
  ⟨OpOk.p (ok_iload (by decide +kernel : decode code 1521 = .ok (.iload 5, 2))),
  ⟨OpOk.p (ok_iconst (by decide) (by decide +kernel : decode code 1523 = .ok (.iconst 1, 1))),
  ⟨OpOk.p (ok_iadd (by decide +kernel : decode code 1524 = .ok (.iadd, 1))),
  ⟨ok_sld (by decide +kernel : decode code 1525 = .ok (.iaload, 1)),
  ⟨OpOk.p (ok_aload_n (by decide +kernel : decode code 1526 = .ok (.aload_n 3, 1)) rfl),
  ⟨OpOk.p (ok_callSH (k := 3) (s_La_isDone g l hst) (show 12 < 100 from by decide) (Nat.le_of_ble_eq_true rfl) rfl tw_1091 tw_1092 tw_0 tw_1093 ⟨by decide, by decide, by decide⟩ (by decide +kernel : decode code 1527 = .ok (.invokestatic 206, 3))), trivial⟩⟩⟩⟩⟩⟩⟩⟩
def b_law_1530 (g : GG) (z : Scr) : Blk := [(2, o_istore 6), (1, o_aload 2), (1, o_aload 0), (2, o_iload 5), (1, o_push (.int 1)), (1, o_iadd), (1, o_sld z), (3, o_callR (o_call0 T_Mo_isDone 2) 10 2)]
set_option maxRecDepth 8000 in
theorem okb_law_1530 (g : GG) (l : Launch) (hst : l.stackTraces = false) (z : Scr) : BlkOkP (m_law g l) (PS z) 1530 (b_law_1530 g z) := 
  ⟨OpOk.p (ok_istore (Nat.le_of_ble_eq_true rfl) (by decide +kernel : decode code 1530 = .ok (.istore 6, 2))),
  ⟨OpOk.p (ok_aload_n (by decide +kernel : decode code 1532 = .ok (.aload_n 2, 1)) rfl),
  ⟨OpOk.p (ok_aload_n (by decide +kernel : decode code 1533 = .ok (.aload_n 0, 1)) rfl),
  ⟨OpOk.p (ok_iload (by decide +kernel : decode code 1534 = .ok (.iload 5, 2))),
  ⟨OpOk.p (ok_iconst (by decide) (by decide +kernel : decode code 1536 = .ok (.iconst 1, 1))),
  ⟨OpOk.p (ok_iadd (by decide +kernel : decode code 1537 = .ok (.iadd, 1))),
  ⟨ok_sld (by decide +kernel : decode code 1538 = .ok (.iaload, 1)),
  ⟨OpOk.p (OpOk.mono (M := m_law g l) (pc := 1539) (ok_callV (k := 1) cls_10 (s_Mo_isDone g l hst) (show 4 < 100 from by decide) (Nat.le_of_ble_eq_true rfl) rfl rfl tw_1672 tw_1673 tw_1674 tw_9 tw_1675 ⟨by decide, by decide, by decide⟩ (by decide +kernel : decode code 1539 = .ok (.invokevirtual 208, 3))) callR0_of), trivial⟩⟩⟩⟩⟩⟩⟩⟩
def b_law_1542 (g : GG) (z : Scr) : Blk := [(2, o_istore 7), (1, o_aload 2), (3, o_callR (o_call0 T_Mo_thrown 1) 10 1)]
set_option maxRecDepth 8000 in
theorem okb_law_1542 (g : GG) (l : Launch) (hst : l.stackTraces = false) (z : Scr) : BlkOkP (m_law g l) (PS z) 1542 (b_law_1542 g z) := 
  ⟨OpOk.p (ok_istore (Nat.le_of_ble_eq_true rfl) (by decide +kernel : decode code 1542 = .ok (.istore 7, 2))),
  ⟨OpOk.p (ok_aload_n (by decide +kernel : decode code 1544 = .ok (.aload_n 2, 1)) rfl),
  ⟨OpOk.p (OpOk.mono (M := m_law g l) (pc := 1545) (ok_callV (k := 0) cls_10 (s_Mo_thrown g l hst) (show 1 < 100 from by decide) (Nat.le_of_ble_eq_true rfl) rfl rfl tw_1416 tw_1417 tw_1418 tw_9 tw_1419 ⟨by decide, by decide, by decide⟩ (by decide +kernel : decode code 1545 = .ok (.invokevirtual 139, 3))) callR0_of), trivial⟩⟩⟩
def b_law_1548 (g : GG) (z : Scr) : Blk := [(2, o_iload 6), (3, o_iceq 1555), (1, o_push (.int 0)), (1, o_zret)]
set_option maxRecDepth 8000 in
theorem okb_law_1548 (g : GG) (l : Launch) (hst : l.stackTraces = false) (z : Scr) : BlkOkP (m_law g l) (PS z) 1548 (b_law_1548 g z) := 
  ⟨OpOk.p (ok_iload (by decide +kernel : decode code 1548 = .ok (.iload 6, 2))),
  ⟨OpOk.p (ok_iceq (by decide) (by decide +kernel : decode code 1550 = .ok (.if_icmp .eq 5, 3))),
  ⟨OpOk.p (ok_iconst (by decide) (by decide +kernel : decode code 1553 = .ok (.iconst 0, 1))),
  ⟨OpOk.p (ok_zret rfl (by decide +kernel : decode code 1554 = .ok (.ireturn, 1))), trivial⟩⟩⟩⟩
def b_law_1555 (g : GG) (z : Scr) : Blk := [(2, o_iload 6), (3, o_ifne 1579), (1, o_aload 3), (1, o_push (.int 0)), (1, o_lald), (2, o_iload 7), (3, o_ifeq 1572), (1, o_push (.long 1)), (3, o_goto 1573)]
set_option maxRecDepth 8000 in
theorem okb_law_1555 (g : GG) (l : Launch) (hst : l.stackTraces = false) (z : Scr) : BlkOkP (m_law g l) (PS z) 1555 (b_law_1555 g z) := 
  ⟨OpOk.p (ok_iload (by decide +kernel : decode code 1555 = .ok (.iload 6, 2))),
  ⟨OpOk.p (ok_ifne (by decide) (by decide +kernel : decode code 1557 = .ok (.ifCond .ne 22, 3))),
  ⟨OpOk.p (ok_aload_n (by decide +kernel : decode code 1560 = .ok (.aload_n 3, 1)) rfl),
  ⟨OpOk.p (ok_iconst (by decide) (by decide +kernel : decode code 1561 = .ok (.iconst 0, 1))),
  ⟨OpOk.p (ok_lald (by decide +kernel : decode code 1562 = .ok (.laload, 1))),
  ⟨OpOk.p (ok_iload (by decide +kernel : decode code 1563 = .ok (.iload 7, 2))),
  ⟨OpOk.p (ok_ifeq (by decide) (by decide +kernel : decode code 1565 = .ok (.ifCond .eq 7, 3))),
  ⟨OpOk.p (ok_lconst (by decide) (by decide +kernel : decode code 1568 = .ok (.lconst 1, 1))),
  ⟨OpOk.p (ok_goto (by decide) (by decide +kernel : decode code 1569 = .ok (.goto 4, 3))), trivial⟩⟩⟩⟩⟩⟩⟩⟩⟩
def b_law_1572 (g : GG) (z : Scr) : Blk := [(1, o_push (.long 0))]
set_option maxRecDepth 8000 in
theorem okb_law_1572 (g : GG) (l : Launch) (hst : l.stackTraces = false) (z : Scr) : BlkOkP (m_law g l) (PS z) 1572 (b_law_1572 g z) := 
  ⟨OpOk.p (ok_lconst (by decide) (by decide +kernel : decode code 1572 = .ok (.lconst 0, 1))), trivial⟩
def b_law_1573 (g : GG) (z : Scr) : Blk := [(1, o_lcmp), (3, o_ifeq 1579), (1, o_push (.int 0)), (1, o_zret)]
set_option maxRecDepth 8000 in
theorem okb_law_1573 (g : GG) (l : Launch) (hst : l.stackTraces = false) (z : Scr) : BlkOkP (m_law g l) (PS z) 1573 (b_law_1573 g z) := 
  ⟨OpOk.p (ok_lcmp (by decide +kernel : decode code 1573 = .ok (.lcmp, 1))),
  ⟨OpOk.p (ok_ifeq (by decide) (by decide +kernel : decode code 1574 = .ok (.ifCond .eq 5, 3))),
  ⟨OpOk.p (ok_iconst (by decide) (by decide +kernel : decode code 1577 = .ok (.iconst 0, 1))),
  ⟨OpOk.p (ok_zret rfl (by decide +kernel : decode code 1578 = .ok (.ireturn, 1))), trivial⟩⟩⟩⟩
def b_law_1579 (g : GG) (z : Scr) : Blk := [(3, o_goto 2528)]
set_option maxRecDepth 8000 in
theorem okb_law_1579 (g : GG) (l : Launch) (hst : l.stackTraces = false) (z : Scr) : BlkOkP (m_law g l) (PS z) 1579 (b_law_1579 g z) := 
  ⟨OpOk.p (ok_goto (by decide) (by decide +kernel : decode code 1579 = .ok (.goto 949, 3))), trivial⟩
def k_law_c20 (g : GG) (z : Scr) : List (Nat × Blk) := [(1519, b_law_1519 g z), (1530, b_law_1530 g z), (1542, b_law_1542 g z), (1548, b_law_1548 g z), (1555, b_law_1555 g z), (1572, b_law_1572 g z), (1573, b_law_1573 g z), (1579, b_law_1579 g z)]
theorem okl_law_c20 (g : GG) (l : Launch) (hst : l.stackTraces = false) (z : Scr) : ∀ b ∈ k_law_c20 g z, BlkOkP (m_law g l) (PS z) b.1 b.2 := List.forall_mem_cons.mpr ⟨okb_law_1519 g l hst z, List.forall_mem_cons.mpr ⟨okb_law_1530 g l hst z, List.forall_mem_cons.mpr ⟨okb_law_1542 g l hst z, List.forall_mem_cons.mpr ⟨okb_law_1548 g l hst z, List.forall_mem_cons.mpr ⟨okb_law_1555 g l hst z, List.forall_mem_cons.mpr ⟨okb_law_1572 g l hst z, List.forall_mem_cons.mpr ⟨okb_law_1573 g l hst z, List.forall_mem_cons.mpr ⟨okb_law_1579 g l hst z, fun _ h => by cases h⟩⟩⟩⟩⟩⟩⟩⟩
def b_law_1582 (g : GG) (z : Scr) : Blk := [(1, o_aload 1), (3, o_callR (o_call0 (T_GP_position g) 1) 9 1)]
set_option maxRecDepth 8000 in
theorem okb_law_1582 (g : GG) (l : Launch) (hst : l.stackTraces = false) (z : Scr) : BlkOkP (m_law g l) (PS z) 1582 (b_law_1582 g z) := 
  ⟨OpOk.p (ok_aload_n (by decide +kernel : decode code 1582 = .ok (.aload_n 1, 1)) rfl),
  ⟨OpOk.p (OpOk.mono (M := m_law g l) (pc := 1583) (ok_callV (k := 0) cls_9 (s_GP_position g l hst) (show 1 < 100 from by decide) (Nat.le_of_ble_eq_true rfl) rfl rfl tw_200 tw_201 tw_202 tw_1 tw_203 ⟨by decide, by decide, by decide⟩ (by decide +kernel : decode code 1583 = .ok (.invokevirtual 209, 3))) callR0_of), trivial⟩⟩
def b_law_1586 (g : GG) (z : Scr) : Blk := [(1, o_aload 2), (3, o_callR (o_call0 T_Mo_position 1) 10 1)]
set_option maxRecDepth 8000 in
theorem okb_law_1586 (g : GG) (l : Launch) (hst : l.stackTraces = false) (z : Scr) : BlkOkP (m_law g l) (PS z) 1586 (b_law_1586 g z) := 
  ⟨OpOk.p (ok_aload_n (by decide +kernel : decode code 1586 = .ok (.aload_n 2, 1)) rfl),
  ⟨OpOk.p (OpOk.mono (M := m_law g l) (pc := 1587) (ok_callV (k := 0) cls_10 (s_Mo_position g l hst) (show 1 < 100 from by decide) (Nat.le_of_ble_eq_true rfl) rfl rfl tw_1680 tw_1681 tw_1682 tw_9 tw_1683 ⟨by decide, by decide, by decide⟩ (by decide +kernel : decode code 1587 = .ok (.invokevirtual 212, 3))) callR0_of), trivial⟩⟩
def b_law_1590 (g : GG) (z : Scr) : Blk := [(3, o_iceq 2528), (1, o_push (.int 0)), (1, o_zret)]
set_option maxRecDepth 8000 in
theorem okb_law_1590 (g : GG) (l : Launch) (hst : l.stackTraces = false) (z : Scr) : BlkOkP (m_law g l) (PS z) 1590 (b_law_1590 g z) := 
  ⟨OpOk.p (ok_iceq (by decide) (by decide +kernel : decode code 1590 = .ok (.if_icmp .eq 938, 3))),
  ⟨OpOk.p (ok_iconst (by decide) (by decide +kernel : decode code 1593 = .ok (.iconst 0, 1))),
  ⟨OpOk.p (ok_zret rfl (by decide +kernel : decode code 1594 = .ok (.ireturn, 1))), trivial⟩⟩⟩
def k_law_c21 (g : GG) (z : Scr) : List (Nat × Blk) := [(1582, b_law_1582 g z), (1586, b_law_1586 g z), (1590, b_law_1590 g z)]
theorem okl_law_c21 (g : GG) (l : Launch) (hst : l.stackTraces = false) (z : Scr) : ∀ b ∈ k_law_c21 g z, BlkOkP (m_law g l) (PS z) b.1 b.2 := List.forall_mem_cons.mpr ⟨okb_law_1582 g l hst z, List.forall_mem_cons.mpr ⟨okb_law_1586 g l hst z, List.forall_mem_cons.mpr ⟨okb_law_1590 g l hst z, fun _ h => by cases h⟩⟩⟩
def b_law_1595 (g : GG) (z : Scr) : Blk := [(1, o_aload 1), (3, o_callR (o_call0 (T_GP_chunksRead g) 1) 9 1)]
set_option maxRecDepth 8000 in
theorem okb_law_1595 (g : GG) (l : Launch) (hst : l.stackTraces = false) (z : Scr) : BlkOkP (m_law g l) (PS z) 1595 (b_law_1595 g z) := 
  ⟨OpOk.p (ok_aload_n (by decide +kernel : decode code 1595 = .ok (.aload_n 1, 1)) rfl),
  ⟨OpOk.p (OpOk.mono (M := m_law g l) (pc := 1596) (ok_callV (k := 0) cls_9 (s_GP_chunksRead g l hst) (show 1 < 100 from by decide) (Nat.le_of_ble_eq_true rfl) rfl rfl tw_204 tw_205 tw_206 tw_1 tw_207 ⟨by decide, by decide, by decide⟩ (by decide +kernel : decode code 1596 = .ok (.invokevirtual 213, 3))) callR0_of), trivial⟩⟩
def b_law_1599 (g : GG) (z : Scr) : Blk := [(1, o_aload 2), (3, o_callR (o_call0 T_Mo_chunksRead 1) 10 1)]
set_option maxRecDepth 8000 in
theorem okb_law_1599 (g : GG) (l : Launch) (hst : l.stackTraces = false) (z : Scr) : BlkOkP (m_law g l) (PS z) 1599 (b_law_1599 g z) := 
  ⟨OpOk.p (ok_aload_n (by decide +kernel : decode code 1599 = .ok (.aload_n 2, 1)) rfl),
  ⟨OpOk.p (OpOk.mono (M := m_law g l) (pc := 1600) (ok_callV (k := 0) cls_10 (s_Mo_chunksRead g l hst) (show 1 < 100 from by decide) (Nat.le_of_ble_eq_true rfl) rfl rfl tw_1684 tw_1685 tw_1686 tw_9 tw_1687 ⟨by decide, by decide, by decide⟩ (by decide +kernel : decode code 1600 = .ok (.invokevirtual 217, 3))) callR0_of), trivial⟩⟩
def b_law_1603 (g : GG) (z : Scr) : Blk := [(1, o_lcmp), (3, o_ifeq 2528), (1, o_push (.int 0)), (1, o_zret)]
set_option maxRecDepth 8000 in
theorem okb_law_1603 (g : GG) (l : Launch) (hst : l.stackTraces = false) (z : Scr) : BlkOkP (m_law g l) (PS z) 1603 (b_law_1603 g z) := 
  ⟨OpOk.p (ok_lcmp (by decide +kernel : decode code 1603 = .ok (.lcmp, 1))),
  ⟨OpOk.p (ok_ifeq (by decide) (by decide +kernel : decode code 1604 = .ok (.ifCond .eq 924, 3))),
  ⟨OpOk.p (ok_iconst (by decide) (by decide +kernel : decode code 1607 = .ok (.iconst 0, 1))),
  ⟨OpOk.p (ok_zret rfl (by decide +kernel : decode code 1608 = .ok (.ireturn, 1))), trivial⟩⟩⟩⟩
def k_law_c22 (g : GG) (z : Scr) : List (Nat × Blk) := [(1595, b_law_1595 g z), (1599, b_law_1599 g z), (1603, b_law_1603 g z)]
theorem okl_law_c22 (g : GG) (l : Launch) (hst : l.stackTraces = false) (z : Scr) : ∀ b ∈ k_law_c22 g z, BlkOkP (m_law g l) (PS z) b.1 b.2 := List.forall_mem_cons.mpr ⟨okb_law_1595 g l hst z, List.forall_mem_cons.mpr ⟨okb_law_1599 g l hst z, List.forall_mem_cons.mpr ⟨okb_law_1603 g l hst z, fun _ h => by cases h⟩⟩⟩
def b_law_1609 (g : GG) (z : Scr) : Blk := [(1, o_aload 1), (1, o_aload 0), (2, o_iload 5), (1, o_push (.int 1)), (1, o_iadd), (1, o_sld z), (1, o_aload 3), (3, o_callX (T_La_skipped g) 3 1 6)]
set_option maxRecDepth 8000 in
theorem okb_law_1609 (g : GG) (l : Launch) (hst : l.stackTraces = false) (z : Scr) : BlkOkP (m_law g l) (PS z) 1609 (b_law_1609 g z) := 
  ⟨OpOk.p (ok_aload_n (by decide +kernel : decode code 1609 = .ok (.aload_n 1, 1)) rfl),
  ⟨OpOk.p (ok_aload_n (by decide +kernel : decode code 1610 = .ok (.aload_n 0, 1)) rfl),
  ⟨OpOk.p (ok_iload (by decide +kernel : decode code 1611 = .ok (.iload 5, 2))),
  ⟨OpOk.p (ok_iconst (by decide) (by decide +kernel : decode code 1613 = .ok (.iconst 1, 1))),
  ⟨OpOk.p (ok_iadd (by decide +kernel : decode code 1614 = .ok (.iadd, 1))),
  ⟨ok_sld (by decide +kernel : decode code 1615 = .ok (.iaload, 1)),
  ⟨OpOk.p (ok_aload_n (by decide +kernel : decode code 1616 = .ok (.aload_n 3, 1)) rfl),
  ⟨OpOk.p (ok_callSH (k := 3) (s_La_skipped g l hst) (show 12 < 100 from by decide) (Nat.le_of_ble_eq_true rfl) rfl tw_1098 tw_1099 tw_0 tw_1100 ⟨by decide, by decide, by decide⟩ (by decide +kernel : decode code 1617 = .ok (.invokestatic 218, 3))), trivial⟩⟩⟩⟩⟩⟩⟩⟩
def b_law_1620 (g : GG) (z : Scr) : Blk := [(2, o_istore 6), (1, o_aload 2), (1, o_aload 0), (2, o_iload 5), (1, o_push (.int 1)), (1, o_iadd), (1, o_sld z), (3, o_callR (o_call0 T_Mo_skipped 2) 10 2)]
set_option maxRecDepth 8000 in
theorem okb_law_1620 (g : GG) (l : Launch) (hst : l.stackTraces = false) (z : Scr) : BlkOkP (m_law g l) (PS z) 1620 (b_law_1620 g z) := 
  ⟨OpOk.p (ok_istore (Nat.le_of_ble_eq_true rfl) (by decide +kernel : decode code 1620 = .ok (.istore 6, 2))),
  ⟨OpOk.p (ok_aload_n (by decide +kernel : decode code 1622 = .ok (.aload_n 2, 1)) rfl),
  ⟨OpOk.p (ok_aload_n (by decide +kernel : decode code 1623 = .ok (.aload_n 0, 1)) rfl),
  ⟨OpOk.p (ok_iload (by decide +kernel : decode code 1624 = .ok (.iload 5, 2))),
  ⟨OpOk.p (ok_iconst (by decide) (by decide +kernel : decode code 1626 = .ok (.iconst 1, 1))),
  ⟨OpOk.p (ok_iadd (by decide +kernel : decode code 1627 = .ok (.iadd, 1))),
  ⟨ok_sld (by decide +kernel : decode code 1628 = .ok (.iaload, 1)),
  ⟨OpOk.p (OpOk.mono (M := m_law g l) (pc := 1629) (ok_callV (k := 1) cls_10 (s_Mo_skipped g l hst) (show 4 < 100 from by decide) (Nat.le_of_ble_eq_true rfl) rfl rfl tw_1688 tw_1689 tw_1690 tw_9 tw_1691 ⟨by decide, by decide, by decide⟩ (by decide +kernel : decode code 1629 = .ok (.invokevirtual 220, 3))) callR0_of), trivial⟩⟩⟩⟩⟩⟩⟩⟩
def b_law_1632 (g : GG) (z : Scr) : Blk := [(2, o_istore 7), (1, o_aload 2), (3, o_callR (o_call0 T_Mo_thrown 1) 10 1)]
set_option maxRecDepth 8000 in
theorem okb_law_1632 (g : GG) (l : Launch) (hst : l.stackTraces = false) (z : Scr) : BlkOkP (m_law g l) (PS z) 1632 (b_law_1632 g z) := 
  ⟨OpOk.p (ok_istore (Nat.le_of_ble_eq_true rfl) (by decide +kernel : decode code 1632 = .ok (.istore 7, 2))),
  ⟨OpOk.p (ok_aload_n (by decide +kernel : decode code 1634 = .ok (.aload_n 2, 1)) rfl),
  ⟨OpOk.p (OpOk.mono (M := m_law g l) (pc := 1635) (ok_callV (k := 0) cls_10 (s_Mo_thrown g l hst) (show 1 < 100 from by decide) (Nat.le_of_ble_eq_true rfl) rfl rfl tw_1416 tw_1417 tw_1418 tw_9 tw_1419 ⟨by decide, by decide, by decide⟩ (by decide +kernel : decode code 1635 = .ok (.invokevirtual 139, 3))) callR0_of), trivial⟩⟩⟩
def b_law_1638 (g : GG) (z : Scr) : Blk := [(2, o_iload 6), (3, o_iceq 1645), (1, o_push (.int 0)), (1, o_zret)]
set_option maxRecDepth 8000 in
theorem okb_law_1638 (g : GG) (l : Launch) (hst : l.stackTraces = false) (z : Scr) : BlkOkP (m_law g l) (PS z) 1638 (b_law_1638 g z) := 
  ⟨OpOk.p (ok_iload (by decide +kernel : decode code 1638 = .ok (.iload 6, 2))),
  ⟨OpOk.p (ok_iceq (by decide) (by decide +kernel : decode code 1640 = .ok (.if_icmp .eq 5, 3))),
  ⟨OpOk.p (ok_iconst (by decide) (by decide +kernel : decode code 1643 = .ok (.iconst 0, 1))),
  ⟨OpOk.p (ok_zret rfl (by decide +kernel : decode code 1644 = .ok (.ireturn, 1))), trivial⟩⟩⟩⟩
def b_law_1645 (g : GG) (z : Scr) : Blk := [(2, o_iload 6), (3, o_ifne 1662), (1, o_aload 3), (1, o_push (.int 0)), (1, o_lald), (2, o_iload 7), (1, o_i2l), (1, o_lcmp), (3, o_ifeq 1662), (1, o_push (.int 0)), (1, o_zret)]
set_option maxRecDepth 8000 in
theorem okb_law_1645 (g : GG) (l : Launch) (hst : l.stackTraces = false) (z : Scr) : BlkOkP (m_law g l) (PS z) 1645 (b_law_1645 g z) := 
  ⟨OpOk.p (ok_iload (by decide +kernel : decode code 1645 = .ok (.iload 6, 2))),
  ⟨OpOk.p (ok_ifne (by decide) (by decide +kernel : decode code 1647 = .ok (.ifCond .ne 15, 3))),
  ⟨OpOk.p (ok_aload_n (by decide +kernel : decode code 1650 = .ok (.aload_n 3, 1)) rfl),
  ⟨OpOk.p (ok_iconst (by decide) (by decide +kernel : decode code 1651 = .ok (.iconst 0, 1))),
  ⟨OpOk.p (ok_lald (by decide +kernel : decode code 1652 = .ok (.laload, 1))),
  ⟨OpOk.p (ok_iload (by decide +kernel : decode code 1653 = .ok (.iload 7, 2))),
  ⟨OpOk.p (ok_i2l (by decide +kernel : decode code 1655 = .ok (.i2l, 1))),
  ⟨OpOk.p (ok_lcmp (by decide +kernel : decode code 1656 = .ok (.lcmp, 1))),
  ⟨OpOk.p (ok_ifeq (by decide) (by decide +kernel : decode code 1657 = .ok (.ifCond .eq 5, 3))),
  ⟨OpOk.p (ok_iconst (by decide) (by decide +kernel : decode code 1660 = .ok (.iconst 0, 1))),
  ⟨OpOk.p (ok_zret rfl (by decide +kernel : decode code 1661 = .ok (.ireturn, 1))), trivial⟩⟩⟩⟩⟩⟩⟩⟩⟩⟩⟩
def b_law_1662 (g : GG) (z : Scr) : Blk := [(3, o_goto 2528)]
set_option maxRecDepth 8000 in
theorem okb_law_1662 (g : GG) (l : Launch) (hst : l.stackTraces = false) (z : Scr) : BlkOkP (m_law g l) (PS z) 1662 (b_law_1662 g z) := 
  ⟨OpOk.p (ok_goto (by decide) (by decide +kernel : decode code 1662 = .ok (.goto 866, 3))), trivial⟩
def k_law_c23 (g : GG) (z : Scr) : List (Nat × Blk) := [(1609, b_law_1609 g z), (1620, b_law_1620 g z), (1632, b_law_1632 g z), (1638, b_law_1638 g z), (1645, b_law_1645 g z), (1662, b_law_1662 g z)]
theorem okl_law_c23 (g : GG) (l : Launch) (hst : l.stackTraces = false) (z : Scr) : ∀ b ∈ k_law_c23 g z, BlkOkP (m_law g l) (PS z) b.1 b.2 := List.forall_mem_cons.mpr ⟨okb_law_1609 g l hst z, List.forall_mem_cons.mpr ⟨okb_law_1620 g l hst z, List.forall_mem_cons.mpr ⟨okb_law_1632 g l hst z, List.forall_mem_cons.mpr ⟨okb_law_1638 g l hst z, List.forall_mem_cons.mpr ⟨okb_law_1645 g l hst z, List.forall_mem_cons.mpr ⟨okb_law_1662 g l hst z, fun _ h => by cases h⟩⟩⟩⟩⟩⟩
def b_law_1665 (g : GG) (z : Scr) : Blk := [(1, o_aload 1), (1, o_aload 0), (2, o_iload 5), (1, o_push (.int 1)), (1, o_iadd), (1, o_sld z), (1, o_aload 3), (3, o_callX (T_La_spilled g) 3 1 6)]
set_option maxRecDepth 8000 in
theorem okb_law_1665 (g : GG) (l : Launch) (hst : l.stackTraces = false) (z : Scr) : BlkOkP (m_law g l) (PS z) 1665 (b_law_1665 g z) := 
  ⟨OpOk.p (ok_aload_n (by decide +kernel : decode code 1665 = .ok (.aload_n 1, 1)) rfl),
  ⟨OpOk.p (ok_aload_n (by decide +kernel : decode code 1666 = .ok (.aload_n 0, 1)) rfl),
  ⟨OpOk.p (ok_iload (by decide +kernel : decode code 1667 = .ok (.iload 5, 2))),
  ⟨OpOk.p (ok_iconst (by decide) (by decide +kernel : decode code 1669 = .ok (.iconst 1, 1))),
  ⟨OpOk.p (ok_iadd (by decide +kernel : decode code 1670 = .ok (.iadd, 1))),
  ⟨ok_sld (by decide +kernel : decode code 1671 = .ok (.iaload, 1)),
  ⟨OpOk.p (ok_aload_n (by decide +kernel : decode code 1672 = .ok (.aload_n 3, 1)) rfl),
  ⟨OpOk.p (ok_callSH (k := 3) (s_La_spilled g l hst) (show 12 < 100 from by decide) (Nat.le_of_ble_eq_true rfl) rfl tw_1105 tw_1106 tw_0 tw_1107 ⟨by decide, by decide, by decide⟩ (by decide +kernel : decode code 1673 = .ok (.invokestatic 221, 3))), trivial⟩⟩⟩⟩⟩⟩⟩⟩
def b_law_1676 (g : GG) (z : Scr) : Blk := [(2, o_istore 6), (1, o_aload 2), (1, o_aload 0), (2, o_iload 5), (1, o_push (.int 1)), (1, o_iadd), (1, o_sld z), (3, o_callR (o_call0 T_Mo_spilled 2) 10 2)]
set_option maxRecDepth 8000 in
theorem okb_law_1676 (g : GG) (l : Launch) (hst : l.stackTraces = false) (z : Scr) : BlkOkP (m_law g l) (PS z) 1676 (b_law_1676 g z) := 
  ⟨OpOk.p (ok_istore (Nat.le_of_ble_eq_true rfl) (by decide +kernel : decode code 1676 = .ok (.istore 6, 2))),
  ⟨OpOk.p (ok_aload_n (by decide +kernel : decode code 1678 = .ok (.aload_n 2, 1)) rfl),
  ⟨OpOk.p (ok_aload_n (by decide +kernel : decode code 1679 = .ok (.aload_n 0, 1)) rfl),
  ⟨OpOk.p (ok_iload (by decide +kernel : decode code 1680 = .ok (.iload 5, 2))),
  ⟨OpOk.p (ok_iconst (by decide) (by decide +kernel : decode code 1682 = .ok (.iconst 1, 1))),
  ⟨OpOk.p (ok_iadd (by decide +kernel : decode code 1683 = .ok (.iadd, 1))),
  ⟨ok_sld (by decide +kernel : decode code 1684 = .ok (.iaload, 1)),
  ⟨OpOk.p (OpOk.mono (M := m_law g l) (pc := 1685) (ok_callV (k := 1) cls_10 (s_Mo_spilled g l hst) (show 4 < 100 from by decide) (Nat.le_of_ble_eq_true rfl) rfl rfl tw_1692 tw_1693 tw_1694 tw_9 tw_1695 ⟨by decide, by decide, by decide⟩ (by decide +kernel : decode code 1685 = .ok (.invokevirtual 223, 3))) callR0_of), trivial⟩⟩⟩⟩⟩⟩⟩⟩
def b_law_1688 (g : GG) (z : Scr) : Blk := [(2, o_istore 7), (1, o_aload 2), (3, o_callR (o_call0 T_Mo_thrown 1) 10 1)]
set_option maxRecDepth 8000 in
theorem okb_law_1688 (g : GG) (l : Launch) (hst : l.stackTraces = false) (z : Scr) : BlkOkP (m_law g l) (PS z) 1688 (b_law_1688 g z) := 
  ⟨OpOk.p (ok_istore (Nat.le_of_ble_eq_true rfl) (by decide +kernel : decode code 1688 = .ok (.istore 7, 2))),
  ⟨OpOk.p (ok_aload_n (by decide +kernel : decode code 1690 = .ok (.aload_n 2, 1)) rfl),
  ⟨OpOk.p (OpOk.mono (M := m_law g l) (pc := 1691) (ok_callV (k := 0) cls_10 (s_Mo_thrown g l hst) (show 1 < 100 from by decide) (Nat.le_of_ble_eq_true rfl) rfl rfl tw_1416 tw_1417 tw_1418 tw_9 tw_1419 ⟨by decide, by decide, by decide⟩ (by decide +kernel : decode code 1691 = .ok (.invokevirtual 139, 3))) callR0_of), trivial⟩⟩⟩
def b_law_1694 (g : GG) (z : Scr) : Blk := [(2, o_iload 6), (3, o_iceq 1701), (1, o_push (.int 0)), (1, o_zret)]
set_option maxRecDepth 8000 in
theorem okb_law_1694 (g : GG) (l : Launch) (hst : l.stackTraces = false) (z : Scr) : BlkOkP (m_law g l) (PS z) 1694 (b_law_1694 g z) := 
  ⟨OpOk.p (ok_iload (by decide +kernel : decode code 1694 = .ok (.iload 6, 2))),
  ⟨OpOk.p (ok_iceq (by decide) (by decide +kernel : decode code 1696 = .ok (.if_icmp .eq 5, 3))),
  ⟨OpOk.p (ok_iconst (by decide) (by decide +kernel : decode code 1699 = .ok (.iconst 0, 1))),
  ⟨OpOk.p (ok_zret rfl (by decide +kernel : decode code 1700 = .ok (.ireturn, 1))), trivial⟩⟩⟩⟩
def b_law_1701 (g : GG) (z : Scr) : Blk := [(2, o_iload 6), (3, o_ifne 1718), (1, o_aload 3), (1, o_push (.int 0)), (1, o_lald), (2, o_iload 7), (1, o_i2l), (1, o_lcmp), (3, o_ifeq 1718), (1, o_push (.int 0)), (1, o_zret)]
set_option maxRecDepth 8000 in
theorem okb_law_1701 (g : GG) (l : Launch) (hst : l.stackTraces = false) (z : Scr) : BlkOkP (m_law g l) (PS z) 1701 (b_law_1701 g z) := 
  ⟨OpOk.p (ok_iload (by decide +kernel : decode code 1701 = .ok (.iload 6, 2))),
  ⟨OpOk.p (ok_ifne (by decide) (by decide +kernel : decode code 1703 = .ok (.ifCond .ne 15, 3))),
  ⟨OpOk.p (ok_aload_n (by decide +kernel : decode code 1706 = .ok (.aload_n 3, 1)) rfl),
  ⟨OpOk.p (ok_iconst (by decide) (by decide +kernel : decode code 1707 = .ok (.iconst 0, 1))),
  ⟨OpOk.p (ok_lald (by decide +kernel : decode code 1708 = .ok (.laload, 1))),
  ⟨OpOk.p (ok_iload (by decide +kernel : decode code 1709 = .ok (.iload 7, 2))),
  ⟨OpOk.p (ok_i2l (by decide +kernel : decode code 1711 = .ok (.i2l, 1))),
  ⟨OpOk.p (ok_lcmp (by decide +kernel : decode code 1712 = .ok (.lcmp, 1))),
  ⟨OpOk.p (ok_ifeq (by decide) (by decide +kernel : decode code 1713 = .ok (.ifCond .eq 5, 3))),
  ⟨OpOk.p (ok_iconst (by decide) (by decide +kernel : decode code 1716 = .ok (.iconst 0, 1))),
  ⟨OpOk.p (ok_zret rfl (by decide +kernel : decode code 1717 = .ok (.ireturn, 1))), trivial⟩⟩⟩⟩⟩⟩⟩⟩⟩⟩⟩
def b_law_1718 (g : GG) (z : Scr) : Blk := [(3, o_goto 2528)]
set_option maxRecDepth 8000 in
theorem okb_law_1718 (g : GG) (l : Launch) (hst : l.stackTraces = false) (z : Scr) : BlkOkP (m_law g l) (PS z) 1718 (b_law_1718 g z) := 
  ⟨OpOk.p (ok_goto (by decide) (by decide +kernel : decode code 1718 = .ok (.goto 810, 3))), trivial⟩
def k_law_c24 (g : GG) (z : Scr) : List (Nat × Blk) := [(1665, b_law_1665 g z), (1676, b_law_1676 g z), (1688, b_law_1688 g z), (1694, b_law_1694 g z), (1701, b_law_1701 g z), (1718, b_law_1718 g z)]
theorem okl_law_c24 (g : GG) (l : Launch) (hst : l.stackTraces = false) (z : Scr) : ∀ b ∈ k_law_c24 g z, BlkOkP (m_law g l) (PS z) b.1 b.2 := List.forall_mem_cons.mpr ⟨okb_law_1665 g l hst z, List.forall_mem_cons.mpr ⟨okb_law_1676 g l hst z, List.forall_mem_cons.mpr ⟨okb_law_1688 g l hst z, List.forall_mem_cons.mpr ⟨okb_law_1694 g l hst z, List.forall_mem_cons.mpr ⟨okb_law_1701 g l hst z, List.forall_mem_cons.mpr ⟨okb_law_1718 g l hst z, fun _ h => by cases h⟩⟩⟩⟩⟩⟩
def b_law_1721 (g : GG) (z : Scr) : Blk := [(1, o_aload 1), (1, o_aload 0), (2, o_iload 5), (1, o_push (.int 1)), (1, o_iadd), (1, o_sld z), (1, o_aload 3), (3, o_callX (T_La_aside g) 3 1 6)]
set_option maxRecDepth 8000 in
theorem okb_law_1721 (g : GG) (l : Launch) (hst : l.stackTraces = false) (z : Scr) : BlkOkP (m_law g l) (PS z) 1721 (b_law_1721 g z) := 
  ⟨OpOk.p (ok_aload_n (by decide +kernel : decode code 1721 = .ok (.aload_n 1, 1)) rfl),
  ⟨OpOk.p (ok_aload_n (by decide +kernel : decode code 1722 = .ok (.aload_n 0, 1)) rfl),
  ⟨OpOk.p (ok_iload (by decide +kernel : decode code 1723 = .ok (.iload 5, 2))),
  ⟨OpOk.p (ok_iconst (by decide) (by decide +kernel : decode code 1725 = .ok (.iconst 1, 1))),
  ⟨OpOk.p (ok_iadd (by decide +kernel : decode code 1726 = .ok (.iadd, 1))),
  ⟨ok_sld (by decide +kernel : decode code 1727 = .ok (.iaload, 1)),
  ⟨OpOk.p (ok_aload_n (by decide +kernel : decode code 1728 = .ok (.aload_n 3, 1)) rfl),
  ⟨OpOk.p (ok_callSH (k := 3) (s_La_aside g l hst) (show 12 < 100 from by decide) (Nat.le_of_ble_eq_true rfl) rfl tw_1112 tw_1113 tw_0 tw_1114 ⟨by decide, by decide, by decide⟩ (by decide +kernel : decode code 1729 = .ok (.invokestatic 224, 3))), trivial⟩⟩⟩⟩⟩⟩⟩⟩
def b_law_1732 (g : GG) (z : Scr) : Blk := [(2, o_istore 6), (1, o_aload 2), (1, o_aload 0), (2, o_iload 5), (1, o_push (.int 1)), (1, o_iadd), (1, o_sld z), (3, o_callR (o_call0 T_Mo_aside 2) 10 2)]
set_option maxRecDepth 8000 in
theorem okb_law_1732 (g : GG) (l : Launch) (hst : l.stackTraces = false) (z : Scr) : BlkOkP (m_law g l) (PS z) 1732 (b_law_1732 g z) := 
  ⟨OpOk.p (ok_istore (Nat.le_of_ble_eq_true rfl) (by decide +kernel : decode code 1732 = .ok (.istore 6, 2))),
  ⟨OpOk.p (ok_aload_n (by decide +kernel : decode code 1734 = .ok (.aload_n 2, 1)) rfl),
  ⟨OpOk.p (ok_aload_n (by decide +kernel : decode code 1735 = .ok (.aload_n 0, 1)) rfl),
  ⟨OpOk.p (ok_iload (by decide +kernel : decode code 1736 = .ok (.iload 5, 2))),
  ⟨OpOk.p (ok_iconst (by decide) (by decide +kernel : decode code 1738 = .ok (.iconst 1, 1))),
  ⟨OpOk.p (ok_iadd (by decide +kernel : decode code 1739 = .ok (.iadd, 1))),
  ⟨ok_sld (by decide +kernel : decode code 1740 = .ok (.iaload, 1)),
  ⟨OpOk.p (OpOk.mono (M := m_law g l) (pc := 1741) (ok_callV (k := 1) cls_10 (s_Mo_aside g l hst) (show 4 < 100 from by decide) (Nat.le_of_ble_eq_true rfl) rfl rfl tw_1696 tw_1697 tw_1698 tw_9 tw_1699 ⟨by decide, by decide, by decide⟩ (by decide +kernel : decode code 1741 = .ok (.invokevirtual 226, 3))) callR0_of), trivial⟩⟩⟩⟩⟩⟩⟩⟩
def b_law_1744 (g : GG) (z : Scr) : Blk := [(2, o_istore 7), (1, o_aload 2), (3, o_callR (o_call0 T_Mo_thrown 1) 10 1)]
set_option maxRecDepth 8000 in
theorem okb_law_1744 (g : GG) (l : Launch) (hst : l.stackTraces = false) (z : Scr) : BlkOkP (m_law g l) (PS z) 1744 (b_law_1744 g z) := 
  ⟨OpOk.p (ok_istore (Nat.le_of_ble_eq_true rfl) (by decide +kernel : decode code 1744 = .ok (.istore 7, 2))),
  ⟨OpOk.p (ok_aload_n (by decide +kernel : decode code 1746 = .ok (.aload_n 2, 1)) rfl),
  ⟨OpOk.p (OpOk.mono (M := m_law g l) (pc := 1747) (ok_callV (k := 0) cls_10 (s_Mo_thrown g l hst) (show 1 < 100 from by decide) (Nat.le_of_ble_eq_true rfl) rfl rfl tw_1416 tw_1417 tw_1418 tw_9 tw_1419 ⟨by decide, by decide, by decide⟩ (by decide +kernel : decode code 1747 = .ok (.invokevirtual 139, 3))) callR0_of), trivial⟩⟩⟩
def b_law_1750 (g : GG) (z : Scr) : Blk := [(2, o_iload 6), (3, o_iceq 1757), (1, o_push (.int 0)), (1, o_zret)]
set_option maxRecDepth 8000 in
theorem okb_law_1750 (g : GG) (l : Launch) (hst : l.stackTraces = false) (z : Scr) : BlkOkP (m_law g l) (PS z) 1750 (b_law_1750 g z) := 
  ⟨OpOk.p (ok_iload (by decide +kernel : decode code 1750 = .ok (.iload 6, 2))),
  ⟨OpOk.p (ok_iceq (by decide) (by decide +kernel : decode code 1752 = .ok (.if_icmp .eq 5, 3))),
  ⟨OpOk.p (ok_iconst (by decide) (by decide +kernel : decode code 1755 = .ok (.iconst 0, 1))),
  ⟨OpOk.p (ok_zret rfl (by decide +kernel : decode code 1756 = .ok (.ireturn, 1))), trivial⟩⟩⟩⟩
def b_law_1757 (g : GG) (z : Scr) : Blk := [(2, o_iload 6), (3, o_ifne 1774), (1, o_aload 3), (1, o_push (.int 0)), (1, o_lald), (2, o_iload 7), (1, o_i2l), (1, o_lcmp), (3, o_ifeq 1774), (1, o_push (.int 0)), (1, o_zret)]
set_option maxRecDepth 8000 in
theorem okb_law_1757 (g : GG) (l : Launch) (hst : l.stackTraces = false) (z : Scr) : BlkOkP (m_law g l) (PS z) 1757 (b_law_1757 g z) := 
  ⟨OpOk.p (ok_iload (by decide +kernel : decode code 1757 = .ok (.iload 6, 2))),
  ⟨OpOk.p (ok_ifne (by decide) (by decide +kernel : decode code 1759 = .ok (.ifCond .ne 15, 3))),
  ⟨OpOk.p (ok_aload_n (by decide +kernel : decode code 1762 = .ok (.aload_n 3, 1)) rfl),
  ⟨OpOk.p (ok_iconst (by decide) (by decide +kernel : decode code 1763 = .ok (.iconst 0, 1))),
  ⟨OpOk.p (ok_lald (by decide +kernel : decode code 1764 = .ok (.laload, 1))),
  ⟨OpOk.p (ok_iload (by decide +kernel : decode code 1765 = .ok (.iload 7, 2))),
  ⟨OpOk.p (ok_i2l (by decide +kernel : decode code 1767 = .ok (.i2l, 1))),
  ⟨OpOk.p (ok_lcmp (by decide +kernel : decode code 1768 = .ok (.lcmp, 1))),
  ⟨OpOk.p (ok_ifeq (by decide) (by decide +kernel : decode code 1769 = .ok (.ifCond .eq 5, 3))),
  ⟨OpOk.p (ok_iconst (by decide) (by decide +kernel : decode code 1772 = .ok (.iconst 0, 1))),
  ⟨OpOk.p (ok_zret rfl (by decide +kernel : decode code 1773 = .ok (.ireturn, 1))), trivial⟩⟩⟩⟩⟩⟩⟩⟩⟩⟩⟩
def b_law_1774 (g : GG) (z : Scr) : Blk := [(3, o_goto 2528)]
set_option maxRecDepth 8000 in
theorem okb_law_1774 (g : GG) (l : Launch) (hst : l.stackTraces = false) (z : Scr) : BlkOkP (m_law g l) (PS z) 1774 (b_law_1774 g z) := 
  ⟨OpOk.p (ok_goto (by decide) (by decide +kernel : decode code 1774 = .ok (.goto 754, 3))), trivial⟩
def k_law_c25 (g : GG) (z : Scr) : List (Nat × Blk) := [(1721, b_law_1721 g z), (1732, b_law_1732 g z), (1744, b_law_1744 g z), (1750, b_law_1750 g z), (1757, b_law_1757 g z), (1774, b_law_1774 g z)]
theorem okl_law_c25 (g : GG) (l : Launch) (hst : l.stackTraces = false) (z : Scr) : ∀ b ∈ k_law_c25 g z, BlkOkP (m_law g l) (PS z) b.1 b.2 := List.forall_mem_cons.mpr ⟨okb_law_1721 g l hst z, List.forall_mem_cons.mpr ⟨okb_law_1732 g l hst z, List.forall_mem_cons.mpr ⟨okb_law_1744 g l hst z, List.forall_mem_cons.mpr ⟨okb_law_1750 g l hst z, List.forall_mem_cons.mpr ⟨okb_law_1757 g l hst z, List.forall_mem_cons.mpr ⟨okb_law_1774 g l hst z, fun _ h => by cases h⟩⟩⟩⟩⟩⟩
def b_law_1777 (g : GG) (z : Scr) : Blk := [(1, o_aload 1), (1, o_aload 0), (2, o_iload 5), (1, o_push (.int 1)), (1, o_iadd), (1, o_sld z), (1, o_aload 3), (3, o_callX (T_La_groups g) 3 2 12)]
set_option maxRecDepth 8000 in
theorem okb_law_1777 (g : GG) (l : Launch) (hst : l.stackTraces = false) (z : Scr) : BlkOkP (m_law g l) (PS z) 1777 (b_law_1777 g z) := 
  ⟨OpOk.p (ok_aload_n (by decide +kernel : decode code 1777 = .ok (.aload_n 1, 1)) rfl),
  ⟨OpOk.p (ok_aload_n (by decide +kernel : decode code 1778 = .ok (.aload_n 0, 1)) rfl),
  ⟨OpOk.p (ok_iload (by decide +kernel : decode code 1779 = .ok (.iload 5, 2))),
  ⟨OpOk.p (ok_iconst (by decide) (by decide +kernel : decode code 1781 = .ok (.iconst 1, 1))),
  ⟨OpOk.p (ok_iadd (by decide +kernel : decode code 1782 = .ok (.iadd, 1))),
  ⟨ok_sld (by decide +kernel : decode code 1783 = .ok (.iaload, 1)),
  ⟨OpOk.p (ok_aload_n (by decide +kernel : decode code 1784 = .ok (.aload_n 3, 1)) rfl),
  ⟨OpOk.p (ok_callSH (k := 3) (s_La_groups g l hst) (show 12 < 100 from by decide) (Nat.le_of_ble_eq_true rfl) rfl tw_1119 tw_1120 tw_0 tw_1121 ⟨by decide, by decide, by decide⟩ (by decide +kernel : decode code 1785 = .ok (.invokestatic 227, 3))), trivial⟩⟩⟩⟩⟩⟩⟩⟩
def b_law_1788 (g : GG) (z : Scr) : Blk := [(2, o_istore 6), (1, o_aload 2), (1, o_aload 0), (2, o_iload 5), (1, o_push (.int 1)), (1, o_iadd), (1, o_sld z), (3, o_callR (o_call0 T_Mo_groups 2) 10 2)]
set_option maxRecDepth 8000 in
theorem okb_law_1788 (g : GG) (l : Launch) (hst : l.stackTraces = false) (z : Scr) : BlkOkP (m_law g l) (PS z) 1788 (b_law_1788 g z) := 
  ⟨OpOk.p (ok_istore (Nat.le_of_ble_eq_true rfl) (by decide +kernel : decode code 1788 = .ok (.istore 6, 2))),
  ⟨OpOk.p (ok_aload_n (by decide +kernel : decode code 1790 = .ok (.aload_n 2, 1)) rfl),
  ⟨OpOk.p (ok_aload_n (by decide +kernel : decode code 1791 = .ok (.aload_n 0, 1)) rfl),
  ⟨OpOk.p (ok_iload (by decide +kernel : decode code 1792 = .ok (.iload 5, 2))),
  ⟨OpOk.p (ok_iconst (by decide) (by decide +kernel : decode code 1794 = .ok (.iconst 1, 1))),
  ⟨OpOk.p (ok_iadd (by decide +kernel : decode code 1795 = .ok (.iadd, 1))),
  ⟨ok_sld (by decide +kernel : decode code 1796 = .ok (.iaload, 1)),
  ⟨OpOk.p (OpOk.mono (M := m_law g l) (pc := 1797) (ok_callV (k := 1) cls_10 (s_Mo_groups g l hst) (show 6 < 100 from by decide) (Nat.le_of_ble_eq_true rfl) rfl rfl tw_1700 tw_1701 tw_1702 tw_9 tw_1703 ⟨by decide, by decide, by decide⟩ (by decide +kernel : decode code 1797 = .ok (.invokevirtual 229, 3))) callR0_of), trivial⟩⟩⟩⟩⟩⟩⟩⟩
def b_law_1800 (g : GG) (z : Scr) : Blk := [(2, o_istore 7), (1, o_aload 2), (3, o_callR (o_call0 T_Mo_thrown 1) 10 1)]
set_option maxRecDepth 8000 in
theorem okb_law_1800 (g : GG) (l : Launch) (hst : l.stackTraces = false) (z : Scr) : BlkOkP (m_law g l) (PS z) 1800 (b_law_1800 g z) := 
  ⟨OpOk.p (ok_istore (Nat.le_of_ble_eq_true rfl) (by decide +kernel : decode code 1800 = .ok (.istore 7, 2))),
  ⟨OpOk.p (ok_aload_n (by decide +kernel : decode code 1802 = .ok (.aload_n 2, 1)) rfl),
  ⟨OpOk.p (OpOk.mono (M := m_law g l) (pc := 1803) (ok_callV (k := 0) cls_10 (s_Mo_thrown g l hst) (show 1 < 100 from by decide) (Nat.le_of_ble_eq_true rfl) rfl rfl tw_1416 tw_1417 tw_1418 tw_9 tw_1419 ⟨by decide, by decide, by decide⟩ (by decide +kernel : decode code 1803 = .ok (.invokevirtual 139, 3))) callR0_of), trivial⟩⟩⟩
def b_law_1806 (g : GG) (z : Scr) : Blk := [(2, o_iload 6), (3, o_iceq 1813), (1, o_push (.int 0)), (1, o_zret)]
set_option maxRecDepth 8000 in
theorem okb_law_1806 (g : GG) (l : Launch) (hst : l.stackTraces = false) (z : Scr) : BlkOkP (m_law g l) (PS z) 1806 (b_law_1806 g z) := 
  ⟨OpOk.p (ok_iload (by decide +kernel : decode code 1806 = .ok (.iload 6, 2))),
  ⟨OpOk.p (ok_iceq (by decide) (by decide +kernel : decode code 1808 = .ok (.if_icmp .eq 5, 3))),
  ⟨OpOk.p (ok_iconst (by decide) (by decide +kernel : decode code 1811 = .ok (.iconst 0, 1))),
  ⟨OpOk.p (ok_zret rfl (by decide +kernel : decode code 1812 = .ok (.ireturn, 1))), trivial⟩⟩⟩⟩
def b_law_1813 (g : GG) (z : Scr) : Blk := [(2, o_iload 6), (3, o_ifne 1830), (1, o_aload 3), (1, o_push (.int 0)), (1, o_lald), (2, o_iload 7), (1, o_i2l), (1, o_lcmp), (3, o_ifeq 1830), (1, o_push (.int 0)), (1, o_zret)]
set_option maxRecDepth 8000 in
theorem okb_law_1813 (g : GG) (l : Launch) (hst : l.stackTraces = false) (z : Scr) : BlkOkP (m_law g l) (PS z) 1813 (b_law_1813 g z) := 
  ⟨OpOk.p (ok_iload (by decide +kernel : decode code 1813 = .ok (.iload 6, 2))),
  ⟨OpOk.p (ok_ifne (by decide) (by decide +kernel : decode code 1815 = .ok (.ifCond .ne 15, 3))),
  ⟨OpOk.p (ok_aload_n (by decide +kernel : decode code 1818 = .ok (.aload_n 3, 1)) rfl),
  ⟨OpOk.p (ok_iconst (by decide) (by decide +kernel : decode code 1819 = .ok (.iconst 0, 1))),
  ⟨OpOk.p (ok_lald (by decide +kernel : decode code 1820 = .ok (.laload, 1))),
  ⟨OpOk.p (ok_iload (by decide +kernel : decode code 1821 = .ok (.iload 7, 2))),
  ⟨OpOk.p (ok_i2l (by decide +kernel : decode code 1823 = .ok (.i2l, 1))),
  ⟨OpOk.p (ok_lcmp (by decide +kernel : decode code 1824 = .ok (.lcmp, 1))),
  ⟨OpOk.p (ok_ifeq (by decide) (by decide +kernel : decode code 1825 = .ok (.ifCond .eq 5, 3))),
  ⟨OpOk.p (ok_iconst (by decide) (by decide +kernel : decode code 1828 = .ok (.iconst 0, 1))),
  ⟨OpOk.p (ok_zret rfl (by decide +kernel : decode code 1829 = .ok (.ireturn, 1))), trivial⟩⟩⟩⟩⟩⟩⟩⟩⟩⟩⟩
def b_law_1830 (g : GG) (z : Scr) : Blk := [(3, o_goto 2528)]
set_option maxRecDepth 8000 in
theorem okb_law_1830 (g : GG) (l : Launch) (hst : l.stackTraces = false) (z : Scr) : BlkOkP (m_law g l) (PS z) 1830 (b_law_1830 g z) := 
  ⟨OpOk.p (ok_goto (by decide) (by decide +kernel : decode code 1830 = .ok (.goto 698, 3))), trivial⟩
def k_law_c26 (g : GG) (z : Scr) : List (Nat × Blk) := [(1777, b_law_1777 g z), (1788, b_law_1788 g z), (1800, b_law_1800 g z), (1806, b_law_1806 g z), (1813, b_law_1813 g z), (1830, b_law_1830 g z)]
theorem okl_law_c26 (g : GG) (l : Launch) (hst : l.stackTraces = false) (z : Scr) : ∀ b ∈ k_law_c26 g z, BlkOkP (m_law g l) (PS z) b.1 b.2 := List.forall_mem_cons.mpr ⟨okb_law_1777 g l hst z, List.forall_mem_cons.mpr ⟨okb_law_1788 g l hst z, List.forall_mem_cons.mpr ⟨okb_law_1800 g l hst z, List.forall_mem_cons.mpr ⟨okb_law_1806 g l hst z, List.forall_mem_cons.mpr ⟨okb_law_1813 g l hst z, List.forall_mem_cons.mpr ⟨okb_law_1830 g l hst z, fun _ h => by cases h⟩⟩⟩⟩⟩⟩
def b_law_1833 (g : GG) (z : Scr) : Blk := [(1, o_aload 1), (1, o_aload 0), (2, o_iload 5), (1, o_push (.int 1)), (1, o_iadd), (1, o_sld z), (1, o_aload 0), (2, o_iload 5), (1, o_push (.int 2)), (1, o_iadd), (1, o_sld z), (1, o_aload 3), (3, o_callX (T_La_keyAt g) 4 3 18)]
set_option maxRecDepth 8000 in
theorem okb_law_1833 (g : GG) (l : Launch) (hst : l.stackTraces = false) (z : Scr) : BlkOkP (m_law g l) (PS z) 1833 (b_law_1833 g z) := 
  ⟨OpOk.p (ok_aload_n (by decide +kernel : decode code 1833 = .ok (.aload_n 1, 1)) rfl),
  ⟨OpOk.p (ok_aload_n (by decide +kernel : decode code 1834 = .ok (.aload_n 0, 1)) rfl),
  ⟨OpOk.p (ok_iload (by decide +kernel : decode code 1835 = .ok (.iload 5, 2))),
  ⟨OpOk.p (ok_iconst (by decide) (by decide +kernel : decode code 1837 = .ok (.iconst 1, 1))),
  ⟨OpOk.p (ok_iadd (by decide +kernel : decode code 1838 = .ok (.iadd, 1))),
  ⟨ok_sld (by decide +kernel : decode code 1839 = .ok (.iaload, 1)),
  ⟨OpOk.p (ok_aload_n (by decide +kernel : decode code 1840 = .ok (.aload_n 0, 1)) rfl),
  ⟨OpOk.p (ok_iload (by decide +kernel : decode code 1841 = .ok (.iload 5, 2))),
  ⟨OpOk.p (ok_iconst (by decide) (by decide +kernel : decode code 1843 = .ok (.iconst 2, 1))),
  ⟨OpOk.p (ok_iadd (by decide +kernel : decode code 1844 = .ok (.iadd, 1))),
  ⟨ok_sld (by decide +kernel : decode code 1845 = .ok (.iaload, 1)),
  ⟨OpOk.p (ok_aload_n (by decide +kernel : decode code 1846 = .ok (.aload_n 3, 1)) rfl),
  ⟨OpOk.p (ok_callSH (k := 4) (s_La_keyAt g l hst) (show 12 < 100 from by decide) (Nat.le_of_ble_eq_true rfl) rfl tw_1130 tw_1131 tw_0 tw_1132 ⟨by decide, by decide, by decide⟩ (by decide +kernel : decode code 1847 = .ok (.invokestatic 230, 3))), trivial⟩⟩⟩⟩⟩⟩⟩⟩⟩⟩⟩⟩⟩
def b_law_1850 (g : GG) (z : Scr) : Blk := [(2, o_istore 6), (1, o_aload 2), (1, o_aload 0), (2, o_iload 5), (1, o_push (.int 1)), (1, o_iadd), (1, o_sld z), (1, o_aload 0), (2, o_iload 5), (1, o_push (.int 2)), (1, o_iadd), (1, o_sld z), (3, o_callR (o_call0 T_Mo_keyAt 3) 10 3)]
set_option maxRecDepth 8000 in
theorem okb_law_1850 (g : GG) (l : Launch) (hst : l.stackTraces = false) (z : Scr) : BlkOkP (m_law g l) (PS z) 1850 (b_law_1850 g z) := 
  ⟨OpOk.p (ok_istore (Nat.le_of_ble_eq_true rfl) (by decide +kernel : decode code 1850 = .ok (.istore 6, 2))),
  ⟨OpOk.p (ok_aload_n (by decide +kernel : decode code 1852 = .ok (.aload_n 2, 1)) rfl),
  ⟨OpOk.p (ok_aload_n (by decide +kernel : decode code 1853 = .ok (.aload_n 0, 1)) rfl),
  ⟨OpOk.p (ok_iload (by decide +kernel : decode code 1854 = .ok (.iload 5, 2))),
  ⟨OpOk.p (ok_iconst (by decide) (by decide +kernel : decode code 1856 = .ok (.iconst 1, 1))),
  ⟨OpOk.p (ok_iadd (by decide +kernel : decode code 1857 = .ok (.iadd, 1))),
  ⟨ok_sld (by decide +kernel : decode code 1858 = .ok (.iaload, 1)),
  ⟨OpOk.p (ok_aload_n (by decide +kernel : decode code 1859 = .ok (.aload_n 0, 1)) rfl),
  ⟨OpOk.p (ok_iload (by decide +kernel : decode code 1860 = .ok (.iload 5, 2))),
  ⟨OpOk.p (ok_iconst (by decide) (by decide +kernel : decode code 1862 = .ok (.iconst 2, 1))),
  ⟨OpOk.p (ok_iadd (by decide +kernel : decode code 1863 = .ok (.iadd, 1))),
  ⟨ok_sld (by decide +kernel : decode code 1864 = .ok (.iaload, 1)),
  ⟨OpOk.p (OpOk.mono (M := m_law g l) (pc := 1865) (ok_callV (k := 2) cls_10 (s_Mo_keyAt g l hst) (show 8 < 100 from by decide) (Nat.le_of_ble_eq_true rfl) rfl rfl tw_1708 tw_1709 tw_1710 tw_9 tw_1711 ⟨by decide, by decide, by decide⟩ (by decide +kernel : decode code 1865 = .ok (.invokevirtual 232, 3))) callR0_of), trivial⟩⟩⟩⟩⟩⟩⟩⟩⟩⟩⟩⟩⟩
def b_law_1868 (g : GG) (z : Scr) : Blk := [(2, o_istore 7), (1, o_aload 2), (3, o_callR (o_call0 T_Mo_thrown 1) 10 1)]
set_option maxRecDepth 8000 in
theorem okb_law_1868 (g : GG) (l : Launch) (hst : l.stackTraces = false) (z : Scr) : BlkOkP (m_law g l) (PS z) 1868 (b_law_1868 g z) := 
  ⟨OpOk.p (ok_istore (Nat.le_of_ble_eq_true rfl) (by decide +kernel : decode code 1868 = .ok (.istore 7, 2))),
  ⟨OpOk.p (ok_aload_n (by decide +kernel : decode code 1870 = .ok (.aload_n 2, 1)) rfl),
  ⟨OpOk.p (OpOk.mono (M := m_law g l) (pc := 1871) (ok_callV (k := 0) cls_10 (s_Mo_thrown g l hst) (show 1 < 100 from by decide) (Nat.le_of_ble_eq_true rfl) rfl rfl tw_1416 tw_1417 tw_1418 tw_9 tw_1419 ⟨by decide, by decide, by decide⟩ (by decide +kernel : decode code 1871 = .ok (.invokevirtual 139, 3))) callR0_of), trivial⟩⟩⟩
def b_law_1874 (g : GG) (z : Scr) : Blk := [(2, o_iload 6), (3, o_iceq 1881), (1, o_push (.int 0)), (1, o_zret)]
set_option maxRecDepth 8000 in
theorem okb_law_1874 (g : GG) (l : Launch) (hst : l.stackTraces = false) (z : Scr) : BlkOkP (m_law g l) (PS z) 1874 (b_law_1874 g z) := 
  ⟨OpOk.p (ok_iload (by decide +kernel : decode code 1874 = .ok (.iload 6, 2))),
  ⟨OpOk.p (ok_iceq (by decide) (by decide +kernel : decode code 1876 = .ok (.if_icmp .eq 5, 3))),
  ⟨OpOk.p (ok_iconst (by decide) (by decide +kernel : decode code 1879 = .ok (.iconst 0, 1))),
  ⟨OpOk.p (ok_zret rfl (by decide +kernel : decode code 1880 = .ok (.ireturn, 1))), trivial⟩⟩⟩⟩
def b_law_1881 (g : GG) (z : Scr) : Blk := [(2, o_iload 6), (3, o_ifne 1898), (1, o_aload 3), (1, o_push (.int 0)), (1, o_lald), (2, o_iload 7), (1, o_i2l), (1, o_lcmp), (3, o_ifeq 1898), (1, o_push (.int 0)), (1, o_zret)]
set_option maxRecDepth 8000 in
theorem okb_law_1881 (g : GG) (l : Launch) (hst : l.stackTraces = false) (z : Scr) : BlkOkP (m_law g l) (PS z) 1881 (b_law_1881 g z) := 
  ⟨OpOk.p (ok_iload (by decide +kernel : decode code 1881 = .ok (.iload 6, 2))),
  ⟨OpOk.p (ok_ifne (by decide) (by decide +kernel : decode code 1883 = .ok (.ifCond .ne 15, 3))),
  ⟨OpOk.p (ok_aload_n (by decide +kernel : decode code 1886 = .ok (.aload_n 3, 1)) rfl),
  ⟨OpOk.p (ok_iconst (by decide) (by decide +kernel : decode code 1887 = .ok (.iconst 0, 1))),
  ⟨OpOk.p (ok_lald (by decide +kernel : decode code 1888 = .ok (.laload, 1))),
  ⟨OpOk.p (ok_iload (by decide +kernel : decode code 1889 = .ok (.iload 7, 2))),
  ⟨OpOk.p (ok_i2l (by decide +kernel : decode code 1891 = .ok (.i2l, 1))),
  ⟨OpOk.p (ok_lcmp (by decide +kernel : decode code 1892 = .ok (.lcmp, 1))),
  ⟨OpOk.p (ok_ifeq (by decide) (by decide +kernel : decode code 1893 = .ok (.ifCond .eq 5, 3))),
  ⟨OpOk.p (ok_iconst (by decide) (by decide +kernel : decode code 1896 = .ok (.iconst 0, 1))),
  ⟨OpOk.p (ok_zret rfl (by decide +kernel : decode code 1897 = .ok (.ireturn, 1))), trivial⟩⟩⟩⟩⟩⟩⟩⟩⟩⟩⟩
def b_law_1898 (g : GG) (z : Scr) : Blk := [(3, o_goto 2528)]
set_option maxRecDepth 8000 in
theorem okb_law_1898 (g : GG) (l : Launch) (hst : l.stackTraces = false) (z : Scr) : BlkOkP (m_law g l) (PS z) 1898 (b_law_1898 g z) := 
  ⟨OpOk.p (ok_goto (by decide) (by decide +kernel : decode code 1898 = .ok (.goto 630, 3))), trivial⟩
def k_law_c27 (g : GG) (z : Scr) : List (Nat × Blk) := [(1833, b_law_1833 g z), (1850, b_law_1850 g z), (1868, b_law_1868 g z), (1874, b_law_1874 g z), (1881, b_law_1881 g z), (1898, b_law_1898 g z)]
theorem okl_law_c27 (g : GG) (l : Launch) (hst : l.stackTraces = false) (z : Scr) : ∀ b ∈ k_law_c27 g z, BlkOkP (m_law g l) (PS z) b.1 b.2 := List.forall_mem_cons.mpr ⟨okb_law_1833 g l hst z, List.forall_mem_cons.mpr ⟨okb_law_1850 g l hst z, List.forall_mem_cons.mpr ⟨okb_law_1868 g l hst z, List.forall_mem_cons.mpr ⟨okb_law_1874 g l hst z, List.forall_mem_cons.mpr ⟨okb_law_1881 g l hst z, List.forall_mem_cons.mpr ⟨okb_law_1898 g l hst z, fun _ h => by cases h⟩⟩⟩⟩⟩⟩
def b_law_1901 (g : GG) (z : Scr) : Blk := [(1, o_aload 1), (1, o_aload 0), (2, o_iload 5), (1, o_push (.int 1)), (1, o_iadd), (1, o_sld z), (1, o_aload 0), (2, o_iload 5), (1, o_push (.int 2)), (1, o_iadd), (1, o_sld z), (1, o_aload 0), (2, o_iload 5), (1, o_push (.int 3)), (1, o_iadd), (1, o_sld z), (1, o_aload 3), (3, o_callX (T_La_total g) 5 4 24)]
set_option maxRecDepth 8000 in
theorem okb_law_1901 (g : GG) (l : Launch) (hst : l.stackTraces = false) (z : Scr) : BlkOkP (m_law g l) (PS z) 1901 (b_law_1901 g z) := 
  ⟨OpOk.p (ok_aload_n (by decide +kernel : decode code 1901 = .ok (.aload_n 1, 1)) rfl),
  ⟨OpOk.p (ok_aload_n (by decide +kernel : decode code 1902 = .ok (.aload_n 0, 1)) rfl),
  ⟨OpOk.p (ok_iload (by decide +kernel : decode code 1903 = .ok (.iload 5, 2))),
  ⟨OpOk.p (ok_iconst (by decide) (by decide +kernel : decode code 1905 = .ok (.iconst 1, 1))),
  ⟨OpOk.p (ok_iadd (by decide +kernel : decode code 1906 = .ok (.iadd, 1))),
  ⟨ok_sld (by decide +kernel : decode code 1907 = .ok (.iaload, 1)),
  ⟨OpOk.p (ok_aload_n (by decide +kernel : decode code 1908 = .ok (.aload_n 0, 1)) rfl),
  ⟨OpOk.p (ok_iload (by decide +kernel : decode code 1909 = .ok (.iload 5, 2))),
  ⟨OpOk.p (ok_iconst (by decide) (by decide +kernel : decode code 1911 = .ok (.iconst 2, 1))),
  ⟨OpOk.p (ok_iadd (by decide +kernel : decode code 1912 = .ok (.iadd, 1))),
  ⟨ok_sld (by decide +kernel : decode code 1913 = .ok (.iaload, 1)),
  ⟨OpOk.p (ok_aload_n (by decide +kernel : decode code 1914 = .ok (.aload_n 0, 1)) rfl),
  ⟨OpOk.p (ok_iload (by decide +kernel : decode code 1915 = .ok (.iload 5, 2))),
  ⟨OpOk.p (ok_iconst (by decide) (by decide +kernel : decode code 1917 = .ok (.iconst 3, 1))),
  ⟨OpOk.p (ok_iadd (by decide +kernel : decode code 1918 = .ok (.iadd, 1))),
  ⟨ok_sld (by decide +kernel : decode code 1919 = .ok (.iaload, 1)),
  ⟨OpOk.p (ok_aload_n (by decide +kernel : decode code 1920 = .ok (.aload_n 3, 1)) rfl),
  ⟨OpOk.p (ok_callSH (k := 5) (s_La_total g l hst) (show 12 < 100 from by decide) (Nat.le_of_ble_eq_true rfl) rfl tw_1142 tw_1143 tw_0 tw_1144 ⟨by decide, by decide, by decide⟩ (by decide +kernel : decode code 1921 = .ok (.invokestatic 233, 3))), trivial⟩⟩⟩⟩⟩⟩⟩⟩⟩⟩⟩⟩⟩⟩⟩⟩⟩⟩
def b_law_1924 (g : GG) (z : Scr) : Blk := [(2, o_istore 6), (1, o_aload 2), (1, o_aload 0), (2, o_iload 5), (1, o_push (.int 1)), (1, o_iadd), (1, o_sld z), (1, o_aload 0), (2, o_iload 5), (1, o_push (.int 2)), (1, o_iadd), (1, o_sld z), (1, o_aload 0), (2, o_iload 5), (1, o_push (.int 3)), (1, o_iadd), (1, o_sld z), (3, o_callR (o_call0 T_Mo_total 4) 10 4)]
set_option maxRecDepth 8000 in
theorem okb_law_1924 (g : GG) (l : Launch) (hst : l.stackTraces = false) (z : Scr) : BlkOkP (m_law g l) (PS z) 1924 (b_law_1924 g z) := 
  ⟨OpOk.p (ok_istore (Nat.le_of_ble_eq_true rfl) (by decide +kernel : decode code 1924 = .ok (.istore 6, 2))),
  ⟨OpOk.p (ok_aload_n (by decide +kernel : decode code 1926 = .ok (.aload_n 2, 1)) rfl),
  ⟨OpOk.p (ok_aload_n (by decide +kernel : decode code 1927 = .ok (.aload_n 0, 1)) rfl),
  ⟨OpOk.p (ok_iload (by decide +kernel : decode code 1928 = .ok (.iload 5, 2))),
  ⟨OpOk.p (ok_iconst (by decide) (by decide +kernel : decode code 1930 = .ok (.iconst 1, 1))),
  ⟨OpOk.p (ok_iadd (by decide +kernel : decode code 1931 = .ok (.iadd, 1))),
  ⟨ok_sld (by decide +kernel : decode code 1932 = .ok (.iaload, 1)),
  ⟨OpOk.p (ok_aload_n (by decide +kernel : decode code 1933 = .ok (.aload_n 0, 1)) rfl),
  ⟨OpOk.p (ok_iload (by decide +kernel : decode code 1934 = .ok (.iload 5, 2))),
  ⟨OpOk.p (ok_iconst (by decide) (by decide +kernel : decode code 1936 = .ok (.iconst 2, 1))),
  ⟨OpOk.p (ok_iadd (by decide +kernel : decode code 1937 = .ok (.iadd, 1))),
  ⟨ok_sld (by decide +kernel : decode code 1938 = .ok (.iaload, 1)),
  ⟨OpOk.p (ok_aload_n (by decide +kernel : decode code 1939 = .ok (.aload_n 0, 1)) rfl),
  ⟨OpOk.p (ok_iload (by decide +kernel : decode code 1940 = .ok (.iload 5, 2))),
  ⟨OpOk.p (ok_iconst (by decide) (by decide +kernel : decode code 1942 = .ok (.iconst 3, 1))),
  ⟨OpOk.p (ok_iadd (by decide +kernel : decode code 1943 = .ok (.iadd, 1))),
  ⟨ok_sld (by decide +kernel : decode code 1944 = .ok (.iaload, 1)),
  ⟨OpOk.p (OpOk.mono (M := m_law g l) (pc := 1945) (ok_callV (k := 3) cls_10 (s_Mo_total g l hst) (show 8 < 100 from by decide) (Nat.le_of_ble_eq_true rfl) rfl rfl tw_1716 tw_1717 tw_1718 tw_9 tw_1719 ⟨by decide, by decide, by decide⟩ (by decide +kernel : decode code 1945 = .ok (.invokevirtual 235, 3))) callR0_of), trivial⟩⟩⟩⟩⟩⟩⟩⟩⟩⟩⟩⟩⟩⟩⟩⟩⟩⟩
def b_law_1948 (g : GG) (z : Scr) : Blk := [(2, o_istore 7), (1, o_aload 2), (3, o_callR (o_call0 T_Mo_thrown 1) 10 1)]
set_option maxRecDepth 8000 in
theorem okb_law_1948 (g : GG) (l : Launch) (hst : l.stackTraces = false) (z : Scr) : BlkOkP (m_law g l) (PS z) 1948 (b_law_1948 g z) := 
  ⟨OpOk.p (ok_istore (Nat.le_of_ble_eq_true rfl) (by decide +kernel : decode code 1948 = .ok (.istore 7, 2))),
  ⟨OpOk.p (ok_aload_n (by decide +kernel : decode code 1950 = .ok (.aload_n 2, 1)) rfl),
  ⟨OpOk.p (OpOk.mono (M := m_law g l) (pc := 1951) (ok_callV (k := 0) cls_10 (s_Mo_thrown g l hst) (show 1 < 100 from by decide) (Nat.le_of_ble_eq_true rfl) rfl rfl tw_1416 tw_1417 tw_1418 tw_9 tw_1419 ⟨by decide, by decide, by decide⟩ (by decide +kernel : decode code 1951 = .ok (.invokevirtual 139, 3))) callR0_of), trivial⟩⟩⟩
def b_law_1954 (g : GG) (z : Scr) : Blk := [(2, o_iload 6), (3, o_iceq 1961), (1, o_push (.int 0)), (1, o_zret)]
set_option maxRecDepth 8000 in
theorem okb_law_1954 (g : GG) (l : Launch) (hst : l.stackTraces = false) (z : Scr) : BlkOkP (m_law g l) (PS z) 1954 (b_law_1954 g z) := 
  ⟨OpOk.p (ok_iload (by decide +kernel : decode code 1954 = .ok (.iload 6, 2))),
  ⟨OpOk.p (ok_iceq (by decide) (by decide +kernel : decode code 1956 = .ok (.if_icmp .eq 5, 3))),
  ⟨OpOk.p (ok_iconst (by decide) (by decide +kernel : decode code 1959 = .ok (.iconst 0, 1))),
  ⟨OpOk.p (ok_zret rfl (by decide +kernel : decode code 1960 = .ok (.ireturn, 1))), trivial⟩⟩⟩⟩
def b_law_1961 (g : GG) (z : Scr) : Blk := [(2, o_iload 6), (3, o_ifne 1978), (1, o_aload 3), (1, o_push (.int 0)), (1, o_lald), (2, o_iload 7), (1, o_i2l), (1, o_lcmp), (3, o_ifeq 1978), (1, o_push (.int 0)), (1, o_zret)]
set_option maxRecDepth 8000 in
theorem okb_law_1961 (g : GG) (l : Launch) (hst : l.stackTraces = false) (z : Scr) : BlkOkP (m_law g l) (PS z) 1961 (b_law_1961 g z) := 
  ⟨OpOk.p (ok_iload (by decide +kernel : decode code 1961 = .ok (.iload 6, 2))),
  ⟨OpOk.p (ok_ifne (by decide) (by decide +kernel : decode code 1963 = .ok (.ifCond .ne 15, 3))),
  ⟨OpOk.p (ok_aload_n (by decide +kernel : decode code 1966 = .ok (.aload_n 3, 1)) rfl),
  ⟨OpOk.p (ok_iconst (by decide) (by decide +kernel : decode code 1967 = .ok (.iconst 0, 1))),
  ⟨OpOk.p (ok_lald (by decide +kernel : decode code 1968 = .ok (.laload, 1))),
  ⟨OpOk.p (ok_iload (by decide +kernel : decode code 1969 = .ok (.iload 7, 2))),
  ⟨OpOk.p (ok_i2l (by decide +kernel : decode code 1971 = .ok (.i2l, 1))),
  ⟨OpOk.p (ok_lcmp (by decide +kernel : decode code 1972 = .ok (.lcmp, 1))),
  ⟨OpOk.p (ok_ifeq (by decide) (by decide +kernel : decode code 1973 = .ok (.ifCond .eq 5, 3))),
  ⟨OpOk.p (ok_iconst (by decide) (by decide +kernel : decode code 1976 = .ok (.iconst 0, 1))),
  ⟨OpOk.p (ok_zret rfl (by decide +kernel : decode code 1977 = .ok (.ireturn, 1))), trivial⟩⟩⟩⟩⟩⟩⟩⟩⟩⟩⟩
def b_law_1978 (g : GG) (z : Scr) : Blk := [(3, o_goto 2528)]
set_option maxRecDepth 8000 in
theorem okb_law_1978 (g : GG) (l : Launch) (hst : l.stackTraces = false) (z : Scr) : BlkOkP (m_law g l) (PS z) 1978 (b_law_1978 g z) := 
  ⟨OpOk.p (ok_goto (by decide) (by decide +kernel : decode code 1978 = .ok (.goto 550, 3))), trivial⟩
def k_law_c28 (g : GG) (z : Scr) : List (Nat × Blk) := [(1901, b_law_1901 g z), (1924, b_law_1924 g z), (1948, b_law_1948 g z), (1954, b_law_1954 g z), (1961, b_law_1961 g z), (1978, b_law_1978 g z)]
theorem okl_law_c28 (g : GG) (l : Launch) (hst : l.stackTraces = false) (z : Scr) : ∀ b ∈ k_law_c28 g z, BlkOkP (m_law g l) (PS z) b.1 b.2 := List.forall_mem_cons.mpr ⟨okb_law_1901 g l hst z, List.forall_mem_cons.mpr ⟨okb_law_1924 g l hst z, List.forall_mem_cons.mpr ⟨okb_law_1948 g l hst z, List.forall_mem_cons.mpr ⟨okb_law_1954 g l hst z, List.forall_mem_cons.mpr ⟨okb_law_1961 g l hst z, List.forall_mem_cons.mpr ⟨okb_law_1978 g l hst z, fun _ h => by cases h⟩⟩⟩⟩⟩⟩

