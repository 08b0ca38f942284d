-- deps: cc.lawc cd.lawd ce.lawe cf.lawf
/-! ===== the law's loop ===== -/
def RunOk (B : Bx) (Q : Option Value → AH → Prop) (X : String → AH → Prop) (L : List (Nat × Blk)) : Prop := ∀ pc b, blkAt L pc = some b → ∀ lv st f bc bs, wpL b pc lv st f bc bs B Q X → B pc lv st f bc bs
def law_ts : List Nat := [208, 300, 387, 462, 518, 586, 599, 612, 680, 748, 804, 872, 940, 1015, 1071, 1153, 1235, 1303, 1395, 1451, 1519, 1582, 1595, 1609, 1665, 1721, 1777, 1833, 1901, 1981, 2077, 2140, 2220, 2288, 2384, 2449, 2515]
set_option maxRecDepth 4000 in
set_option maxHeartbeats 4000000 in
theorem law_sw {g : GG} {l : Launch} (hst : l.stackTraces = false) {z : Scr} {x m ao aod n : Nat} {i : Int32} {q6 q7 q8 : Option Value} {f : AH} {b0 s0 : Nat} {B : Bx} {Q : Option Value → AH → Prop} {X : String → AH → Prop} (runs : ∀ L, (∀ b ∈ L, BlkOkP (m_law g l) (PS z) b.1 b.2) → RunOk B Q X L) (hend : ∀ (q6 q7 q8 : Option Value) (f' : AH) (b1 s1 : Nat), LQ g x m ao aod (n + 1) f' → B 2528 [some (.ref z.1), some (.ref x), some (.ref m), some (.ref ao), some (.ref aod), some (.int (i)), q6, q7, q8] [] f' (b0 + b1) (s0 + s1)) (H : LQ g x m ao aod n f) (hn : n < 1000) (i1 : inS z (i + 1)) (i2 : inS z (i + 2)) (i3 : inS z (i + 3)) (i4 : inS z (i + 4)) : ∀ j : Nat, B ([208, 300, 387, 462, 518, 586, 599, 612, 680, 748, 804, 872, 940, 1015, 1071, 1153, 1235, 1303, 1395, 1451, 1519, 1582, 1595, 1609, 1665, 1721, 1777, 1833, 1901, 1981, 2077, 2140, 2220, 2288, 2384, 2449, 2515].getD j 2528) [some (.ref z.1), some (.ref x), some (.ref m), some (.ref ao), some (.ref aod), some (.int (i)), q6, q7, q8] [] f (b0 + 280) (s0 + 5920)
  | 0 => C_law_0 (bc := b0 + 0) (bs := s0 + 0) (runs _ (okl_law_c0 g l hst z)) (fun q6 q7 q8 f' h => hend q6 q7 q8 f' 0 0 h) H hn i1 i2 i3 i4
  | 1 => C_law_1 (bc := b0 + 278) (bs := s0 + 5908) (runs _ (okl_law_c1 g l hst z)) (fun q6 q7 q8 f' h => hend q6 q7 q8 f' 278 5908 h) H hn i1 i2 i3 i4
  | 2 => C_law_2 (bc := b0 + 278) (bs := s0 + 5908) (runs _ (okl_law_c2 g l hst z)) (fun q6 q7 q8 f' h => hend q6 q7 q8 f' 278 5908 h) H hn i1 i2 i3 i4
  | 3 => C_law_3 (bc := b0 + 278) (bs := s0 + 5908) (runs _ (okl_law_c3 g l hst z)) (fun q6 q7 q8 f' h => hend q6 q7 q8 f' 278 5908 h) H hn i1 i2 i3 i4
  | 4 => C_law_4 (bc := b0 + 279) (bs := s0 + 5914) (runs _ (okl_law_c4 g l hst z)) (fun q6 q7 q8 f' h => hend q6 q7 q8 f' 279 5914 h) H hn i1 i2 i3 i4
  | 5 => C_law_5 (bc := b0 + 280) (bs := s0 + 5920) (runs _ (okl_law_c5 g l hst z)) (fun q6 q7 q8 f' h => hend q6 q7 q8 f' 280 5920 h) H hn i1 i2 i3 i4
  | 6 => C_law_6 (bc := b0 + 280) (bs := s0 + 5920) (runs _ (okl_law_c6 g l hst z)) (fun q6 q7 q8 f' h => hend q6 q7 q8 f' 280 5920 h) H hn i1 i2 i3 i4
  | 7 => C_law_7 (bc := b0 + 279) (bs := s0 + 5914) (runs _ (okl_law_c7 g l hst z)) (fun q6 q7 q8 f' h => hend q6 q7 q8 f' 279 5914 h) H hn i1 i2 i3 i4
  | 8 => C_law_8 (bc := b0 + 279) (bs := s0 + 5914) (runs _ (okl_law_c8 g l hst z)) (fun q6 q7 q8 f' h => hend q6 q7 q8 f' 279 5914 h) H hn i1 i2 i3 i4
  | 9 => C_law_9 (bc := b0 + 279) (bs := s0 + 5914) (runs _ (okl_law_c9 g l hst z)) (fun q6 q7 q8 f' h => hend q6 q7 q8 f' 279 5914 h) H hn i1 i2 i3 i4
  | 10 => C_law_10 (bc := b0 + 278) (bs := s0 + 5908) (runs _ (okl_law_c10 g l hst z)) (fun q6 q7 q8 f' h => hend q6 q7 q8 f' 278 5908 h) H hn i1 i2 i3 i4
  | 11 => C_law_11 (bc := b0 + 278) (bs := s0 + 5908) (runs _ (okl_law_c11 g l hst z)) (fun q6 q7 q8 f' h => hend q6 q7 q8 f' 278 5908 h) H hn i1 i2 i3 i4
  | 12 => C_law_12 (bc := b0 + 279) (bs := s0 + 5914) (runs _ (okl_law_c12 g l hst z)) (fun q6 q7 q8 f' h => hend q6 q7 q8 f' 279 5914 h) H hn i1 i2 i3 i4
  | 13 => C_law_13 (bc := b0 + 278) (bs := s0 + 5908) (runs _ (okl_law_c13 g l hst z)) (fun q6 q7 q8 f' h => hend q6 q7 q8 f' 278 5908 h) H hn i1 i2 i3 i4
  | 14 => C_law_14 (bc := b0 + 278) (bs := s0 + 5848) (runs _ (okl_law_c14 g l hst z)) (fun q6 q7 q8 f' h => hend q6 q7 q8 f' 278 5848 h) H hn i1 i2 i3 i4
  | 15 => C_law_15 (bc := b0 + 278) (bs := s0 + 5848) (runs _ (okl_law_c15 g l hst z)) (fun q6 q7 q8 f' h => hend q6 q7 q8 f' 278 5848 h) H hn i1 i2 i3 i4
  | 16 => C_law_16 (bc := b0 + 278) (bs := s0 + 5908) (runs _ (okl_law_c16 g l hst z)) (fun q6 q7 q8 f' h => hend q6 q7 q8 f' 278 5908 h) H hn i1 i2 i3 i4
  | 17 => C_law_17 (bc := b0 + 269) (bs := s0 + 4060) (runs _ (okl_law_c17 g l hst z)) (fun q6 q7 q8 f' h => hend q6 q7 q8 f' 269 4060 h) H hn i1 i2 i3 i4
  | 18 => C_law_18 (bc := b0 + 279) (bs := s0 + 5914) (runs _ (okl_law_c18 g l hst z)) (fun q6 q7 q8 f' h => hend q6 q7 q8 f' 279 5914 h) H hn i1 i2 i3 i4
  | 19 => C_law_19 (bc := b0 + 278) (bs := s0 + 5908) (runs _ (okl_law_c19 g l hst z)) (fun q6 q7 q8 f' h => hend q6 q7 q8 f' 278 5908 h) H hn i1 i2 i3 i4
  | 20 => C_law_20 (bc := b0 + 279) (bs := s0 + 5914) (runs _ (okl_law_c20 g l hst z)) (fun q6 q7 q8 f' h => hend q6 q7 q8 f' 279 5914 h) H hn i1 i2 i3 i4
  | 21 => C_law_21 (bc := b0 + 280) (bs := s0 + 5920) (runs _ (okl_law_c21 g l hst z)) (fun q6 q7 q8 f' h => hend q6 q7 q8 f' 280 5920 h) H hn i1 i2 i3 i4
  | 22 => C_law_22 (bc := b0 + 280) (bs := s0 + 5920) (runs _ (okl_law_c22 g l hst z)) (fun q6 q7 q8 f' h => hend q6 q7 q8 f' 280 5920 h) H hn i1 i2 i3 i4
  | 23 => C_law_23 (bc := b0 + 279) (bs := s0 + 5914) (runs _ (okl_law_c23 g l hst z)) (fun q6 q7 q8 f' h => hend q6 q7 q8 f' 279 5914 h) H hn i1 i2 i3 i4
  | 24 => C_law_24 (bc := b0 + 279) (bs := s0 + 5914) (runs _ (okl_law_c24 g l hst z)) (fun q6 q7 q8 f' h => hend q6 q7 q8 f' 279 5914 h) H hn i1 i2 i3 i4
  | 25 => C_law_25 (bc := b0 + 279) (bs := s0 + 5914) (runs _ (okl_law_c25 g l hst z)) (fun q6 q7 q8 f' h => hend q6 q7 q8 f' 279 5914 h) H hn i1 i2 i3 i4
  | 26 => C_law_26 (bc := b0 + 278) (bs := s0 + 5908) (runs _ (okl_law_c26 g l hst z)) (fun q6 q7 q8 f' h => hend q6 q7 q8 f' 278 5908 h) H hn i1 i2 i3 i4
  | 27 => C_law_27 (bc := b0 + 277) (bs := s0 + 5902) (runs _ (okl_law_c27 g l hst z)) (fun q6 q7 q8 f' h => hend q6 q7 q8 f' 277 5902 h) H hn i1 i2 i3 i4
  | 28 => C_law_28 (bc := b0 + 276) (bs := s0 + 5896) (runs _ (okl_law_c28 g l hst z)) (fun q6 q7 q8 f' h => hend q6 q7 q8 f' 276 5896 h) H hn i1 i2 i3 i4
  | 29 => C_law_29 (bc := b0 + 276) (bs := s0 + 5896) (runs _ (okl_law_c29 g l hst z)) (fun q6 q7 q8 f' h => hend q6 q7 q8 f' 276 5896 h) H hn i1 i2 i3 i4
  | 30 => C_law_30 (bc := b0 + 279) (bs := s0 + 5914) (runs _ (okl_law_c30 g l hst z)) (fun q6 q7 q8 f' h => hend q6 q7 q8 f' 279 5914 h) H hn i1 i2 i3 i4
  | 31 => C_law_31 (bc := b0 + 279) (bs := s0 + 5914) (runs _ (okl_law_c31 g l hst z)) (fun q6 q7 q8 f' h => hend q6 q7 q8 f' 279 5914 h) H hn i1 i2 i3 i4
  | 32 => C_law_32 (bc := b0 + 278) (bs := s0 + 5908) (runs _ (okl_law_c32 g l hst z)) (fun q6 q7 q8 f' h => hend q6 q7 q8 f' 278 5908 h) H hn i1 i2 i3 i4
  | 33 => C_law_33 (bc := b0 + 278) (bs := s0 + 5908) (runs _ (okl_law_c33 g l hst z)) (fun q6 q7 q8 f' h => hend q6 q7 q8 f' 278 5908 h) H hn i1 i2 i3 i4
  | 34 => C_law_34 (bc := b0 + 279) (bs := s0 + 5914) (runs _ (okl_law_c34 g l hst z)) (fun q6 q7 q8 f' h => hend q6 q7 q8 f' 279 5914 h) H hn i1 i2 i3 i4
  | 35 => C_law_35 (bc := b0 + 279) (bs := s0 + 5914) (runs _ (okl_law_c35 g l hst z)) (fun q6 q7 q8 f' h => hend q6 q7 q8 f' 279 5914 h) H hn i1 i2 i3 i4
  | 36 => C_law_36 (bc := b0 + 280) (bs := s0 + 5920) (runs _ (okl_law_c36 g l hst z)) (fun q6 q7 q8 f' h => hend q6 q7 q8 f' 280 5920 h) H hn i1 i2 i3 i4
  | j + 37 => hend q6 q7 q8 f 280 5920 (H.up (by omega))
theorem and63 (v : Int32) : ∃ j : Nat, j < 64 ∧ v &&& 63 = nI j := by
  refine ⟨(v &&& 63).toUInt32.toNat, ?_, ?_⟩
  · have : (v &&& 63).toUInt32 = v.toUInt32 &&& 63 := rfl
    rw [this, UInt32.toNat_and]
    exact Nat.lt_of_le_of_lt Nat.and_le_right (by decide)
  · show _ = (UInt32.ofNat _).toInt32
    rw [UInt32.ofNat_toNat]
    rfl
theorem sub5 {L : Nat} (h : L < 2147483648) : (nI L - 5).toInt = (L : Int) - 5 := by
  rw [Int32.toInt_sub, nI_ti h, show (5 : Int32).toInt = 5 from rfl]
  exact Int.bmod_eq_of_le (by omega) (by omega)
theorem inS_p {z : Scr} {p k : Nat} (h : p + k < z.2.1) (hz : z.2.1 < 2147483648) : inS z (nI p + nI k) := by
  rw [nI_add]
  exact vin_nI h (by omega)
set_option maxRecDepth 4000 in
set_option maxHeartbeats 1000000 in
theorem law_loop {g : GG} {l : Launch} (hst : l.stackTraces = false) {z : Scr} (hz : z.2.1 ≤ 2560) {x m ao aod : Nat} {B : Bx} {Q : Option Value → AH → Prop} {X : String → AH → Prop} (hQ : ∀ f, Q (some (.int 1)) f) (runs : ∀ L, (∀ b ∈ L, BlkOkP (m_law g l) (PS z) b.1 b.2) → RunOk B Q X L) : ∀ (r n b0 s0 : Nat) (q6 q7 q8 : Option Value) (f : AH), n + r = 512 → LQ g x m ao aod n f → B 28 [some (.ref z.1), some (.ref x), some (.ref m), some (.ref ao), some (.ref aod), some (.int (nI (5 * n))), q6, q7, q8] [] f (b0 + 280 * r) (s0 + 5920 * r) := by
  have runh := runs _ (okl_law_hd g l hst z)
  intro r
  induction r with
  | zero =>
    intro n b0 s0 q6 q7 q8 f hr H
    refine runh 28 _ rfl _ _ _ _ _ ?_
    have hc : nI z.2.1 - 5 < nI (5 * n) := by
      rw [i32_lt, sub5 (by omega), nI_ti (by omega)]
      omega
    simp -dsimp (disch := omega) only [hc, ↓b_law_28, ↓e_sld, ↓e_sln, eq_self, nI_dec, ixE, nI_4m, nI_16m, nI_10m, nI_2m, nI_add, nI_1, nI_p2, nI_p3, nI_pred, c3_n, c3_s, c3_i, upd_s, upd_n, rowU_n, rowU_ge, true_imp_iff, false_imp_iff, not_true_eq_false, not_false_eq_true, b2i_t, b2i_f, i32_10, i32_00, i32_11, ite_true_I, false_and, and_false, true_and, and_true, or_true, true_or, false_or, or_false, ↓wpL_n, ↓wpL_c, ↓e_iadd, ↓e_isub, ↓e_imul, ↓e_iand, ↓e_ior, ↓e_ixor, ↓e_ishl, ↓e_ishr, ↓e_iushr, ↓e_idiv, ↓e_irem, ↓e_ineg, ↓e_ladd, ↓e_lcmp, ↓e_i2l, ↓e_i2c, ↓e_i2d, ↓e_i2f, ↓e_l2f, ↓e_f2d, ↓e_fdiv, ↓e_ddiv, ↓e_dcmp_l, ↓e_fcmp_l, ↓e_dcmp_g, ↓e_fcmp_g, ↓e_push, ↓e_iload, ↓e_fload, ↓e_dload, ↓e_aload, ↓e_istore, ↓e_fstore, ↓e_astore, ↓e_iinc, ↓e_ifeq, ↓e_iceq, ↓e_ifne, ↓e_icne, ↓e_iflt, ↓e_iclt, ↓e_ifge, ↓e_icge, ↓e_ifgt, ↓e_icgt, ↓e_ifle, ↓e_icle, ↓e_goto, ↓e_dup, ↓e_pop, ↓e_dup_x1, ↓e_dup2, ↓e_getf, ↓e_putI, ↓e_putJ, ↓e_putC, ↓e_putR, ↓e_iald, ↓e_zald, ↓e_cald, ↓e_lald, ↓e_dald, ↓e_iast, ↓e_zast, ↓e_cast, ↓e_last, ↓e_dast, ↓e_aald, ↓e_alen, ↓e_throw, ↓e_iret, ↓e_zret, ↓e_cret, ↓e_aret, ↓e_lret, ↓e_fret, ↓e_dret, ↓e_vret, ↓e_new, ↓e_newarr, ↓e_pop1, ↓e_scald, ↓e_salen, ↓e_call, ↓e_callV, ↓e_callI, ↓e_call0, ↓e_callR, PI_e, PFl_e, PD_e, PR_e, PO_e, PHd_e, PA_e, PA_n, IX_e, IX_0, reduceIte, lget, lset, lclr, fget, ctake, cdrop, c1, Nat.reduceAdd, List.reverse_cons, List.reverse_nil, List.nil_append, List.cons_append, Option.toList_some, Option.toList_none, List.length_cons, List.length_nil, true_and, and_true, true_or, or_true, Nat.reduceLeDiff, Nat.reduceLT, Nat.zero_le, List.append_nil]
    refine runh 2534 _ rfl _ _ _ _ _ ?_
    simp -dsimp (disch := omega) only [↓b_law_2534, ↓e_sld, ↓e_sln, eq_self, nI_dec, ixE, nI_4m, nI_16m, nI_10m, nI_2m, nI_add, nI_1, nI_p2, nI_p3, nI_pred, c3_n, c3_s, c3_i, upd_s, upd_n, rowU_n, rowU_ge, true_imp_iff, false_imp_iff, not_true_eq_false, not_false_eq_true, b2i_t, b2i_f, i32_10, i32_00, i32_11, ite_true_I, false_and, and_false, true_and, and_true, or_true, true_or, false_or, or_false, ↓wpL_n, ↓wpL_c, ↓e_iadd, ↓e_isub, ↓e_imul, ↓e_iand, ↓e_ior, ↓e_ixor, ↓e_ishl, ↓e_ishr, ↓e_iushr, ↓e_idiv, ↓e_irem, ↓e_ineg, ↓e_ladd, ↓e_lcmp, ↓e_i2l, ↓e_i2c, ↓e_i2d, ↓e_i2f, ↓e_l2f, ↓e_f2d, ↓e_fdiv, ↓e_ddiv, ↓e_dcmp_l, ↓e_fcmp_l, ↓e_dcmp_g, ↓e_fcmp_g, ↓e_push, ↓e_iload, ↓e_fload, ↓e_dload, ↓e_aload, ↓e_istore, ↓e_fstore, ↓e_astore, ↓e_iinc, ↓e_ifeq, ↓e_iceq, ↓e_ifne, ↓e_icne, ↓e_iflt, ↓e_iclt, ↓e_ifge, ↓e_icge, ↓e_ifgt, ↓e_icgt, ↓e_ifle, ↓e_icle, ↓e_goto, ↓e_dup, ↓e_pop, ↓e_dup_x1, ↓e_dup2, ↓e_getf, ↓e_putI, ↓e_putJ, ↓e_putC, ↓e_putR, ↓e_iald, ↓e_zald, ↓e_cald, ↓e_lald, ↓e_dald, ↓e_iast, ↓e_zast, ↓e_cast, ↓e_last, ↓e_dast, ↓e_aald, ↓e_alen, ↓e_throw, ↓e_iret, ↓e_zret, ↓e_cret, ↓e_aret, ↓e_lret, ↓e_fret, ↓e_dret, ↓e_vret, ↓e_new, ↓e_newarr, ↓e_pop1, ↓e_scald, ↓e_salen, ↓e_call, ↓e_callV, ↓e_callI, ↓e_call0, ↓e_callR, PI_e, PFl_e, PD_e, PR_e, PO_e, PHd_e, PA_e, PA_n, IX_e, IX_0, reduceIte, lget, lset, lclr, fget, ctake, cdrop, c1, Nat.reduceAdd, List.reverse_cons, List.reverse_nil, List.nil_append, List.cons_append, Option.toList_some, Option.toList_none, List.length_cons, List.length_nil, true_and, and_true, true_or, or_true, Nat.reduceLeDiff, Nat.reduceLT, Nat.zero_le, List.append_nil]
    exact hQ _
  | succ r ih =>
    intro n b0 s0 q6 q7 q8 f hr H
    by_cases hL : 5 * n + 5 ≤ z.2.1
    · have hc : ¬ nI z.2.1 - 5 < nI (5 * n) := by
        rw [i32_lt, sub5 (by omega), nI_ti (by omega)]
        omega
      refine runh 28 _ rfl _ _ _ _ _ ?_
      have i0 : inS z (nI (5 * n)) := vin_nI (by omega) (by omega)
      simp -dsimp (disch := omega) only [hc, i0, ↓b_law_28, ↓e_sld, ↓e_sln, eq_self, nI_dec, ixE, nI_4m, nI_16m, nI_10m, nI_2m, nI_add, nI_1, nI_p2, nI_p3, nI_pred, c3_n, c3_s, c3_i, upd_s, upd_n, rowU_n, rowU_ge, true_imp_iff, false_imp_iff, not_true_eq_false, not_false_eq_true, b2i_t, b2i_f, i32_10, i32_00, i32_11, ite_true_I, false_and, and_false, true_and, and_true, or_true, true_or, false_or, or_false, ↓wpL_n, ↓wpL_c, ↓e_iadd, ↓e_isub, ↓e_imul, ↓e_iand, ↓e_ior, ↓e_ixor, ↓e_ishl, ↓e_ishr, ↓e_iushr, ↓e_idiv, ↓e_irem, ↓e_ineg, ↓e_ladd, ↓e_lcmp, ↓e_i2l, ↓e_i2c, ↓e_i2d, ↓e_i2f, ↓e_l2f, ↓e_f2d, ↓e_fdiv, ↓e_ddiv, ↓e_dcmp_l, ↓e_fcmp_l, ↓e_dcmp_g, ↓e_fcmp_g, ↓e_push, ↓e_iload, ↓e_fload, ↓e_dload, ↓e_aload, ↓e_istore, ↓e_fstore, ↓e_astore, ↓e_iinc, ↓e_ifeq, ↓e_iceq, ↓e_ifne, ↓e_icne, ↓e_iflt, ↓e_iclt, ↓e_ifge, ↓e_icge, ↓e_ifgt, ↓e_icgt, ↓e_ifle, ↓e_icle, ↓e_goto, ↓e_dup, ↓e_pop, ↓e_dup_x1, ↓e_dup2, ↓e_getf, ↓e_putI, ↓e_putJ, ↓e_putC, ↓e_putR, ↓e_iald, ↓e_zald, ↓e_cald, ↓e_lald, ↓e_dald, ↓e_iast, ↓e_zast, ↓e_cast, ↓e_last, ↓e_dast, ↓e_aald, ↓e_alen, ↓e_throw, ↓e_iret, ↓e_zret, ↓e_cret, ↓e_aret, ↓e_lret, ↓e_fret, ↓e_dret, ↓e_vret, ↓e_new, ↓e_newarr, ↓e_pop1, ↓e_scald, ↓e_salen, ↓e_call, ↓e_callV, ↓e_callI, ↓e_call0, ↓e_callR, PI_e, PFl_e, PD_e, PR_e, PO_e, PHd_e, PA_e, PA_n, IX_e, IX_0, reduceIte, lget, lset, lclr, fget, ctake, cdrop, c1, Nat.reduceAdd, List.reverse_cons, List.reverse_nil, List.nil_append, List.cons_append, Option.toList_some, Option.toList_none, List.length_cons, List.length_nil, true_and, and_true, true_or, or_true, Nat.reduceLeDiff, Nat.reduceLT, Nat.zero_le, List.append_nil]
      obtain ⟨j, hj, ej⟩ := and63 (sc z (nI (5 * n)))
      rw [ej]
      refine ⟨j, rfl, by omega, ?_⟩
      rw [if_pos (Nat.zero_le _), Nat.sub_zero, show b0 + 280 * (r + 1) = (b0 + 280 * r) + 280 by omega, show s0 + 5920 * (r + 1) = (s0 + 5920 * r) + 5920 by omega]
      refine law_sw hst runs (fun q6 q7 q8 f' b1 s1 h => ?_) H (by omega) (inS_p (k := 1) (by omega) (by omega)) (inS_p (k := 2) (by omega) (by omega)) (inS_p (k := 3) (by omega) (by omega)) (inS_p (k := 4) (by omega) (by omega)) j
      refine runh 2528 _ rfl _ _ _ _ _ ?_
      simp -dsimp (disch := omega) only [↓b_law_2528, ↓e_sld, ↓e_sln, eq_self, nI_dec, ixE, nI_4m, nI_16m, nI_10m, nI_2m, nI_add, nI_1, nI_p2, nI_p3, nI_pred, c3_n, c3_s, c3_i, upd_s, upd_n, rowU_n, rowU_ge, true_imp_iff, false_imp_iff, not_true_eq_false, not_false_eq_true, b2i_t, b2i_f, i32_10, i32_00, i32_11, ite_true_I, false_and, and_false, true_and, and_true, or_true, true_or, false_or, or_false, ↓wpL_n, ↓wpL_c, ↓e_iadd, ↓e_isub, ↓e_imul, ↓e_iand, ↓e_ior, ↓e_ixor, ↓e_ishl, ↓e_ishr, ↓e_iushr, ↓e_idiv, ↓e_irem, ↓e_ineg, ↓e_ladd, ↓e_lcmp, ↓e_i2l, ↓e_i2c, ↓e_i2d, ↓e_i2f, ↓e_l2f, ↓e_f2d, ↓e_fdiv, ↓e_ddiv, ↓e_dcmp_l, ↓e_fcmp_l, ↓e_dcmp_g, ↓e_fcmp_g, ↓e_push, ↓e_iload, ↓e_fload, ↓e_dload, ↓e_aload, ↓e_istore, ↓e_fstore, ↓e_astore, ↓e_iinc, ↓e_ifeq, ↓e_iceq, ↓e_ifne, ↓e_icne, ↓e_iflt, ↓e_iclt, ↓e_ifge, ↓e_icge, ↓e_ifgt, ↓e_icgt, ↓e_ifle, ↓e_icle, ↓e_goto, ↓e_dup, ↓e_pop, ↓e_dup_x1, ↓e_dup2, ↓e_getf, ↓e_putI, ↓e_putJ, ↓e_putC, ↓e_putR, ↓e_iald, ↓e_zald, ↓e_cald, ↓e_lald, ↓e_dald, ↓e_iast, ↓e_zast, ↓e_cast, ↓e_last, ↓e_dast, ↓e_aald, ↓e_alen, ↓e_throw, ↓e_iret, ↓e_zret, ↓e_cret, ↓e_aret, ↓e_lret, ↓e_fret, ↓e_dret, ↓e_vret, ↓e_new, ↓e_newarr, ↓e_pop1, ↓e_scald, ↓e_salen, ↓e_call, ↓e_callV, ↓e_callI, ↓e_call0, ↓e_callR, PI_e, PFl_e, PD_e, PR_e, PO_e, PHd_e, PA_e, PA_n, IX_e, IX_0, reduceIte, lget, lset, lclr, fget, ctake, cdrop, c1, Nat.reduceAdd, List.reverse_cons, List.reverse_nil, List.nil_append, List.cons_append, Option.toList_some, Option.toList_none, List.length_cons, List.length_nil, true_and, and_true, true_or, or_true, Nat.reduceLeDiff, Nat.reduceLT, Nat.zero_le, List.append_nil]
      rw [show nI (5 * n) + 5 = nI (5 * (n + 1)) from nI_add (5 * n) 5, show b0 + 280 * r + b1 = (b0 + b1) + 280 * r by omega, show s0 + 5920 * r + s1 = (s0 + s1) + 5920 * r by omega]
      exact ih (n + 1) (b0 + b1) (s0 + s1) _ _ _ f' (by omega) h
    · have hc : nI z.2.1 - 5 < nI (5 * n) := by
        rw [i32_lt, sub5 (by omega), nI_ti (by omega)]
        omega
      refine runh 28 _ rfl _ _ _ _ _ ?_
      simp -dsimp (disch := omega) only [hc, ↓b_law_28, ↓e_sld, ↓e_sln, eq_self, nI_dec, ixE, nI_4m, nI_16m, nI_10m, nI_2m, nI_add, nI_1, nI_p2, nI_p3, nI_pred, c3_n, c3_s, c3_i, upd_s, upd_n, rowU_n, rowU_ge, true_imp_iff, false_imp_iff, not_true_eq_false, not_false_eq_true, b2i_t, b2i_f, i32_10, i32_00, i32_11, ite_true_I, false_and, and_false, true_and, and_true, or_true, true_or, false_or, or_false, ↓wpL_n, ↓wpL_c, ↓e_iadd, ↓e_isub, ↓e_imul, ↓e_iand, ↓e_ior, ↓e_ixor, ↓e_ishl, ↓e_ishr, ↓e_iushr, ↓e_idiv, ↓e_irem, ↓e_ineg, ↓e_ladd, ↓e_lcmp, ↓e_i2l, ↓e_i2c, ↓e_i2d, ↓e_i2f, ↓e_l2f, ↓e_f2d, ↓e_fdiv, ↓e_ddiv, ↓e_dcmp_l, ↓e_fcmp_l, ↓e_dcmp_g, ↓e_fcmp_g, ↓e_push, ↓e_iload, ↓e_fload, ↓e_dload, ↓e_aload, ↓e_istore, ↓e_fstore, ↓e_astore, ↓e_iinc, ↓e_ifeq, ↓e_iceq, ↓e_ifne, ↓e_icne, ↓e_iflt, ↓e_iclt, ↓e_ifge, ↓e_icge, ↓e_ifgt, ↓e_icgt, ↓e_ifle, ↓e_icle, ↓e_goto, ↓e_dup, ↓e_pop, ↓e_dup_x1, ↓e_dup2, ↓e_getf, ↓e_putI, ↓e_putJ, ↓e_putC, ↓e_putR, ↓e_iald, ↓e_zald, ↓e_cald, ↓e_lald, ↓e_dald, ↓e_iast, ↓e_zast, ↓e_cast, ↓e_last, ↓e_dast, ↓e_aald, ↓e_alen, ↓e_throw, ↓e_iret, ↓e_zret, ↓e_cret, ↓e_aret, ↓e_lret, ↓e_fret, ↓e_dret, ↓e_vret, ↓e_new, ↓e_newarr, ↓e_pop1, ↓e_scald, ↓e_salen, ↓e_call, ↓e_callV, ↓e_callI, ↓e_call0, ↓e_callR, PI_e, PFl_e, PD_e, PR_e, PO_e, PHd_e, PA_e, PA_n, IX_e, IX_0, reduceIte, lget, lset, lclr, fget, ctake, cdrop, c1, Nat.reduceAdd, List.reverse_cons, List.reverse_nil, List.nil_append, List.cons_append, Option.toList_some, Option.toList_none, List.length_cons, List.length_nil, true_and, and_true, true_or, or_true, Nat.reduceLeDiff, Nat.reduceLT, Nat.zero_le, List.append_nil]
      refine runh 2534 _ rfl _ _ _ _ _ ?_
      simp -dsimp (disch := omega) only [↓b_law_2534, ↓e_sld, ↓e_sln, eq_self, nI_dec, ixE, nI_4m, nI_16m, nI_10m, nI_2m, nI_add, nI_1, nI_p2, nI_p3, nI_pred, c3_n, c3_s, c3_i, upd_s, upd_n, rowU_n, rowU_ge, true_imp_iff, false_imp_iff, not_true_eq_false, not_false_eq_true, b2i_t, b2i_f, i32_10, i32_00, i32_11, ite_true_I, false_and, and_false, true_and, and_true, or_true, true_or, false_or, or_false, ↓wpL_n, ↓wpL_c, ↓e_iadd, ↓e_isub, ↓e_imul, ↓e_iand, ↓e_ior, ↓e_ixor, ↓e_ishl, ↓e_ishr, ↓e_iushr, ↓e_idiv, ↓e_irem, ↓e_ineg, ↓e_ladd, ↓e_lcmp, ↓e_i2l, ↓e_i2c, ↓e_i2d, ↓e_i2f, ↓e_l2f, ↓e_f2d, ↓e_fdiv, ↓e_ddiv, ↓e_dcmp_l, ↓e_fcmp_l, ↓e_dcmp_g, ↓e_fcmp_g, ↓e_push, ↓e_iload, ↓e_fload, ↓e_dload, ↓e_aload, ↓e_istore, ↓e_fstore, ↓e_astore, ↓e_iinc, ↓e_ifeq, ↓e_iceq, ↓e_ifne, ↓e_icne, ↓e_iflt, ↓e_iclt, ↓e_ifge, ↓e_icge, ↓e_ifgt, ↓e_icgt, ↓e_ifle, ↓e_icle, ↓e_goto, ↓e_dup, ↓e_pop, ↓e_dup_x1, ↓e_dup2, ↓e_getf, ↓e_putI, ↓e_putJ, ↓e_putC, ↓e_putR, ↓e_iald, ↓e_zald, ↓e_cald, ↓e_lald, ↓e_dald, ↓e_iast, ↓e_zast, ↓e_cast, ↓e_last, ↓e_dast, ↓e_aald, ↓e_alen, ↓e_throw, ↓e_iret, ↓e_zret, ↓e_cret, ↓e_aret, ↓e_lret, ↓e_fret, ↓e_dret, ↓e_vret, ↓e_new, ↓e_newarr, ↓e_pop1, ↓e_scald, ↓e_salen, ↓e_call, ↓e_callV, ↓e_callI, ↓e_call0, ↓e_callR, PI_e, PFl_e, PD_e, PR_e, PO_e, PHd_e, PA_e, PA_n, IX_e, IX_0, reduceIte, lget, lset, lclr, fget, ctake, cdrop, c1, Nat.reduceAdd, List.reverse_cons, List.reverse_nil, List.nil_append, List.cons_append, Option.toList_some, Option.toList_none, List.length_cons, List.length_nil, true_and, and_true, true_or, or_true, Nat.reduceLeDiff, Nat.reduceLT, Nat.zero_le, List.append_nil]
      exact hQ _

