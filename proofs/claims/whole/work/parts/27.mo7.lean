-- deps: 23.mo3
/-! ===== the reference: the log's rows, bits ===== -/
/-- bits to tell so many things -/
def btF (many : Int32) : Nat → Nat → Nat
  | 0, b => b
  | n + 1, b => if (1 : Int32) <<< (nI b &&& 31) < many then btF many n (b + 1) else b
def btI (many : Int32) : Int32 := nI (btF many 31 0)
theorem btF_le (many : Int32) : ∀ n b, btF many n b ≤ b + n
  | 0, b => Nat.le_refl _
  | n + 1, b => by
    rw [btF]
    split
    · have := btF_le many n (b + 1); omega
    · omega
theorem shl30 : (1 : Int32) <<< (nI 30 &&& 31) = 1073741824 := by decide
def T_Mo_bitsFor : Spec2 := fun as f Q _ => ∃ (many : Int32), as = [.int many] ∧ (many ≤ 1073741824) ∧ Q (some (.int (btI many))) f
theorem i_Mo_bitsFor_ {many : Int32} {f : AH} {Q : Option Value → AH → Prop} {X : String → AH → Prop} (hp : many ≤ 1073741824) (h : Q (some (.int (btI many))) f) : T_Mo_bitsFor [.int many] f Q X := ⟨many, rfl, hp, h⟩
abbrev m_Mo_bitsFor (g : GG) (l : Launch) : MI := (RX9, cX9_bitsFor, 2, (some .int), [], false, 1, g, l)
def b_Mo_bitsFor_0 (g : GG) : Blk := [(1, o_push (.int 0)), (1, o_istore 1)]
def b_Mo_bitsFor_2 (g : GG) : Blk := [(1, o_push (.int 1)), (1, o_iload 1), (1, o_ishl), (1, o_iload 0), (3, o_icge 15), (3, o_iinc 1 1), (3, o_goto 2)]
def b_Mo_bitsFor_15 (g : GG) : Blk := [(1, o_iload 1), (1, o_iret)]
set_option maxRecDepth 8000 in
theorem okb_Mo_bitsFor_0 (g : GG) (l : Launch) (hst : l.stackTraces = false) : BlkOk (m_Mo_bitsFor g l) 0 (b_Mo_bitsFor_0 g) := 
  ⟨ok_iconst (by decide) (by decide +kernel : decode cX9_bitsFor 0 = .ok (.iconst 0, 1)),
  ⟨ok_istore_n rfl (Nat.le_of_ble_eq_true rfl) (by decide +kernel : decode cX9_bitsFor 1 = .ok (.istore_n 1, 1)), trivial⟩⟩
set_option maxRecDepth 8000 in
theorem okb_Mo_bitsFor_2 (g : GG) (l : Launch) (hst : l.stackTraces = false) : BlkOk (m_Mo_bitsFor g l) 2 (b_Mo_bitsFor_2 g) := 
  ⟨ok_iconst (by decide) (by decide +kernel : decode cX9_bitsFor 2 = .ok (.iconst 1, 1)),
  ⟨ok_iload_n (by decide +kernel : decode cX9_bitsFor 3 = .ok (.iload_n 1, 1)) rfl,
  ⟨ok_ishl (by decide +kernel : decode cX9_bitsFor 4 = .ok (.ishl, 1)),
  ⟨ok_iload_n (by decide +kernel : decode cX9_bitsFor 5 = .ok (.iload_n 0, 1)) rfl,
  ⟨ok_icge (by decide) (by decide +kernel : decode cX9_bitsFor 6 = .ok (.if_icmp .ge 9, 3)),
  ⟨ok_iinc (by decide) (Nat.le_of_ble_eq_true rfl) (by decide +kernel : decode cX9_bitsFor 9 = .ok (.iinc 1 1, 3)),
  ⟨ok_goto (by decide) (by decide +kernel : decode cX9_bitsFor 12 = .ok (.goto (-10), 3)), trivial⟩⟩⟩⟩⟩⟩⟩
set_option maxRecDepth 8000 in
theorem okb_Mo_bitsFor_15 (g : GG) (l : Launch) (hst : l.stackTraces = false) : BlkOk (m_Mo_bitsFor g l) 15 (b_Mo_bitsFor_15 g) := 
  ⟨ok_iload_n (by decide +kernel : decode cX9_bitsFor 15 = .ok (.iload_n 1, 1)) rfl,
  ⟨ok_iret rfl (by decide +kernel : decode cX9_bitsFor 16 = .ok (.ireturn, 1)), trivial⟩⟩
def k_Mo_bitsFor (g : GG) : List (Nat × Blk) := [(0, b_Mo_bitsFor_0 g), (2, b_Mo_bitsFor_2 g), (15, b_Mo_bitsFor_15 g)]
theorem ok_Mo_bitsFor (g : GG) (l : Launch) (hst : l.stackTraces = false) : ∀ b ∈ k_Mo_bitsFor g, BlkOk (m_Mo_bitsFor g l) b.1 b.2 := List.forall_mem_cons.mpr ⟨okb_Mo_bitsFor_0 g l hst, List.forall_mem_cons.mpr ⟨okb_Mo_bitsFor_2 g l hst, List.forall_mem_cons.mpr ⟨okb_Mo_bitsFor_15 g l hst, fun _ h => by cases h⟩⟩⟩
def i_Mo_bitsFor (g : GG) : List (Nat × Blk) := [(15, b_Mo_bitsFor_15 g)]
theorem is_Mo_bitsFor (g : GG) : ∀ x ∈ i_Mo_bitsFor g, x ∈ k_Mo_bitsFor g := sub_at [2] rfl
theorem w_Mo_bitsFor_0 (g : GG) (u : Unit) (n : List Unit) (B : Bx) (Q : Option Value → AH → Prop) (X : String → AH → Prop) (lv : LV) (st : List Value) (f : AH) (bc bs : Nat) : wpF (i_Mo_bitsFor g) (u :: n) B Q X 0 lv st f bc bs = B 0 lv st f bc bs := (rfl)
theorem w_Mo_bitsFor_2 (g : GG) (u : Unit) (n : List Unit) (B : Bx) (Q : Option Value → AH → Prop) (X : String → AH → Prop) (lv : LV) (st : List Value) (f : AH) (bc bs : Nat) : wpF (i_Mo_bitsFor g) (u :: n) B Q X 2 lv st f bc bs = B 2 lv st f bc bs := (rfl)
theorem w_Mo_bitsFor_15 (g : GG) (u : Unit) (n : List Unit) (B : Bx) (Q : Option Value → AH → Prop) (X : String → AH → Prop) (lv : LV) (st : List Value) (f : AH) (bc bs : Nat) : wpF (i_Mo_bitsFor g) (u :: n) B Q X 15 lv st f bc bs = wpL (b_Mo_bitsFor_15 g) 15 lv st f bc bs (wpF (i_Mo_bitsFor g) n B Q X) Q X := (rfl)
set_option maxRecDepth 4000 in
set_option maxHeartbeats 4000000 in
theorem s_Mo_bitsFor (g : GG) (l : Launch) (hst : l.stackTraces = false) : Snd yX9_bitsFor (m_Mo_bitsFor g l) 0 0 T_Mo_bitsFor := by
  refine snd_of (plainFor_of_name (by decide)) rfl (fun h => by first | rfl | cases h) rfl hst (k_Mo_bitsFor g) (ok_Mo_bitsFor g l hst) ?_
  rintro as f Q X ⟨many, rfl, hp, hq⟩
  refine ⟨[some (.int many), none], rfl, Nat.le_of_ble_eq_true rfl, fun B run => ?_⟩
  have loop : ∀ n b, n + b = 31 → 0 < n → btI many = nI (btF many n b) → B 2 [some (.int many), some (.int (nI b))] [] f 0 0 := by
    intro n
    induction n with
    | zero =>
      intro b e h0
      omega
    | succ n ih =>
      intro b e h0 e2
      rw [btF] at e2
      by_cases h : (1 : Int32) <<< (nI b &&& 31) < many
      · rw [if_pos h] at e2
        rcases Nat.eq_zero_or_pos n with rfl | hn
        · exfalso
          obtain rfl : b = 30 := by omega
          rw [shl30] at h
          exact absurd hp (Int32.not_le.mpr h)
        · have ih := ih (b + 1) (by omega) hn e2
          repeat (first | exact hq | exact ih | (refine run _ _ (i_Mo_bitsFor g) [(), ()] rfl (is_Mo_bitsFor g) _ _ _ _ _ ?_; (try simp only [Option.toList_some, Option.toList_none, List.cons_append, List.nil_append, List.append_nil]); simp -dsimp (disch := omega) only [h, Int32.not_le.mpr h, thr_n, wdC_n, wrC_n, tchC_n, wpF_0, eq_self, nI_dec, ixE, nI_4m, nI_16m, nI_10m, nI_2m, nI_add, nI_1, nI_p2, nI_p3, nI_pred, c3_n, c3_s, c3_i, upd_s, upd_n, rowU_n, rowU_ge, true_imp_iff, false_imp_iff, not_true_eq_false, not_false_eq_true, b2i_t, b2i_f, i32_10, i32_00, i32_11, ite_true_I, false_and, and_false, true_and, and_true, or_true, true_or, false_or, or_false, w_Mo_bitsFor_0, w_Mo_bitsFor_2, w_Mo_bitsFor_15, ↓b_Mo_bitsFor_0, ↓b_Mo_bitsFor_2, ↓b_Mo_bitsFor_15, ↓wpL_n, ↓wpL_c, ↓e_iadd, ↓e_isub, ↓e_imul, ↓e_iand, ↓e_ior, ↓e_ixor, ↓e_ishl, ↓e_ishr, ↓e_iushr, ↓e_idiv, ↓e_irem, ↓e_ineg, ↓e_ladd, ↓e_lcmp, ↓e_i2l, ↓e_i2c, ↓e_i2d, ↓e_i2f, ↓e_l2f, ↓e_f2d, ↓e_fdiv, ↓e_ddiv, ↓e_dcmp_l, ↓e_fcmp_l, ↓e_dcmp_g, ↓e_fcmp_g, ↓e_push, ↓e_iload, ↓e_fload, ↓e_dload, ↓e_aload, ↓e_istore, ↓e_fstore, ↓e_astore, ↓e_iinc, ↓e_ifeq, ↓e_iceq, ↓e_ifne, ↓e_icne, ↓e_iflt, ↓e_iclt, ↓e_ifge, ↓e_icge, ↓e_ifgt, ↓e_icgt, ↓e_ifle, ↓e_icle, ↓e_goto, ↓e_dup, ↓e_pop, ↓e_dup_x1, ↓e_dup2, ↓e_getf, ↓e_putI, ↓e_putJ, ↓e_putC, ↓e_putR, ↓e_iald, ↓e_zald, ↓e_cald, ↓e_lald, ↓e_dald, ↓e_iast, ↓e_zast, ↓e_cast, ↓e_last, ↓e_dast, ↓e_aald, ↓e_alen, ↓e_throw, ↓e_iret, ↓e_zret, ↓e_cret, ↓e_aret, ↓e_lret, ↓e_fret, ↓e_dret, ↓e_vret, ↓e_new, ↓e_newarr, ↓e_pop1, ↓e_scald, ↓e_salen, ↓e_call, ↓e_callV, ↓e_callI, ↓e_call0, ↓e_callR, PI_e, PFl_e, PD_e, PR_e, PO_e, PHd_e, PA_e, PA_n, IX_e, IX_0, reduceIte, lget, lset, lclr, fget, ctake, cdrop, c1, Nat.reduceAdd, List.reverse_cons, List.reverse_nil, List.nil_append, List.cons_append, Option.toList_some, Option.toList_none, List.length_cons, List.length_nil, true_and, and_true, true_or, or_true, Nat.reduceLeDiff, Nat.reduceLT, Nat.zero_le, List.append_nil]) | refine ⟨_, rfl, by omega, by omega, ?_⟩ | (refine And.intro ?_ ?_; focus (first | exact b2i_01 _ | assumption | decide | (simp; done))))
      · rw [if_neg h] at e2
        rw [e2] at hq
        repeat (first | exact hq | (refine run _ _ (i_Mo_bitsFor g) [(), ()] rfl (is_Mo_bitsFor g) _ _ _ _ _ ?_; (try simp only [Option.toList_some, Option.toList_none, List.cons_append, List.nil_append, List.append_nil]); simp -dsimp (disch := omega) only [h, Int32.not_lt.mp h, thr_n, wdC_n, wrC_n, tchC_n, wpF_0, eq_self, nI_dec, ixE, nI_4m, nI_16m, nI_10m, nI_2m, nI_add, nI_1, nI_p2, nI_p3, nI_pred, c3_n, c3_s, c3_i, upd_s, upd_n, rowU_n, rowU_ge, true_imp_iff, false_imp_iff, not_true_eq_false, not_false_eq_true, b2i_t, b2i_f, i32_10, i32_00, i32_11, ite_true_I, false_and, and_false, true_and, and_true, or_true, true_or, false_or, or_false, w_Mo_bitsFor_0, w_Mo_bitsFor_2, w_Mo_bitsFor_15, ↓b_Mo_bitsFor_0, ↓b_Mo_bitsFor_2, ↓b_Mo_bitsFor_15, ↓wpL_n, ↓wpL_c, ↓e_iadd, ↓e_isub, ↓e_imul, ↓e_iand, ↓e_ior, ↓e_ixor, ↓e_ishl, ↓e_ishr, ↓e_iushr, ↓e_idiv, ↓e_irem, ↓e_ineg, ↓e_ladd, ↓e_lcmp, ↓e_i2l, ↓e_i2c, ↓e_i2d, ↓e_i2f, ↓e_l2f, ↓e_f2d, ↓e_fdiv, ↓e_ddiv, ↓e_dcmp_l, ↓e_fcmp_l, ↓e_dcmp_g, ↓e_fcmp_g, ↓e_push, ↓e_iload, ↓e_fload, ↓e_dload, ↓e_aload, ↓e_istore, ↓e_fstore, ↓e_astore, ↓e_iinc, ↓e_ifeq, ↓e_iceq, ↓e_ifne, ↓e_icne, ↓e_iflt, ↓e_iclt, ↓e_ifge, ↓e_icge, ↓e_ifgt, ↓e_icgt, ↓e_ifle, ↓e_icle, ↓e_goto, ↓e_dup, ↓e_pop, ↓e_dup_x1, ↓e_dup2, ↓e_getf, ↓e_putI, ↓e_putJ, ↓e_putC, ↓e_putR, ↓e_iald, ↓e_zald, ↓e_cald, ↓e_lald, ↓e_dald, ↓e_iast, ↓e_zast, ↓e_cast, ↓e_last, ↓e_dast, ↓e_aald, ↓e_alen, ↓e_throw, ↓e_iret, ↓e_zret, ↓e_cret, ↓e_aret, ↓e_lret, ↓e_fret, ↓e_dret, ↓e_vret, ↓e_new, ↓e_newarr, ↓e_pop1, ↓e_scald, ↓e_salen, ↓e_call, ↓e_callV, ↓e_callI, ↓e_call0, ↓e_callR, PI_e, PFl_e, PD_e, PR_e, PO_e, PHd_e, PA_e, PA_n, IX_e, IX_0, reduceIte, lget, lset, lclr, fget, ctake, cdrop, c1, Nat.reduceAdd, List.reverse_cons, List.reverse_nil, List.nil_append, List.cons_append, Option.toList_some, Option.toList_none, List.length_cons, List.length_nil, true_and, and_true, true_or, or_true, Nat.reduceLeDiff, Nat.reduceLT, Nat.zero_le, List.append_nil]) | refine ⟨_, rfl, by omega, by omega, ?_⟩ | (refine And.intro ?_ ?_; focus (first | exact b2i_01 _ | assumption | decide | (simp; done))))
  repeat (first | exact hq | exact loop 31 0 rfl (by omega) rfl | (refine run _ _ (i_Mo_bitsFor g) [(), ()] rfl (is_Mo_bitsFor g) _ _ _ _ _ ?_; (try simp only [Option.toList_some, Option.toList_none, List.cons_append, List.nil_append, List.append_nil]); simp -dsimp (disch := omega) only [thr_n, wdC_n, wrC_n, tchC_n, wpF_0, eq_self, nI_dec, ixE, nI_4m, nI_16m, nI_10m, nI_2m, nI_add, nI_1, nI_p2, nI_p3, nI_pred, c3_n, c3_s, c3_i, upd_s, upd_n, rowU_n, rowU_ge, true_imp_iff, false_imp_iff, not_true_eq_false, not_false_eq_true, b2i_t, b2i_f, i32_10, i32_00, i32_11, ite_true_I, false_and, and_false, true_and, and_true, or_true, true_or, false_or, or_false, w_Mo_bitsFor_0, w_Mo_bitsFor_2, w_Mo_bitsFor_15, ↓b_Mo_bitsFor_0, ↓b_Mo_bitsFor_2, ↓b_Mo_bitsFor_15, ↓wpL_n, ↓wpL_c, ↓e_iadd, ↓e_isub, ↓e_imul, ↓e_iand, ↓e_ior, ↓e_ixor, ↓e_ishl, ↓e_ishr, ↓e_iushr, ↓e_idiv, ↓e_irem, ↓e_ineg, ↓e_ladd, ↓e_lcmp, ↓e_i2l, ↓e_i2c, ↓e_i2d, ↓e_i2f, ↓e_l2f, ↓e_f2d, ↓e_fdiv, ↓e_ddiv, ↓e_dcmp_l, ↓e_fcmp_l, ↓e_dcmp_g, ↓e_fcmp_g, ↓e_push, ↓e_iload, ↓e_fload, ↓e_dload, ↓e_aload, ↓e_istore, ↓e_fstore, ↓e_astore, ↓e_iinc, ↓e_ifeq, ↓e_iceq, ↓e_ifne, ↓e_icne, ↓e_iflt, ↓e_iclt, ↓e_ifge, ↓e_icge, ↓e_ifgt, ↓e_icgt, ↓e_ifle, ↓e_icle, ↓e_goto, ↓e_dup, ↓e_pop, ↓e_dup_x1, ↓e_dup2, ↓e_getf, ↓e_putI, ↓e_putJ, ↓e_putC, ↓e_putR, ↓e_iald, ↓e_zald, ↓e_cald, ↓e_lald, ↓e_dald, ↓e_iast, ↓e_zast, ↓e_cast, ↓e_last, ↓e_dast, ↓e_aald, ↓e_alen, ↓e_throw, ↓e_iret, ↓e_zret, ↓e_cret, ↓e_aret, ↓e_lret, ↓e_fret, ↓e_dret, ↓e_vret, ↓e_new, ↓e_newarr, ↓e_pop1, ↓e_scald, ↓e_salen, ↓e_call, ↓e_callV, ↓e_callI, ↓e_call0, ↓e_callR, PI_e, PFl_e, PD_e, PR_e, PO_e, PHd_e, PA_e, PA_n, IX_e, IX_0, reduceIte, lget, lset, lclr, fget, ctake, cdrop, c1, Nat.reduceAdd, List.reverse_cons, List.reverse_nil, List.nil_append, List.cons_append, Option.toList_some, Option.toList_none, List.length_cons, List.length_nil, true_and, and_true, true_or, or_true, Nat.reduceLeDiff, Nat.reduceLT, Nat.zero_le, List.append_nil]) | refine ⟨_, rfl, by omega, by omega, ?_⟩ | (refine And.intro ?_ ?_; focus (first | exact b2i_01 _ | assumption | decide | (simp; done))))

