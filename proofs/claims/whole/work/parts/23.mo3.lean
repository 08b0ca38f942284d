/-! ===== the reference: what it tells of chunks, filters, scans ===== -/
theorem wpF_0 (L : List (Nat × Blk)) (B : Bx) (Q : Option Value → AH → Prop) (X : String → AH → Prop) (pc : Nat) (lv : LV) (st : List Value) (f : AH) (bc bs : Nat) : wpF L [] B Q X pc lv st f bc bs = B pc lv st f bc bs := (rfl)
theorem chN_nI {cm : CM} {n : Nat} (hn : n ≤ 160) (h : cm 0 0 0 = nI n) : chN cm = nI ((n + 15) / 16) := by
  rw [chN, h, show nI n + 16 = nI (n + 16) from nI_add n 16, show n + 16 = (n + 15) + 1 by omega, nI_pred, nI_d16 (by omega)]
theorem nb_inR {x : Int32} {N : Int32} {n : Nat} (hn : n < 2147483648) (e : N = nI n) (h : inR x 0 (N - 1) = true) : ∃ a, a < n ∧ x = nI a := by
  rw [e] at h
  exact (inR_nI hn).mp h
def noPlace (cm : CM) (k c : Int32) : Bool := !(inR k 0 (chN cm - 1) && inR c 0 3)
def T_Mo_isNoPlace : Spec2 := fun as f Q _ => ∃ (f0 : AH) (ad : Nat → Nat) (cm : CM) (cl : CL) (k : Int32) (c : Int32), as = [.ref (ad 0), .int k, .int c] ∧ MR f0 f ad cm cl ∧ ∀ f', MR f0 f' ad (thr cm (noPlace cm k c) 1) (cl) → Q (some (.int (b2i (noPlace cm k c)))) f'
theorem i_Mo_isNoPlace_ {f0 : AH} {ad : Nat → Nat} {cm : CM} {cl : CL} {k : Int32} {c : Int32} {f : AH} {Q : Option Value → AH → Prop} {X : String → AH → Prop} (hM : MR f0 f ad cm cl) (h : ∀ f', MR f0 f' ad (thr cm (noPlace cm k c) 1) (cl) → Q (some (.int (b2i (noPlace cm k c)))) f') : T_Mo_isNoPlace [.ref (ad 0), .int k, .int c] f Q X := ⟨f0, ad, cm, cl, k, c, rfl, hM, h⟩
theorem j_Mo_isNoPlace_ {f0 : AH} {ad : Nat → Nat} {cm : CM} {cl : CL} {k : Int32} {c : Int32} {b : Bool} {f : AH} {Q : Option Value → AH → Prop} {X : String → AH → Prop} (hM : MR f0 f ad cm cl) (hb : (noPlace cm k c) = b) (h : ∀ f', MR f0 f' ad (thr cm b 1) (cl) → Q (some (.int (b2i b))) f') : T_Mo_isNoPlace [.ref (ad 0), .int k, .int c] f Q X := by subst hb; exact i_Mo_isNoPlace_ hM h
abbrev m_Mo_isNoPlace (g : GG) (l : Launch) : MI := (RX9, cX9_isNoPlace, 3, (some .boolean), [], false, 2, g, l)
def b_Mo_isNoPlace_0 (g : GG) : Blk := [(1, o_aload 0), (1, o_iload 1), (1, o_push (.int 0)), (1, o_aload 0), (3, o_callR (o_call0 T_Mo_chunksNow 1) 10 1)]
def b_Mo_isNoPlace_7 (g : GG) : Blk := [(1, o_push (.int 1)), (1, o_isub), (3, o_call0 T_Mo_isIn 3)]
def b_Mo_isNoPlace_12 (g : GG) : Blk := [(3, o_ifeq 24), (1, o_iload 2), (1, o_push (.int 0)), (1, o_push (.int 3)), (3, o_call0 T_Mo_isIn 3)]
def b_Mo_isNoPlace_21 (g : GG) : Blk := [(3, o_ifne 28)]
def b_Mo_isNoPlace_24 (g : GG) : Blk := [(1, o_push (.int 1)), (3, o_goto 29)]
def b_Mo_isNoPlace_28 (g : GG) : Blk := [(1, o_push (.int 0))]
def b_Mo_isNoPlace_29 (g : GG) : Blk := [(1, o_push (.int 1)), (3, o_callR (o_call0 T_Mo_isThrown 3) 10 3)]
def b_Mo_isNoPlace_33 (g : GG) : Blk := [(1, o_zret)]
set_option maxRecDepth 8000 in
theorem okb_Mo_isNoPlace_0 (g : GG) (l : Launch) (hst : l.stackTraces = false) : BlkOk (m_Mo_isNoPlace g l) 0 (b_Mo_isNoPlace_0 g) := 
  ⟨ok_aload_n (by decide +kernel : decode cX9_isNoPlace 0 = .ok (.aload_n 0, 1)) rfl,
  ⟨ok_iload_n (by decide +kernel : decode cX9_isNoPlace 1 = .ok (.iload_n 1, 1)) rfl,
  ⟨ok_iconst (by decide) (by decide +kernel : decode cX9_isNoPlace 2 = .ok (.iconst 0, 1)),
  ⟨ok_aload_n (by decide +kernel : decode cX9_isNoPlace 3 = .ok (.aload_n 0, 1)) rfl,
  ⟨(ok_callV (k := 0) cls_10 (s_Mo_chunksNow g l hst) (show 1 < 2 from by decide) (Nat.le_of_ble_eq_true rfl) rfl rfl tw_1482 tw_1484 ts_50 tw_9 tw_1485 ⟨by decide, by decide, by decide⟩ (by decide +kernel : decode cX9_isNoPlace 4 = .ok (.invokevirtual 189, 3))).mono callR0_of, trivial⟩⟩⟩⟩⟩
set_option maxRecDepth 8000 in
theorem okb_Mo_isNoPlace_7 (g : GG) (l : Launch) (hst : l.stackTraces = false) : BlkOk (m_Mo_isNoPlace g l) 7 (b_Mo_isNoPlace_7 g) := 
  ⟨ok_iconst (by decide) (by decide +kernel : decode cX9_isNoPlace 7 = .ok (.iconst 1, 1)),
  ⟨ok_isub (by decide +kernel : decode cX9_isNoPlace 8 = .ok (.isub, 1)),
  ⟨(ok_callS (k := 3) (s_Mo_isIn g l hst) (show 1 < 2 from by decide) (Nat.le_of_ble_eq_true rfl) rfl rfl tw_1424 tw_1425 tw_9 tw_1426 ⟨by decide, by decide, by decide⟩ (by decide +kernel : decode cX9_isNoPlace 9 = .ok (.invokestatic 146, 3))).mono call0_of, trivial⟩⟩⟩
set_option maxRecDepth 8000 in
theorem okb_Mo_isNoPlace_12 (g : GG) (l : Launch) (hst : l.stackTraces = false) : BlkOk (m_Mo_isNoPlace g l) 12 (b_Mo_isNoPlace_12 g) := 
  ⟨ok_ifeq (by decide) (by decide +kernel : decode cX9_isNoPlace 12 = .ok (.ifCond .eq 12, 3)),
  ⟨ok_iload_n (by decide +kernel : decode cX9_isNoPlace 15 = .ok (.iload_n 2, 1)) rfl,
  ⟨ok_iconst (by decide) (by decide +kernel : decode cX9_isNoPlace 16 = .ok (.iconst 0, 1)),
  ⟨ok_iconst (by decide) (by decide +kernel : decode cX9_isNoPlace 17 = .ok (.iconst 3, 1)),
  ⟨(ok_callS (k := 3) (s_Mo_isIn g l hst) (show 1 < 2 from by decide) (Nat.le_of_ble_eq_true rfl) rfl rfl tw_1424 tw_1425 tw_9 tw_1426 ⟨by decide, by decide, by decide⟩ (by decide +kernel : decode cX9_isNoPlace 18 = .ok (.invokestatic 146, 3))).mono call0_of, trivial⟩⟩⟩⟩⟩
set_option maxRecDepth 8000 in
theorem okb_Mo_isNoPlace_21 (g : GG) (l : Launch) (hst : l.stackTraces = false) : BlkOk (m_Mo_isNoPlace g l) 21 (b_Mo_isNoPlace_21 g) := 
  ⟨ok_ifne (by decide) (by decide +kernel : decode cX9_isNoPlace 21 = .ok (.ifCond .ne 7, 3)), trivial⟩
set_option maxRecDepth 8000 in
theorem okb_Mo_isNoPlace_24 (g : GG) (l : Launch) (hst : l.stackTraces = false) : BlkOk (m_Mo_isNoPlace g l) 24 (b_Mo_isNoPlace_24 g) := 
  ⟨ok_iconst (by decide) (by decide +kernel : decode cX9_isNoPlace 24 = .ok (.iconst 1, 1)),
  ⟨ok_goto (by decide) (by decide +kernel : decode cX9_isNoPlace 25 = .ok (.goto 4, 3)), trivial⟩⟩
set_option maxRecDepth 8000 in
theorem okb_Mo_isNoPlace_28 (g : GG) (l : Launch) (hst : l.stackTraces = false) : BlkOk (m_Mo_isNoPlace g l) 28 (b_Mo_isNoPlace_28 g) := 
  ⟨ok_iconst (by decide) (by decide +kernel : decode cX9_isNoPlace 28 = .ok (.iconst 0, 1)), trivial⟩
set_option maxRecDepth 8000 in
theorem okb_Mo_isNoPlace_29 (g : GG) (l : Launch) (hst : l.stackTraces = false) : BlkOk (m_Mo_isNoPlace g l) 29 (b_Mo_isNoPlace_29 g) := 
  ⟨ok_iconst (by decide) (by decide +kernel : decode cX9_isNoPlace 29 = .ok (.iconst 1, 1)),
  ⟨(ok_callV (k := 2) cls_10 (s_Mo_isThrown g l hst) (show 1 < 2 from by decide) (Nat.le_of_ble_eq_true rfl) rfl rfl tw_1427 tw_1429 ts_43 tw_9 tw_1430 ⟨by decide, by decide, by decide⟩ (by decide +kernel : decode cX9_isNoPlace 30 = .ok (.invokevirtual 149, 3))).mono callR0_of, trivial⟩⟩
set_option maxRecDepth 8000 in
theorem okb_Mo_isNoPlace_33 (g : GG) (l : Launch) (hst : l.stackTraces = false) : BlkOk (m_Mo_isNoPlace g l) 33 (b_Mo_isNoPlace_33 g) := 
  ⟨ok_zret rfl (by decide +kernel : decode cX9_isNoPlace 33 = .ok (.ireturn, 1)), trivial⟩
def k_Mo_isNoPlace (g : GG) : List (Nat × Blk) := [(0, b_Mo_isNoPlace_0 g), (7, b_Mo_isNoPlace_7 g), (12, b_Mo_isNoPlace_12 g), (21, b_Mo_isNoPlace_21 g), (24, b_Mo_isNoPlace_24 g), (28, b_Mo_isNoPlace_28 g), (29, b_Mo_isNoPlace_29 g), (33, b_Mo_isNoPlace_33 g)]
theorem ok_Mo_isNoPlace (g : GG) (l : Launch) (hst : l.stackTraces = false) : ∀ b ∈ k_Mo_isNoPlace g, BlkOk (m_Mo_isNoPlace g l) b.1 b.2 := List.forall_mem_cons.mpr ⟨okb_Mo_isNoPlace_0 g l hst, List.forall_mem_cons.mpr ⟨okb_Mo_isNoPlace_7 g l hst, List.forall_mem_cons.mpr ⟨okb_Mo_isNoPlace_12 g l hst, List.forall_mem_cons.mpr ⟨okb_Mo_isNoPlace_21 g l hst, List.forall_mem_cons.mpr ⟨okb_Mo_isNoPlace_24 g l hst, List.forall_mem_cons.mpr ⟨okb_Mo_isNoPlace_28 g l hst, List.forall_mem_cons.mpr ⟨okb_Mo_isNoPlace_29 g l hst, List.forall_mem_cons.mpr ⟨okb_Mo_isNoPlace_33 g l hst, fun _ h => by cases h⟩⟩⟩⟩⟩⟩⟩⟩
def i_Mo_isNoPlace (g : GG) : List (Nat × Blk) := [(24, b_Mo_isNoPlace_24 g), (28, b_Mo_isNoPlace_28 g), (29, b_Mo_isNoPlace_29 g)]
theorem is_Mo_isNoPlace (g : GG) : ∀ x ∈ i_Mo_isNoPlace g, x ∈ k_Mo_isNoPlace g := sub_at [4, 5, 6] rfl
theorem w_Mo_isNoPlace_0 (g : GG) (u : Unit) (n : List Unit) (B : Bx) (Q : Option Value → AH → Prop) (X : String → AH → Prop) (lv : LV) (st : List Value) (f : AH) (bc bs : Nat) : wpF (i_Mo_isNoPlace g) (u :: n) B Q X 0 lv st f bc bs = B 0 lv st f bc bs := (rfl)
theorem w_Mo_isNoPlace_7 (g : GG) (u : Unit) (n : List Unit) (B : Bx) (Q : Option Value → AH → Prop) (X : String → AH → Prop) (lv : LV) (st : List Value) (f : AH) (bc bs : Nat) : wpF (i_Mo_isNoPlace g) (u :: n) B Q X 7 lv st f bc bs = B 7 lv st f bc bs := (rfl)
theorem w_Mo_isNoPlace_12 (g : GG) (u : Unit) (n : List Unit) (B : Bx) (Q : Option Value → AH → Prop) (X : String → AH → Prop) (lv : LV) (st : List Value) (f : AH) (bc bs : Nat) : wpF (i_Mo_isNoPlace g) (u :: n) B Q X 12 lv st f bc bs = B 12 lv st f bc bs := (rfl)
theorem w_Mo_isNoPlace_21 (g : GG) (u : Unit) (n : List Unit) (B : Bx) (Q : Option Value → AH → Prop) (X : String → AH → Prop) (lv : LV) (st : List Value) (f : AH) (bc bs : Nat) : wpF (i_Mo_isNoPlace g) (u :: n) B Q X 21 lv st f bc bs = B 21 lv st f bc bs := (rfl)
theorem w_Mo_isNoPlace_24 (g : GG) (u : Unit) (n : List Unit) (B : Bx) (Q : Option Value → AH → Prop) (X : String → AH → Prop) (lv : LV) (st : List Value) (f : AH) (bc bs : Nat) : wpF (i_Mo_isNoPlace g) (u :: n) B Q X 24 lv st f bc bs = wpL (b_Mo_isNoPlace_24 g) 24 lv st f bc bs (wpF (i_Mo_isNoPlace g) n B Q X) Q X := (rfl)
theorem w_Mo_isNoPlace_28 (g : GG) (u : Unit) (n : List Unit) (B : Bx) (Q : Option Value → AH → Prop) (X : String → AH → Prop) (lv : LV) (st : List Value) (f : AH) (bc bs : Nat) : wpF (i_Mo_isNoPlace g) (u :: n) B Q X 28 lv st f bc bs = wpL (b_Mo_isNoPlace_28 g) 28 lv st f bc bs (wpF (i_Mo_isNoPlace g) n B Q X) Q X := (rfl)
theorem w_Mo_isNoPlace_29 (g : GG) (u : Unit) (n : List Unit) (B : Bx) (Q : Option Value → AH → Prop) (X : String → AH → Prop) (lv : LV) (st : List Value) (f : AH) (bc bs : Nat) : wpF (i_Mo_isNoPlace g) (u :: n) B Q X 29 lv st f bc bs = wpL (b_Mo_isNoPlace_29 g) 29 lv st f bc bs (wpF (i_Mo_isNoPlace g) n B Q X) Q X := (rfl)
theorem w_Mo_isNoPlace_33 (g : GG) (u : Unit) (n : List Unit) (B : Bx) (Q : Option Value → AH → Prop) (X : String → AH → Prop) (lv : LV) (st : List Value) (f : AH) (bc bs : Nat) : wpF (i_Mo_isNoPlace g) (u :: n) B Q X 33 lv st f bc bs = B 33 lv st f bc bs := (rfl)
set_option maxRecDepth 4000 in
set_option maxHeartbeats 4000000 in
theorem s_Mo_isNoPlace (g : GG) (l : Launch) (hst : l.stackTraces = false) : Snd yX9_isNoPlace (m_Mo_isNoPlace g l) 0 0 T_Mo_isNoPlace := by
  refine snd_of (plainFor_of_name (by decide)) rfl (fun h => by first | rfl | cases h) rfl hst (k_Mo_isNoPlace g) (ok_Mo_isNoPlace g l hst) ?_
  rintro as f Q X ⟨f0, ad, cm, cl, k, c, rfl, hM, hq⟩
  refine ⟨[some (.ref (ad 0)), some (.int k), some (.int c)], rfl, Nat.le_of_ble_eq_true rfl, fun B run => ?_⟩
  cases h1 : inR k 0 (chN cm - 1)
  · simp only [noPlace, h1, Bool.false_and, Bool.not_false] at hq
    repeat (first | (refine hq _ ?_; exact hM) | (refine i_Mo_chunksNow_ hM fun f hM => ?_) | (refine j_Mo_isIn_ (b := true) ?_ ?_; (focus with_reducible assumption)) | (refine j_Mo_isIn_ (b := false) ?_ ?_; (focus with_reducible assumption)) | (refine i_Mo_isIn_ ?_) | refine j_Mo_isThrown (b := true) hM rfl fun f hM => ?_ | refine j_Mo_isThrown (b := false) hM rfl fun f hM => ?_ | (refine run _ _ (i_Mo_isNoPlace g) [(), (), (), ()] rfl (is_Mo_isNoPlace g) _ _ _ _ _ ?_; (try simp only [Option.toList_some, Option.toList_none, List.cons_append, List.nil_append, List.append_nil]); simp -dsimp (disch := omega) only [thr_n, wdC_n, wrC_n, tchC_n, wpF_0, ↓hobj_c hM.obj, mf_len, eq_self, nI_dec, ixE, nI_4m, nI_16m, nI_10m, nI_2m, nI_add, nI_1, nI_p2, nI_p3, nI_pred, c3_n, c3_s, c3_i, upd_s, upd_n, rowU_n, rowU_ge, true_imp_iff, false_imp_iff, not_true_eq_false, not_false_eq_true, b2i_t, b2i_f, i32_10, i32_00, i32_11, ite_true_I, false_and, and_false, true_and, and_true, or_true, true_or, false_or, or_false, w_Mo_isNoPlace_0, w_Mo_isNoPlace_7, w_Mo_isNoPlace_12, w_Mo_isNoPlace_21, w_Mo_isNoPlace_24, w_Mo_isNoPlace_28, w_Mo_isNoPlace_29, w_Mo_isNoPlace_33, ↓b_Mo_isNoPlace_0, ↓b_Mo_isNoPlace_7, ↓b_Mo_isNoPlace_12, ↓b_Mo_isNoPlace_21, ↓b_Mo_isNoPlace_24, ↓b_Mo_isNoPlace_28, ↓b_Mo_isNoPlace_29, ↓b_Mo_isNoPlace_33, ↓wpL_n, ↓wpL_c, ↓e_iadd, ↓e_isub, ↓e_imul, ↓e_iand, ↓e_ior, ↓e_ixor, ↓e_ishl, ↓e_ishr, ↓e_iushr, ↓e_idiv, ↓e_irem, ↓e_ineg, ↓e_ladd, ↓e_lcmp, ↓e_i2l, ↓e_i2c, ↓e_i2d, ↓e_i2f, ↓e_l2f, ↓e_f2d, ↓e_fdiv, ↓e_ddiv, ↓e_dcmp_l, ↓e_fcmp_l, ↓e_dcmp_g, ↓e_fcmp_g, ↓e_push, ↓e_iload, ↓e_fload, ↓e_dload, ↓e_aload, ↓e_istore, ↓e_fstore, ↓e_astore, ↓e_iinc, ↓e_ifeq, ↓e_iceq, ↓e_ifne, ↓e_icne, ↓e_iflt, ↓e_iclt, ↓e_ifge, ↓e_icge, ↓e_ifgt, ↓e_icgt, ↓e_ifle, ↓e_icle, ↓e_goto, ↓e_dup, ↓e_pop, ↓e_dup_x1, ↓e_dup2, ↓e_getf, ↓e_putI, ↓e_putJ, ↓e_putC, ↓e_putR, ↓e_iald, ↓e_zald, ↓e_cald, ↓e_lald, ↓e_dald, ↓e_iast, ↓e_zast, ↓e_cast, ↓e_last, ↓e_dast, ↓e_aald, ↓e_alen, ↓e_throw, ↓e_iret, ↓e_zret, ↓e_cret, ↓e_aret, ↓e_lret, ↓e_fret, ↓e_dret, ↓e_vret, ↓e_new, ↓e_newarr, ↓e_pop1, ↓e_scald, ↓e_salen, ↓e_call, ↓e_callV, ↓e_callI, ↓e_call0, ↓e_callR, PI_e, PFl_e, PD_e, PR_e, PO_e, PHd_e, PA_e, PA_n, IX_e, IX_0, reduceIte, lget, lset, lclr, fget, ctake, cdrop, c1, Nat.reduceAdd, List.reverse_cons, List.reverse_nil, List.nil_append, List.cons_append, Option.toList_some, Option.toList_none, List.length_cons, List.length_nil, true_and, and_true, true_or, or_true, Nat.reduceLeDiff, Nat.reduceLT, Nat.zero_le, List.append_nil]) | refine ⟨_, rfl, by omega, by omega, ?_⟩ | (refine And.intro ?_ ?_; focus (first | exact b2i_01 _ | assumption | decide | (simp; done))))
  · cases h2 : inR c 0 3
    · simp only [noPlace, h1, h2, Bool.and_false, Bool.not_false] at hq
      repeat (first | (refine hq _ ?_; exact hM) | (refine i_Mo_chunksNow_ hM fun f hM => ?_) | (refine j_Mo_isIn_ (b := true) ?_ ?_; (focus with_reducible assumption)) | (refine j_Mo_isIn_ (b := false) ?_ ?_; (focus with_reducible assumption)) | (refine i_Mo_isIn_ ?_) | refine j_Mo_isThrown (b := true) hM rfl fun f hM => ?_ | refine j_Mo_isThrown (b := false) hM rfl fun f hM => ?_ | (refine run _ _ (i_Mo_isNoPlace g) [(), (), (), ()] rfl (is_Mo_isNoPlace g) _ _ _ _ _ ?_; (try simp only [Option.toList_some, Option.toList_none, List.cons_append, List.nil_append, List.append_nil]); simp -dsimp (disch := omega) only [thr_n, wdC_n, wrC_n, tchC_n, wpF_0, ↓hobj_c hM.obj, mf_len, eq_self, nI_dec, ixE, nI_4m, nI_16m, nI_10m, nI_2m, nI_add, nI_1, nI_p2, nI_p3, nI_pred, c3_n, c3_s, c3_i, upd_s, upd_n, rowU_n, rowU_ge, true_imp_iff, false_imp_iff, not_true_eq_false, not_false_eq_true, b2i_t, b2i_f, i32_10, i32_00, i32_11, ite_true_I, false_and, and_false, true_and, and_true, or_true, true_or, false_or, or_false, w_Mo_isNoPlace_0, w_Mo_isNoPlace_7, w_Mo_isNoPlace_12, w_Mo_isNoPlace_21, w_Mo_isNoPlace_24, w_Mo_isNoPlace_28, w_Mo_isNoPlace_29, w_Mo_isNoPlace_33, ↓b_Mo_isNoPlace_0, ↓b_Mo_isNoPlace_7, ↓b_Mo_isNoPlace_12, ↓b_Mo_isNoPlace_21, ↓b_Mo_isNoPlace_24, ↓b_Mo_isNoPlace_28, ↓b_Mo_isNoPlace_29, ↓b_Mo_isNoPlace_33, ↓wpL_n, ↓wpL_c, ↓e_iadd, ↓e_isub, ↓e_imul, ↓e_iand, ↓e_ior, ↓e_ixor, ↓e_ishl, ↓e_ishr, ↓e_iushr, ↓e_idiv, ↓e_irem, ↓e_ineg, ↓e_ladd, ↓e_lcmp, ↓e_i2l, ↓e_i2c, ↓e_i2d, ↓e_i2f, ↓e_l2f, ↓e_f2d, ↓e_fdiv, ↓e_ddiv, ↓e_dcmp_l, ↓e_fcmp_l, ↓e_dcmp_g, ↓e_fcmp_g, ↓e_push, ↓e_iload, ↓e_fload, ↓e_dload, ↓e_aload, ↓e_istore, ↓e_fstore, ↓e_astore, ↓e_iinc, ↓e_ifeq, ↓e_iceq, ↓e_ifne, ↓e_icne, ↓e_iflt, ↓e_iclt, ↓e_ifge, ↓e_icge, ↓e_ifgt, ↓e_icgt, ↓e_ifle, ↓e_icle, ↓e_goto, ↓e_dup, ↓e_pop, ↓e_dup_x1, ↓e_dup2, ↓e_getf, ↓e_putI, ↓e_putJ, ↓e_putC, ↓e_putR, ↓e_iald, ↓e_zald, ↓e_cald, ↓e_lald, ↓e_dald, ↓e_iast, ↓e_zast, ↓e_cast, ↓e_last, ↓e_dast, ↓e_aald, ↓e_alen, ↓e_throw, ↓e_iret, ↓e_zret, ↓e_cret, ↓e_aret, ↓e_lret, ↓e_fret, ↓e_dret, ↓e_vret, ↓e_new, ↓e_newarr, ↓e_pop1, ↓e_scald, ↓e_salen, ↓e_call, ↓e_callV, ↓e_callI, ↓e_call0, ↓e_callR, PI_e, PFl_e, PD_e, PR_e, PO_e, PHd_e, PA_e, PA_n, IX_e, IX_0, reduceIte, lget, lset, lclr, fget, ctake, cdrop, c1, Nat.reduceAdd, List.reverse_cons, List.reverse_nil, List.nil_append, List.cons_append, Option.toList_some, Option.toList_none, List.length_cons, List.length_nil, true_and, and_true, true_or, or_true, Nat.reduceLeDiff, Nat.reduceLT, Nat.zero_le, List.append_nil]) | refine ⟨_, rfl, by omega, by omega, ?_⟩ | (refine And.intro ?_ ?_; focus (first | exact b2i_01 _ | assumption | decide | (simp; done))))
    · simp only [noPlace, h1, h2, Bool.and_true, Bool.not_true] at hq
      repeat (first | (refine hq _ ?_; exact hM) | (refine i_Mo_chunksNow_ hM fun f hM => ?_) | (refine j_Mo_isIn_ (b := true) ?_ ?_; (focus with_reducible assumption)) | (refine j_Mo_isIn_ (b := false) ?_ ?_; (focus with_reducible assumption)) | (refine i_Mo_isIn_ ?_) | refine j_Mo_isThrown (b := true) hM rfl fun f hM => ?_ | refine j_Mo_isThrown (b := false) hM rfl fun f hM => ?_ | (refine run _ _ (i_Mo_isNoPlace g) [(), (), (), ()] rfl (is_Mo_isNoPlace g) _ _ _ _ _ ?_; (try simp only [Option.toList_some, Option.toList_none, List.cons_append, List.nil_append, List.append_nil]); simp -dsimp (disch := omega) only [thr_n, wdC_n, wrC_n, tchC_n, wpF_0, ↓hobj_c hM.obj, mf_len, eq_self, nI_dec, ixE, nI_4m, nI_16m, nI_10m, nI_2m, nI_add, nI_1, nI_p2, nI_p3, nI_pred, c3_n, c3_s, c3_i, upd_s, upd_n, rowU_n, rowU_ge, true_imp_iff, false_imp_iff, not_true_eq_false, not_false_eq_true, b2i_t, b2i_f, i32_10, i32_00, i32_11, ite_true_I, false_and, and_false, true_and, and_true, or_true, true_or, false_or, or_false, w_Mo_isNoPlace_0, w_Mo_isNoPlace_7, w_Mo_isNoPlace_12, w_Mo_isNoPlace_21, w_Mo_isNoPlace_24, w_Mo_isNoPlace_28, w_Mo_isNoPlace_29, w_Mo_isNoPlace_33, ↓b_Mo_isNoPlace_0, ↓b_Mo_isNoPlace_7, ↓b_Mo_isNoPlace_12, ↓b_Mo_isNoPlace_21, ↓b_Mo_isNoPlace_24, ↓b_Mo_isNoPlace_28, ↓b_Mo_isNoPlace_29, ↓b_Mo_isNoPlace_33, ↓wpL_n, ↓wpL_c, ↓e_iadd, ↓e_isub, ↓e_imul, ↓e_iand, ↓e_ior, ↓e_ixor, ↓e_ishl, ↓e_ishr, ↓e_iushr, ↓e_idiv, ↓e_irem, ↓e_ineg, ↓e_ladd, ↓e_lcmp, ↓e_i2l, ↓e_i2c, ↓e_i2d, ↓e_i2f, ↓e_l2f, ↓e_f2d, ↓e_fdiv, ↓e_ddiv, ↓e_dcmp_l, ↓e_fcmp_l, ↓e_dcmp_g, ↓e_fcmp_g, ↓e_push, ↓e_iload, ↓e_fload, ↓e_dload, ↓e_aload, ↓e_istore, ↓e_fstore, ↓e_astore, ↓e_iinc, ↓e_ifeq, ↓e_iceq, ↓e_ifne, ↓e_icne, ↓e_iflt, ↓e_iclt, ↓e_ifge, ↓e_icge, ↓e_ifgt, ↓e_icgt, ↓e_ifle, ↓e_icle, ↓e_goto, ↓e_dup, ↓e_pop, ↓e_dup_x1, ↓e_dup2, ↓e_getf, ↓e_putI, ↓e_putJ, ↓e_putC, ↓e_putR, ↓e_iald, ↓e_zald, ↓e_cald, ↓e_lald, ↓e_dald, ↓e_iast, ↓e_zast, ↓e_cast, ↓e_last, ↓e_dast, ↓e_aald, ↓e_alen, ↓e_throw, ↓e_iret, ↓e_zret, ↓e_cret, ↓e_aret, ↓e_lret, ↓e_fret, ↓e_dret, ↓e_vret, ↓e_new, ↓e_newarr, ↓e_pop1, ↓e_scald, ↓e_salen, ↓e_call, ↓e_callV, ↓e_callI, ↓e_call0, ↓e_callR, PI_e, PFl_e, PD_e, PR_e, PO_e, PHd_e, PA_e, PA_n, IX_e, IX_0, reduceIte, lget, lset, lclr, fget, ctake, cdrop, c1, Nat.reduceAdd, List.reverse_cons, List.reverse_nil, List.nil_append, List.cons_append, Option.toList_some, Option.toList_none, List.length_cons, List.length_nil, true_and, and_true, true_or, or_true, Nat.reduceLeDiff, Nat.reduceLT, Nat.zero_le, List.append_nil]) | refine ⟨_, rfl, by omega, by omega, ?_⟩ | (refine And.intro ?_ ?_; focus (first | exact b2i_01 _ | assumption | decide | (simp; done))))
theorem noPlace_f {cm : CM} {k c : Int32} (hb : Nb (cm 0 0 0) 160) (h : noPlace cm k c = false) : ∃ a b, a < 10 ∧ nI a < chN cm ∧ b < 4 ∧ k = nI a ∧ c = nI b := by
  obtain ⟨n, hn, e⟩ := hb
  rw [noPlace, chN_nI hn e, Bool.not_eq_false', Bool.and_eq_true] at h
  obtain ⟨a, ha, rfl⟩ := (inR_nI (by omega)).mp h.1
  obtain ⟨b, hb, rfl⟩ := (inR_nI (m := 4) (by omega)).mp h.2
  exact ⟨a, b, by omega, by rw [chN_nI hn e]; exact nI_lt (by omega) (by omega), by omega, rfl, rfl⟩
def noChunk (cm : CM) (k : Int32) : Bool := !inR k 0 (chN cm - 1)
def T_Mo_isNoChunk : Spec2 := fun as f Q _ => ∃ (f0 : AH) (ad : Nat → Nat) (cm : CM) (cl : CL) (k : Int32), as = [.ref (ad 0), .int k] ∧ MR f0 f ad cm cl ∧ ∀ f', MR f0 f' ad (thr cm (noChunk cm k) 1) (cl) → Q (some (.int (b2i (noChunk cm k)))) f'
theorem i_Mo_isNoChunk_ {f0 : AH} {ad : Nat → Nat} {cm : CM} {cl : CL} {k : Int32} {f : AH} {Q : Option Value → AH → Prop} {X : String → AH → Prop} (hM : MR f0 f ad cm cl) (h : ∀ f', MR f0 f' ad (thr cm (noChunk cm k) 1) (cl) → Q (some (.int (b2i (noChunk cm k)))) f') : T_Mo_isNoChunk [.ref (ad 0), .int k] f Q X := ⟨f0, ad, cm, cl, k, rfl, hM, h⟩
theorem j_Mo_isNoChunk_ {f0 : AH} {ad : Nat → Nat} {cm : CM} {cl : CL} {k : Int32} {b : Bool} {f : AH} {Q : Option Value → AH → Prop} {X : String → AH → Prop} (hM : MR f0 f ad cm cl) (hb : (noChunk cm k) = b) (h : ∀ f', MR f0 f' ad (thr cm b 1) (cl) → Q (some (.int (b2i b))) f') : T_Mo_isNoChunk [.ref (ad 0), .int k] f Q X := by subst hb; exact i_Mo_isNoChunk_ hM h
abbrev m_Mo_isNoChunk (g : GG) (l : Launch) : MI := (RX9, cX9_isNoChunk, 2, (some .boolean), [], false, 2, g, l)
def b_Mo_isNoChunk_0 (g : GG) : Blk := [(1, o_aload 0), (1, o_iload 1), (1, o_push (.int 0)), (1, o_aload 0), (3, o_callR (o_call0 T_Mo_chunksNow 1) 10 1)]
def b_Mo_isNoChunk_7 (g : GG) : Blk := [(1, o_push (.int 1)), (1, o_isub), (3, o_call0 T_Mo_isIn 3)]
def b_Mo_isNoChunk_12 (g : GG) : Blk := [(3, o_ifne 19), (1, o_push (.int 1)), (3, o_goto 20)]
def b_Mo_isNoChunk_19 (g : GG) : Blk := [(1, o_push (.int 0))]
def b_Mo_isNoChunk_20 (g : GG) : Blk := [(1, o_push (.int 1)), (3, o_callR (o_call0 T_Mo_isThrown 3) 10 3)]
def b_Mo_isNoChunk_24 (g : GG) : Blk := [(1, o_zret)]
set_option maxRecDepth 8000 in
theorem okb_Mo_isNoChunk_0 (g : GG) (l : Launch) (hst : l.stackTraces = false) : BlkOk (m_Mo_isNoChunk g l) 0 (b_Mo_isNoChunk_0 g) := 
  ⟨ok_aload_n (by decide +kernel : decode cX9_isNoChunk 0 = .ok (.aload_n 0, 1)) rfl,
  ⟨ok_iload_n (by decide +kernel : decode cX9_isNoChunk 1 = .ok (.iload_n 1, 1)) rfl,
  ⟨ok_iconst (by decide) (by decide +kernel : decode cX9_isNoChunk 2 = .ok (.iconst 0, 1)),
  ⟨ok_aload_n (by decide +kernel : decode cX9_isNoChunk 3 = .ok (.aload_n 0, 1)) rfl,
  ⟨(ok_callV (k := 0) cls_10 (s_Mo_chunksNow g l hst) (show 1 < 2 from by decide) (Nat.le_of_ble_eq_true rfl) rfl rfl tw_1482 tw_1484 ts_50 tw_9 tw_1485 ⟨by decide, by decide, by decide⟩ (by decide +kernel : decode cX9_isNoChunk 4 = .ok (.invokevirtual 189, 3))).mono callR0_of, trivial⟩⟩⟩⟩⟩
set_option maxRecDepth 8000 in
theorem okb_Mo_isNoChunk_7 (g : GG) (l : Launch) (hst : l.stackTraces = false) : BlkOk (m_Mo_isNoChunk g l) 7 (b_Mo_isNoChunk_7 g) := 
  ⟨ok_iconst (by decide) (by decide +kernel : decode cX9_isNoChunk 7 = .ok (.iconst 1, 1)),
  ⟨ok_isub (by decide +kernel : decode cX9_isNoChunk 8 = .ok (.isub, 1)),
  ⟨(ok_callS (k := 3) (s_Mo_isIn g l hst) (show 1 < 2 from by decide) (Nat.le_of_ble_eq_true rfl) rfl rfl tw_1424 tw_1425 tw_9 tw_1426 ⟨by decide, by decide, by decide⟩ (by decide +kernel : decode cX9_isNoChunk 9 = .ok (.invokestatic 146, 3))).mono call0_of, trivial⟩⟩⟩
set_option maxRecDepth 8000 in
theorem okb_Mo_isNoChunk_12 (g : GG) (l : Launch) (hst : l.stackTraces = false) : BlkOk (m_Mo_isNoChunk g l) 12 (b_Mo_isNoChunk_12 g) := 
  ⟨ok_ifne (by decide) (by decide +kernel : decode cX9_isNoChunk 12 = .ok (.ifCond .ne 7, 3)),
  ⟨ok_iconst (by decide) (by decide +kernel : decode cX9_isNoChunk 15 = .ok (.iconst 1, 1)),
  ⟨ok_goto (by decide) (by decide +kernel : decode cX9_isNoChunk 16 = .ok (.goto 4, 3)), trivial⟩⟩⟩
set_option maxRecDepth 8000 in
theorem okb_Mo_isNoChunk_19 (g : GG) (l : Launch) (hst : l.stackTraces = false) : BlkOk (m_Mo_isNoChunk g l) 19 (b_Mo_isNoChunk_19 g) := 
  ⟨ok_iconst (by decide) (by decide +kernel : decode cX9_isNoChunk 19 = .ok (.iconst 0, 1)), trivial⟩
set_option maxRecDepth 8000 in
theorem okb_Mo_isNoChunk_20 (g : GG) (l : Launch) (hst : l.stackTraces = false) : BlkOk (m_Mo_isNoChunk g l) 20 (b_Mo_isNoChunk_20 g) := 
  ⟨ok_iconst (by decide) (by decide +kernel : decode cX9_isNoChunk 20 = .ok (.iconst 1, 1)),
  ⟨(ok_callV (k := 2) cls_10 (s_Mo_isThrown g l hst) (show 1 < 2 from by decide) (Nat.le_of_ble_eq_true rfl) rfl rfl tw_1427 tw_1429 ts_43 tw_9 tw_1430 ⟨by decide, by decide, by decide⟩ (by decide +kernel : decode cX9_isNoChunk 21 = .ok (.invokevirtual 149, 3))).mono callR0_of, trivial⟩⟩
set_option maxRecDepth 8000 in
theorem okb_Mo_isNoChunk_24 (g : GG) (l : Launch) (hst : l.stackTraces = false) : BlkOk (m_Mo_isNoChunk g l) 24 (b_Mo_isNoChunk_24 g) := 
  ⟨ok_zret rfl (by decide +kernel : decode cX9_isNoChunk 24 = .ok (.ireturn, 1)), trivial⟩
def k_Mo_isNoChunk (g : GG) : List (Nat × Blk) := [(0, b_Mo_isNoChunk_0 g), (7, b_Mo_isNoChunk_7 g), (12, b_Mo_isNoChunk_12 g), (19, b_Mo_isNoChunk_19 g), (20, b_Mo_isNoChunk_20 g), (24, b_Mo_isNoChunk_24 g)]
theorem ok_Mo_isNoChunk (g : GG) (l : Launch) (hst : l.stackTraces = false) : ∀ b ∈ k_Mo_isNoChunk g, BlkOk (m_Mo_isNoChunk g l) b.1 b.2 := List.forall_mem_cons.mpr ⟨okb_Mo_isNoChunk_0 g l hst, List.forall_mem_cons.mpr ⟨okb_Mo_isNoChunk_7 g l hst, List.forall_mem_cons.mpr ⟨okb_Mo_isNoChunk_12 g l hst, List.forall_mem_cons.mpr ⟨okb_Mo_isNoChunk_19 g l hst, List.forall_mem_cons.mpr ⟨okb_Mo_isNoChunk_20 g l hst, List.forall_mem_cons.mpr ⟨okb_Mo_isNoChunk_24 g l hst, fun _ h => by cases h⟩⟩⟩⟩⟩⟩
def i_Mo_isNoChunk (g : GG) : List (Nat × Blk) := [(19, b_Mo_isNoChunk_19 g), (20, b_Mo_isNoChunk_20 g)]
theorem is_Mo_isNoChunk (g : GG) : ∀ x ∈ i_Mo_isNoChunk g, x ∈ k_Mo_isNoChunk g := sub_at [3, 4] rfl
theorem w_Mo_isNoChunk_0 (g : GG) (u : Unit) (n : List Unit) (B : Bx) (Q : Option Value → AH → Prop) (X : String → AH → Prop) (lv : LV) (st : List Value) (f : AH) (bc bs : Nat) : wpF (i_Mo_isNoChunk g) (u :: n) B Q X 0 lv st f bc bs = B 0 lv st f bc bs := (rfl)
theorem w_Mo_isNoChunk_7 (g : GG) (u : Unit) (n : List Unit) (B : Bx) (Q : Option Value → AH → Prop) (X : String → AH → Prop) (lv : LV) (st : List Value) (f : AH) (bc bs : Nat) : wpF (i_Mo_isNoChunk g) (u :: n) B Q X 7 lv st f bc bs = B 7 lv st f bc bs := (rfl)
theorem w_Mo_isNoChunk_12 (g : GG) (u : Unit) (n : List Unit) (B : Bx) (Q : Option Value → AH → Prop) (X : String → AH → Prop) (lv : LV) (st : List Value) (f : AH) (bc bs : Nat) : wpF (i_Mo_isNoChunk g) (u :: n) B Q X 12 lv st f bc bs = B 12 lv st f bc bs := (rfl)
theorem w_Mo_isNoChunk_19 (g : GG) (u : Unit) (n : List Unit) (B : Bx) (Q : Option Value → AH → Prop) (X : String → AH → Prop) (lv : LV) (st : List Value) (f : AH) (bc bs : Nat) : wpF (i_Mo_isNoChunk g) (u :: n) B Q X 19 lv st f bc bs = wpL (b_Mo_isNoChunk_19 g) 19 lv st f bc bs (wpF (i_Mo_isNoChunk g) n B Q X) Q X := (rfl)
theorem w_Mo_isNoChunk_20 (g : GG) (u : Unit) (n : List Unit) (B : Bx) (Q : Option Value → AH → Prop) (X : String → AH → Prop) (lv : LV) (st : List Value) (f : AH) (bc bs : Nat) : wpF (i_Mo_isNoChunk g) (u :: n) B Q X 20 lv st f bc bs = wpL (b_Mo_isNoChunk_20 g) 20 lv st f bc bs (wpF (i_Mo_isNoChunk g) n B Q X) Q X := (rfl)
theorem w_Mo_isNoChunk_24 (g : GG) (u : Unit) (n : List Unit) (B : Bx) (Q : Option Value → AH → Prop) (X : String → AH → Prop) (lv : LV) (st : List Value) (f : AH) (bc bs : Nat) : wpF (i_Mo_isNoChunk g) (u :: n) B Q X 24 lv st f bc bs = B 24 lv st f bc bs := (rfl)
set_option maxRecDepth 4000 in
set_option maxHeartbeats 4000000 in
theorem s_Mo_isNoChunk (g : GG) (l : Launch) (hst : l.stackTraces = false) : Snd yX9_isNoChunk (m_Mo_isNoChunk g l) 0 0 T_Mo_isNoChunk := by
  refine snd_of (plainFor_of_name (by decide)) rfl (fun h => by first | rfl | cases h) rfl hst (k_Mo_isNoChunk g) (ok_Mo_isNoChunk g l hst) ?_
  rintro as f Q X ⟨f0, ad, cm, cl, k, rfl, hM, hq⟩
  refine ⟨[some (.ref (ad 0)), some (.int k)], rfl, Nat.le_of_ble_eq_true rfl, fun B run => ?_⟩
  cases h1 : inR k 0 (chN cm - 1) <;> simp only [noChunk, h1, Bool.not_false, Bool.not_true] at hq
  all_goals repeat (first | (refine hq _ ?_; exact hM) | (refine i_Mo_chunksNow_ hM fun f hM => ?_) | (refine j_Mo_isIn_ (b := true) ?_ ?_; (focus with_reducible assumption)) | (refine j_Mo_isIn_ (b := false) ?_ ?_; (focus with_reducible assumption)) | (refine i_Mo_isIn_ ?_) | refine j_Mo_isThrown (b := true) hM rfl fun f hM => ?_ | refine j_Mo_isThrown (b := false) hM rfl fun f hM => ?_ | (refine run _ _ (i_Mo_isNoChunk g) [(), (), ()] rfl (is_Mo_isNoChunk g) _ _ _ _ _ ?_; (try simp only [Option.toList_some, Option.toList_none, List.cons_append, List.nil_append, List.append_nil]); simp -dsimp (disch := omega) only [thr_n, wdC_n, wrC_n, tchC_n, wpF_0, ↓hobj_c hM.obj, mf_len, eq_self, nI_dec, ixE, nI_4m, nI_16m, nI_10m, nI_2m, nI_add, nI_1, nI_p2, nI_p3, nI_pred, c3_n, c3_s, c3_i, upd_s, upd_n, rowU_n, rowU_ge, true_imp_iff, false_imp_iff, not_true_eq_false, not_false_eq_true, b2i_t, b2i_f, i32_10, i32_00, i32_11, ite_true_I, false_and, and_false, true_and, and_true, or_true, true_or, false_or, or_false, w_Mo_isNoChunk_0, w_Mo_isNoChunk_7, w_Mo_isNoChunk_12, w_Mo_isNoChunk_19, w_Mo_isNoChunk_20, w_Mo_isNoChunk_24, ↓b_Mo_isNoChunk_0, ↓b_Mo_isNoChunk_7, ↓b_Mo_isNoChunk_12, ↓b_Mo_isNoChunk_19, ↓b_Mo_isNoChunk_20, ↓b_Mo_isNoChunk_24, ↓wpL_n, ↓wpL_c, ↓e_iadd, ↓e_isub, ↓e_imul, ↓e_iand, ↓e_ior, ↓e_ixor, ↓e_ishl, ↓e_ishr, ↓e_iushr, ↓e_idiv, ↓e_irem, ↓e_ineg, ↓e_ladd, ↓e_lcmp, ↓e_i2l, ↓e_i2c, ↓e_i2d, ↓e_i2f, ↓e_l2f, ↓e_f2d, ↓e_fdiv, ↓e_ddiv, ↓e_dcmp_l, ↓e_fcmp_l, ↓e_dcmp_g, ↓e_fcmp_g, ↓e_push, ↓e_iload, ↓e_fload, ↓e_dload, ↓e_aload, ↓e_istore, ↓e_fstore, ↓e_astore, ↓e_iinc, ↓e_ifeq, ↓e_iceq, ↓e_ifne, ↓e_icne, ↓e_iflt, ↓e_iclt, ↓e_ifge, ↓e_icge, ↓e_ifgt, ↓e_icgt, ↓e_ifle, ↓e_icle, ↓e_goto, ↓e_dup, ↓e_pop, ↓e_dup_x1, ↓e_dup2, ↓e_getf, ↓e_putI, ↓e_putJ, ↓e_putC, ↓e_putR, ↓e_iald, ↓e_zald, ↓e_cald, ↓e_lald, ↓e_dald, ↓e_iast, ↓e_zast, ↓e_cast, ↓e_last, ↓e_dast, ↓e_aald, ↓e_alen, ↓e_throw, ↓e_iret, ↓e_zret, ↓e_cret, ↓e_aret, ↓e_lret, ↓e_fret, ↓e_dret, ↓e_vret, ↓e_new, ↓e_newarr, ↓e_pop1, ↓e_scald, ↓e_salen, ↓e_call, ↓e_callV, ↓e_callI, ↓e_call0, ↓e_callR, PI_e, PFl_e, PD_e, PR_e, PO_e, PHd_e, PA_e, PA_n, IX_e, IX_0, reduceIte, lget, lset, lclr, fget, ctake, cdrop, c1, Nat.reduceAdd, List.reverse_cons, List.reverse_nil, List.nil_append, List.cons_append, Option.toList_some, Option.toList_none, List.length_cons, List.length_nil, true_and, and_true, true_or, or_true, Nat.reduceLeDiff, Nat.reduceLT, Nat.zero_le, List.append_nil]) | refine ⟨_, rfl, by omega, by omega, ?_⟩ | (refine And.intro ?_ ?_; focus (first | exact b2i_01 _ | assumption | decide | (simp; done))))
theorem noChunk_f {cm : CM} {k : Int32} (hb : Nb (cm 0 0 0) 160) (h : noChunk cm k = false) : ∃ a, a < 10 ∧ nI a < chN cm ∧ k = nI a := by
  obtain ⟨n, hn, e⟩ := hb
  rw [noChunk, chN_nI hn e, Bool.not_eq_false'] at h
  obtain ⟨a, ha, rfl⟩ := (inR_nI (by omega)).mp h
  exact ⟨a, by omega, by rw [chN_nI hn e]; exact nI_lt (by omega) (by omega), rfl⟩
def noFil (cm : CM) (k : Int32) : Bool := !inR k 0 (cm 3 0 0 - 1)
def T_Mo_isNoFilter : Spec2 := fun as f Q _ => ∃ (f0 : AH) (ad : Nat → Nat) (cm : CM) (cl : CL) (k : Int32), as = [.ref (ad 0), .int k] ∧ MR f0 f ad cm cl ∧ ∀ f', MR f0 f' ad (thr cm (noFil cm k) 1) (cl) → Q (some (.int (b2i (noFil cm k)))) f'
theorem i_Mo_isNoFilter_ {f0 : AH} {ad : Nat → Nat} {cm : CM} {cl : CL} {k : Int32} {f : AH} {Q : Option Value → AH → Prop} {X : String → AH → Prop} (hM : MR f0 f ad cm cl) (h : ∀ f', MR f0 f' ad (thr cm (noFil cm k) 1) (cl) → Q (some (.int (b2i (noFil cm k)))) f') : T_Mo_isNoFilter [.ref (ad 0), .int k] f Q X := ⟨f0, ad, cm, cl, k, rfl, hM, h⟩
theorem j_Mo_isNoFilter_ {f0 : AH} {ad : Nat → Nat} {cm : CM} {cl : CL} {k : Int32} {b : Bool} {f : AH} {Q : Option Value → AH → Prop} {X : String → AH → Prop} (hM : MR f0 f ad cm cl) (hb : (noFil cm k) = b) (h : ∀ f', MR f0 f' ad (thr cm b 1) (cl) → Q (some (.int (b2i b))) f') : T_Mo_isNoFilter [.ref (ad 0), .int k] f Q X := by subst hb; exact i_Mo_isNoFilter_ hM h
abbrev m_Mo_isNoFilter (g : GG) (l : Launch) : MI := (RX9, cX9_isNoFilter, 2, (some .boolean), [], false, 2, g, l)
def b_Mo_isNoFilter_0 (g : GG) : Blk := [(1, o_aload 0), (1, o_iload 1), (1, o_push (.int 0)), (1, o_aload 0), (3, o_getf 10 3), (1, o_push (.int 1)), (1, o_isub), (3, o_call0 T_Mo_isIn 3)]
def b_Mo_isNoFilter_12 (g : GG) : Blk := [(3, o_ifne 19), (1, o_push (.int 1)), (3, o_goto 20)]
def b_Mo_isNoFilter_19 (g : GG) : Blk := [(1, o_push (.int 0))]
def b_Mo_isNoFilter_20 (g : GG) : Blk := [(1, o_push (.int 1)), (3, o_callR (o_call0 T_Mo_isThrown 3) 10 3)]
def b_Mo_isNoFilter_24 (g : GG) : Blk := [(1, o_zret)]
set_option maxRecDepth 8000 in
theorem okb_Mo_isNoFilter_0 (g : GG) (l : Launch) (hst : l.stackTraces = false) : BlkOk (m_Mo_isNoFilter g l) 0 (b_Mo_isNoFilter_0 g) := 
  ⟨ok_aload_n (by decide +kernel : decode cX9_isNoFilter 0 = .ok (.aload_n 0, 1)) rfl,
  ⟨ok_iload_n (by decide +kernel : decode cX9_isNoFilter 1 = .ok (.iload_n 1, 1)) rfl,
  ⟨ok_iconst (by decide) (by decide +kernel : decode cX9_isNoFilter 2 = .ok (.iconst 0, 1)),
  ⟨ok_aload_n (by decide +kernel : decode cX9_isNoFilter 3 = .ok (.aload_n 0, 1)) rfl,
  ⟨ok_getf cls_10 (Nat.le_of_ble_eq_true rfl) tw_1261 rfl (by decide +kernel : decode cX9_isNoFilter 4 = .ok (.getfield 233, 3)),
  ⟨ok_iconst (by decide) (by decide +kernel : decode cX9_isNoFilter 7 = .ok (.iconst 1, 1)),
  ⟨ok_isub (by decide +kernel : decode cX9_isNoFilter 8 = .ok (.isub, 1)),
  ⟨(ok_callS (k := 3) (s_Mo_isIn g l hst) (show 1 < 2 from by decide) (Nat.le_of_ble_eq_true rfl) rfl rfl tw_1424 tw_1425 tw_9 tw_1426 ⟨by decide, by decide, by decide⟩ (by decide +kernel : decode cX9_isNoFilter 9 = .ok (.invokestatic 146, 3))).mono call0_of, trivial⟩⟩⟩⟩⟩⟩⟩⟩
set_option maxRecDepth 8000 in
theorem okb_Mo_isNoFilter_12 (g : GG) (l : Launch) (hst : l.stackTraces = false) : BlkOk (m_Mo_isNoFilter g l) 12 (b_Mo_isNoFilter_12 g) := 
  ⟨ok_ifne (by decide) (by decide +kernel : decode cX9_isNoFilter 12 = .ok (.ifCond .ne 7, 3)),
  ⟨ok_iconst (by decide) (by decide +kernel : decode cX9_isNoFilter 15 = .ok (.iconst 1, 1)),
  ⟨ok_goto (by decide) (by decide +kernel : decode cX9_isNoFilter 16 = .ok (.goto 4, 3)), trivial⟩⟩⟩
set_option maxRecDepth 8000 in
theorem okb_Mo_isNoFilter_19 (g : GG) (l : Launch) (hst : l.stackTraces = false) : BlkOk (m_Mo_isNoFilter g l) 19 (b_Mo_isNoFilter_19 g) := 
  ⟨ok_iconst (by decide) (by decide +kernel : decode cX9_isNoFilter 19 = .ok (.iconst 0, 1)), trivial⟩
set_option maxRecDepth 8000 in
theorem okb_Mo_isNoFilter_20 (g : GG) (l : Launch) (hst : l.stackTraces = false) : BlkOk (m_Mo_isNoFilter g l) 20 (b_Mo_isNoFilter_20 g) := 
  ⟨ok_iconst (by decide) (by decide +kernel : decode cX9_isNoFilter 20 = .ok (.iconst 1, 1)),
  ⟨(ok_callV (k := 2) cls_10 (s_Mo_isThrown g l hst) (show 1 < 2 from by decide) (Nat.le_of_ble_eq_true rfl) rfl rfl tw_1427 tw_1429 ts_43 tw_9 tw_1430 ⟨by decide, by decide, by decide⟩ (by decide +kernel : decode cX9_isNoFilter 21 = .ok (.invokevirtual 149, 3))).mono callR0_of, trivial⟩⟩
set_option maxRecDepth 8000 in
theorem okb_Mo_isNoFilter_24 (g : GG) (l : Launch) (hst : l.stackTraces = false) : BlkOk (m_Mo_isNoFilter g l) 24 (b_Mo_isNoFilter_24 g) := 
  ⟨ok_zret rfl (by decide +kernel : decode cX9_isNoFilter 24 = .ok (.ireturn, 1)), trivial⟩
def k_Mo_isNoFilter (g : GG) : List (Nat × Blk) := [(0, b_Mo_isNoFilter_0 g), (12, b_Mo_isNoFilter_12 g), (19, b_Mo_isNoFilter_19 g), (20, b_Mo_isNoFilter_20 g), (24, b_Mo_isNoFilter_24 g)]
theorem ok_Mo_isNoFilter (g : GG) (l : Launch) (hst : l.stackTraces = false) : ∀ b ∈ k_Mo_isNoFilter g, BlkOk (m_Mo_isNoFilter g l) b.1 b.2 := List.forall_mem_cons.mpr ⟨okb_Mo_isNoFilter_0 g l hst, List.forall_mem_cons.mpr ⟨okb_Mo_isNoFilter_12 g l hst, List.forall_mem_cons.mpr ⟨okb_Mo_isNoFilter_19 g l hst, List.forall_mem_cons.mpr ⟨okb_Mo_isNoFilter_20 g l hst, List.forall_mem_cons.mpr ⟨okb_Mo_isNoFilter_24 g l hst, fun _ h => by cases h⟩⟩⟩⟩⟩
def i_Mo_isNoFilter (g : GG) : List (Nat × Blk) := [(19, b_Mo_isNoFilter_19 g), (20, b_Mo_isNoFilter_20 g)]
theorem is_Mo_isNoFilter (g : GG) : ∀ x ∈ i_Mo_isNoFilter g, x ∈ k_Mo_isNoFilter g := sub_at [2, 3] rfl
theorem w_Mo_isNoFilter_0 (g : GG) (u : Unit) (n : List Unit) (B : Bx) (Q : Option Value → AH → Prop) (X : String → AH → Prop) (lv : LV) (st : List Value) (f : AH) (bc bs : Nat) : wpF (i_Mo_isNoFilter g) (u :: n) B Q X 0 lv st f bc bs = B 0 lv st f bc bs := (rfl)
theorem w_Mo_isNoFilter_12 (g : GG) (u : Unit) (n : List Unit) (B : Bx) (Q : Option Value → AH → Prop) (X : String → AH → Prop) (lv : LV) (st : List Value) (f : AH) (bc bs : Nat) : wpF (i_Mo_isNoFilter g) (u :: n) B Q X 12 lv st f bc bs = B 12 lv st f bc bs := (rfl)
theorem w_Mo_isNoFilter_19 (g : GG) (u : Unit) (n : List Unit) (B : Bx) (Q : Option Value → AH → Prop) (X : String → AH → Prop) (lv : LV) (st : List Value) (f : AH) (bc bs : Nat) : wpF (i_Mo_isNoFilter g) (u :: n) B Q X 19 lv st f bc bs = wpL (b_Mo_isNoFilter_19 g) 19 lv st f bc bs (wpF (i_Mo_isNoFilter g) n B Q X) Q X := (rfl)
theorem w_Mo_isNoFilter_20 (g : GG) (u : Unit) (n : List Unit) (B : Bx) (Q : Option Value → AH → Prop) (X : String → AH → Prop) (lv : LV) (st : List Value) (f : AH) (bc bs : Nat) : wpF (i_Mo_isNoFilter g) (u :: n) B Q X 20 lv st f bc bs = wpL (b_Mo_isNoFilter_20 g) 20 lv st f bc bs (wpF (i_Mo_isNoFilter g) n B Q X) Q X := (rfl)
theorem w_Mo_isNoFilter_24 (g : GG) (u : Unit) (n : List Unit) (B : Bx) (Q : Option Value → AH → Prop) (X : String → AH → Prop) (lv : LV) (st : List Value) (f : AH) (bc bs : Nat) : wpF (i_Mo_isNoFilter g) (u :: n) B Q X 24 lv st f bc bs = B 24 lv st f bc bs := (rfl)
set_option maxRecDepth 4000 in
set_option maxHeartbeats 4000000 in
theorem s_Mo_isNoFilter (g : GG) (l : Launch) (hst : l.stackTraces = false) : Snd yX9_isNoFilter (m_Mo_isNoFilter g l) 0 0 T_Mo_isNoFilter := by
  refine snd_of (plainFor_of_name (by decide)) rfl (fun h => by first | rfl | cases h) rfl hst (k_Mo_isNoFilter g) (ok_Mo_isNoFilter g l hst) ?_
  rintro as f Q X ⟨f0, ad, cm, cl, k, rfl, hM, hq⟩
  refine ⟨[some (.ref (ad 0)), some (.int k)], rfl, Nat.le_of_ble_eq_true rfl, fun B run => ?_⟩
  cases h1 : inR k 0 (cm 3 0 0 - 1) <;> simp only [noFil, h1, Bool.not_false, Bool.not_true] at hq
  all_goals repeat (first | (refine hq _ ?_; exact hM) | (refine j_Mo_isIn_ (b := true) ?_ ?_; (focus with_reducible assumption)) | (refine j_Mo_isIn_ (b := false) ?_ ?_; (focus with_reducible assumption)) | (refine i_Mo_isIn_ ?_) | refine j_Mo_isThrown (b := true) hM rfl fun f hM => ?_ | refine j_Mo_isThrown (b := false) hM rfl fun f hM => ?_ | (refine run _ _ (i_Mo_isNoFilter g) [(), (), ()] rfl (is_Mo_isNoFilter g) _ _ _ _ _ ?_; (try simp only [Option.toList_some, Option.toList_none, List.cons_append, List.nil_append, List.append_nil]); simp -dsimp (disch := omega) only [thr_n, wdC_n, wrC_n, tchC_n, wpF_0, ↓hobj_c hM.obj, mf_len, mf_3, eq_self, nI_dec, ixE, nI_4m, nI_16m, nI_10m, nI_2m, nI_add, nI_1, nI_p2, nI_p3, nI_pred, c3_n, c3_s, c3_i, upd_s, upd_n, rowU_n, rowU_ge, true_imp_iff, false_imp_iff, not_true_eq_false, not_false_eq_true, b2i_t, b2i_f, i32_10, i32_00, i32_11, ite_true_I, false_and, and_false, true_and, and_true, or_true, true_or, false_or, or_false, w_Mo_isNoFilter_0, w_Mo_isNoFilter_12, w_Mo_isNoFilter_19, w_Mo_isNoFilter_20, w_Mo_isNoFilter_24, ↓b_Mo_isNoFilter_0, ↓b_Mo_isNoFilter_12, ↓b_Mo_isNoFilter_19, ↓b_Mo_isNoFilter_20, ↓b_Mo_isNoFilter_24, ↓wpL_n, ↓wpL_c, ↓e_iadd, ↓e_isub, ↓e_imul, ↓e_iand, ↓e_ior, ↓e_ixor, ↓e_ishl, ↓e_ishr, ↓e_iushr, ↓e_idiv, ↓e_irem, ↓e_ineg, ↓e_ladd, ↓e_lcmp, ↓e_i2l, ↓e_i2c, ↓e_i2d, ↓e_i2f, ↓e_l2f, ↓e_f2d, ↓e_fdiv, ↓e_ddiv, ↓e_dcmp_l, ↓e_fcmp_l, ↓e_dcmp_g, ↓e_fcmp_g, ↓e_push, ↓e_iload, ↓e_fload, ↓e_dload, ↓e_aload, ↓e_istore, ↓e_fstore, ↓e_astore, ↓e_iinc, ↓e_ifeq, ↓e_iceq, ↓e_ifne, ↓e_icne, ↓e_iflt, ↓e_iclt, ↓e_ifge, ↓e_icge, ↓e_ifgt, ↓e_icgt, ↓e_ifle, ↓e_icle, ↓e_goto, ↓e_dup, ↓e_pop, ↓e_dup_x1, ↓e_dup2, ↓e_getf, ↓e_putI, ↓e_putJ, ↓e_putC, ↓e_putR, ↓e_iald, ↓e_zald, ↓e_cald, ↓e_lald, ↓e_dald, ↓e_iast, ↓e_zast, ↓e_cast, ↓e_last, ↓e_dast, ↓e_aald, ↓e_alen, ↓e_throw, ↓e_iret, ↓e_zret, ↓e_cret, ↓e_aret, ↓e_lret, ↓e_fret, ↓e_dret, ↓e_vret, ↓e_new, ↓e_newarr, ↓e_pop1, ↓e_scald, ↓e_salen, ↓e_call, ↓e_callV, ↓e_callI, ↓e_call0, ↓e_callR, PI_e, PFl_e, PD_e, PR_e, PO_e, PHd_e, PA_e, PA_n, IX_e, IX_0, reduceIte, lget, lset, lclr, fget, ctake, cdrop, c1, Nat.reduceAdd, List.reverse_cons, List.reverse_nil, List.nil_append, List.cons_append, Option.toList_some, Option.toList_none, List.length_cons, List.length_nil, true_and, and_true, true_or, or_true, Nat.reduceLeDiff, Nat.reduceLT, Nat.zero_le, List.append_nil]) | refine ⟨_, rfl, by omega, by omega, ?_⟩ | (refine And.intro ?_ ?_; focus (first | exact b2i_01 _ | assumption | decide | (simp; done))))
theorem noFil_f {cm : CM} {k : Int32} (hb : Nb (cm 3 0 0) 30) (h : noFil cm k = false) : ∃ a, a < nn (cm 3 0 0) ∧ a < 30 ∧ k = nI a := by
  obtain ⟨n, hn, e⟩ := hb
  rw [noFil, e, Bool.not_eq_false'] at h
  obtain ⟨a, ha, rfl⟩ := (inR_nI (by omega)).mp h
  exact ⟨a, by rw [e, nn_nI (by omega)]; exact ha, by omega, rfl⟩
def noScan (cm : CM) (k : Int32) : Bool := !inR k 0 (cm 4 0 0 - 1)
def T_Mo_isNoScan : Spec2 := fun as f Q _ => ∃ (f0 : AH) (ad : Nat → Nat) (cm : CM) (cl : CL) (k : Int32), as = [.ref (ad 0), .int k] ∧ MR f0 f ad cm cl ∧ ∀ f', MR f0 f' ad (thr cm (noScan cm k) 1) (cl) → Q (some (.int (b2i (noScan cm k)))) f'
theorem i_Mo_isNoScan_ {f0 : AH} {ad : Nat → Nat} {cm : CM} {cl : CL} {k : Int32} {f : AH} {Q : Option Value → AH → Prop} {X : String → AH → Prop} (hM : MR f0 f ad cm cl) (h : ∀ f', MR f0 f' ad (thr cm (noScan cm k) 1) (cl) → Q (some (.int (b2i (noScan cm k)))) f') : T_Mo_isNoScan [.ref (ad 0), .int k] f Q X := ⟨f0, ad, cm, cl, k, rfl, hM, h⟩
theorem j_Mo_isNoScan_ {f0 : AH} {ad : Nat → Nat} {cm : CM} {cl : CL} {k : Int32} {b : Bool} {f : AH} {Q : Option Value → AH → Prop} {X : String → AH → Prop} (hM : MR f0 f ad cm cl) (hb : (noScan cm k) = b) (h : ∀ f', MR f0 f' ad (thr cm b 1) (cl) → Q (some (.int (b2i b))) f') : T_Mo_isNoScan [.ref (ad 0), .int k] f Q X := by subst hb; exact i_Mo_isNoScan_ hM h
abbrev m_Mo_isNoScan (g : GG) (l : Launch) : MI := (RX9, cX9_isNoScan, 2, (some .boolean), [], false, 2, g, l)
def b_Mo_isNoScan_0 (g : GG) : Blk := [(1, o_aload 0), (1, o_iload 1), (1, o_push (.int 0)), (1, o_aload 0), (3, o_getf 10 4), (1, o_push (.int 1)), (1, o_isub), (3, o_call0 T_Mo_isIn 3)]
def b_Mo_isNoScan_12 (g : GG) : Blk := [(3, o_ifne 19), (1, o_push (.int 1)), (3, o_goto 20)]
def b_Mo_isNoScan_19 (g : GG) : Blk := [(1, o_push (.int 0))]
def b_Mo_isNoScan_20 (g : GG) : Blk := [(1, o_push (.int 1)), (3, o_callR (o_call0 T_Mo_isThrown 3) 10 3)]
def b_Mo_isNoScan_24 (g : GG) : Blk := [(1, o_zret)]
set_option maxRecDepth 8000 in
theorem okb_Mo_isNoScan_0 (g : GG) (l : Launch) (hst : l.stackTraces = false) : BlkOk (m_Mo_isNoScan g l) 0 (b_Mo_isNoScan_0 g) := 
  ⟨ok_aload_n (by decide +kernel : decode cX9_isNoScan 0 = .ok (.aload_n 0, 1)) rfl,
  ⟨ok_iload_n (by decide +kernel : decode cX9_isNoScan 1 = .ok (.iload_n 1, 1)) rfl,
  ⟨ok_iconst (by decide) (by decide +kernel : decode cX9_isNoScan 2 = .ok (.iconst 0, 1)),
  ⟨ok_aload_n (by decide +kernel : decode cX9_isNoScan 3 = .ok (.aload_n 0, 1)) rfl,
  ⟨ok_getf cls_10 (Nat.le_of_ble_eq_true rfl) tw_1262 rfl (by decide +kernel : decode cX9_isNoScan 4 = .ok (.getfield 227, 3)),
  ⟨ok_iconst (by decide) (by decide +kernel : decode cX9_isNoScan 7 = .ok (.iconst 1, 1)),
  ⟨ok_isub (by decide +kernel : decode cX9_isNoScan 8 = .ok (.isub, 1)),
  ⟨(ok_callS (k := 3) (s_Mo_isIn g l hst) (show 1 < 2 from by decide) (Nat.le_of_ble_eq_true rfl) rfl rfl tw_1424 tw_1425 tw_9 tw_1426 ⟨by decide, by decide, by decide⟩ (by decide +kernel : decode cX9_isNoScan 9 = .ok (.invokestatic 146, 3))).mono call0_of, trivial⟩⟩⟩⟩⟩⟩⟩⟩
set_option maxRecDepth 8000 in
theorem okb_Mo_isNoScan_12 (g : GG) (l : Launch) (hst : l.stackTraces = false) : BlkOk (m_Mo_isNoScan g l) 12 (b_Mo_isNoScan_12 g) := 
  ⟨ok_ifne (by decide) (by decide +kernel : decode cX9_isNoScan 12 = .ok (.ifCond .ne 7, 3)),
  ⟨ok_iconst (by decide) (by decide +kernel : decode cX9_isNoScan 15 = .ok (.iconst 1, 1)),
  ⟨ok_goto (by decide) (by decide +kernel : decode cX9_isNoScan 16 = .ok (.goto 4, 3)), trivial⟩⟩⟩
set_option maxRecDepth 8000 in
theorem okb_Mo_isNoScan_19 (g : GG) (l : Launch) (hst : l.stackTraces = false) : BlkOk (m_Mo_isNoScan g l) 19 (b_Mo_isNoScan_19 g) := 
  ⟨ok_iconst (by decide) (by decide +kernel : decode cX9_isNoScan 19 = .ok (.iconst 0, 1)), trivial⟩
set_option maxRecDepth 8000 in
theorem okb_Mo_isNoScan_20 (g : GG) (l : Launch) (hst : l.stackTraces = false) : BlkOk (m_Mo_isNoScan g l) 20 (b_Mo_isNoScan_20 g) := 
  ⟨ok_iconst (by decide) (by decide +kernel : decode cX9_isNoScan 20 = .ok (.iconst 1, 1)),
  ⟨(ok_callV (k := 2) cls_10 (s_Mo_isThrown g l hst) (show 1 < 2 from by decide) (Nat.le_of_ble_eq_true rfl) rfl rfl tw_1427 tw_1429 ts_43 tw_9 tw_1430 ⟨by decide, by decide, by decide⟩ (by decide +kernel : decode cX9_isNoScan 21 = .ok (.invokevirtual 149, 3))).mono callR0_of, trivial⟩⟩
set_option maxRecDepth 8000 in
theorem okb_Mo_isNoScan_24 (g : GG) (l : Launch) (hst : l.stackTraces = false) : BlkOk (m_Mo_isNoScan g l) 24 (b_Mo_isNoScan_24 g) := 
  ⟨ok_zret rfl (by decide +kernel : decode cX9_isNoScan 24 = .ok (.ireturn, 1)), trivial⟩
def k_Mo_isNoScan (g : GG) : List (Nat × Blk) := [(0, b_Mo_isNoScan_0 g), (12, b_Mo_isNoScan_12 g), (19, b_Mo_isNoScan_19 g), (20, b_Mo_isNoScan_20 g), (24, b_Mo_isNoScan_24 g)]
theorem ok_Mo_isNoScan (g : GG) (l : Launch) (hst : l.stackTraces = false) : ∀ b ∈ k_Mo_isNoScan g, BlkOk (m_Mo_isNoScan g l) b.1 b.2 := List.forall_mem_cons.mpr ⟨okb_Mo_isNoScan_0 g l hst, List.forall_mem_cons.mpr ⟨okb_Mo_isNoScan_12 g l hst, List.forall_mem_cons.mpr ⟨okb_Mo_isNoScan_19 g l hst, List.forall_mem_cons.mpr ⟨okb_Mo_isNoScan_20 g l hst, List.forall_mem_cons.mpr ⟨okb_Mo_isNoScan_24 g l hst, fun _ h => by cases h⟩⟩⟩⟩⟩
def i_Mo_isNoScan (g : GG) : List (Nat × Blk) := [(19, b_Mo_isNoScan_19 g), (20, b_Mo_isNoScan_20 g)]
theorem is_Mo_isNoScan (g : GG) : ∀ x ∈ i_Mo_isNoScan g, x ∈ k_Mo_isNoScan g := sub_at [2, 3] rfl
theorem w_Mo_isNoScan_0 (g : GG) (u : Unit) (n : List Unit) (B : Bx) (Q : Option Value → AH → Prop) (X : String → AH → Prop) (lv : LV) (st : List Value) (f : AH) (bc bs : Nat) : wpF (i_Mo_isNoScan g) (u :: n) B Q X 0 lv st f bc bs = B 0 lv st f bc bs := (rfl)
theorem w_Mo_isNoScan_12 (g : GG) (u : Unit) (n : List Unit) (B : Bx) (Q : Option Value → AH → Prop) (X : String → AH → Prop) (lv : LV) (st : List Value) (f : AH) (bc bs : Nat) : wpF (i_Mo_isNoScan g) (u :: n) B Q X 12 lv st f bc bs = B 12 lv st f bc bs := (rfl)
theorem w_Mo_isNoScan_19 (g : GG) (u : Unit) (n : List Unit) (B : Bx) (Q : Option Value → AH → Prop) (X : String → AH → Prop) (lv : LV) (st : List Value) (f : AH) (bc bs : Nat) : wpF (i_Mo_isNoScan g) (u :: n) B Q X 19 lv st f bc bs = wpL (b_Mo_isNoScan_19 g) 19 lv st f bc bs (wpF (i_Mo_isNoScan g) n B Q X) Q X := (rfl)
theorem w_Mo_isNoScan_20 (g : GG) (u : Unit) (n : List Unit) (B : Bx) (Q : Option Value → AH → Prop) (X : String → AH → Prop) (lv : LV) (st : List Value) (f : AH) (bc bs : Nat) : wpF (i_Mo_isNoScan g) (u :: n) B Q X 20 lv st f bc bs = wpL (b_Mo_isNoScan_20 g) 20 lv st f bc bs (wpF (i_Mo_isNoScan g) n B Q X) Q X := (rfl)
theorem w_Mo_isNoScan_24 (g : GG) (u : Unit) (n : List Unit) (B : Bx) (Q : Option Value → AH → Prop) (X : String → AH → Prop) (lv : LV) (st : List Value) (f : AH) (bc bs : Nat) : wpF (i_Mo_isNoScan g) (u :: n) B Q X 24 lv st f bc bs = B 24 lv st f bc bs := (rfl)
set_option maxRecDepth 4000 in
set_option maxHeartbeats 4000000 in
theorem s_Mo_isNoScan (g : GG) (l : Launch) (hst : l.stackTraces = false) : Snd yX9_isNoScan (m_Mo_isNoScan g l) 0 0 T_Mo_isNoScan := by
  refine snd_of (plainFor_of_name (by decide)) rfl (fun h => by first | rfl | cases h) rfl hst (k_Mo_isNoScan g) (ok_Mo_isNoScan g l hst) ?_
  rintro as f Q X ⟨f0, ad, cm, cl, k, rfl, hM, hq⟩
  refine ⟨[some (.ref (ad 0)), some (.int k)], rfl, Nat.le_of_ble_eq_true rfl, fun B run => ?_⟩
  cases h1 : inR k 0 (cm 4 0 0 - 1) <;> simp only [noScan, h1, Bool.not_false, Bool.not_true] at hq
  all_goals repeat (first | (refine hq _ ?_; exact hM) | (refine j_Mo_isIn_ (b := true) ?_ ?_; (focus with_reducible assumption)) | (refine j_Mo_isIn_ (b := false) ?_ ?_; (focus with_reducible assumption)) | (refine i_Mo_isIn_ ?_) | refine j_Mo_isThrown (b := true) hM rfl fun f hM => ?_ | refine j_Mo_isThrown (b := false) hM rfl fun f hM => ?_ | (refine run _ _ (i_Mo_isNoScan g) [(), (), ()] rfl (is_Mo_isNoScan g) _ _ _ _ _ ?_; (try simp only [Option.toList_some, Option.toList_none, List.cons_append, List.nil_append, List.append_nil]); simp -dsimp (disch := omega) only [thr_n, wdC_n, wrC_n, tchC_n, wpF_0, ↓hobj_c hM.obj, mf_len, mf_4, eq_self, nI_dec, ixE, nI_4m, nI_16m, nI_10m, nI_2m, nI_add, nI_1, nI_p2, nI_p3, nI_pred, c3_n, c3_s, c3_i, upd_s, upd_n, rowU_n, rowU_ge, true_imp_iff, false_imp_iff, not_true_eq_false, not_false_eq_true, b2i_t, b2i_f, i32_10, i32_00, i32_11, ite_true_I, false_and, and_false, true_and, and_true, or_true, true_or, false_or, or_false, w_Mo_isNoScan_0, w_Mo_isNoScan_12, w_Mo_isNoScan_19, w_Mo_isNoScan_20, w_Mo_isNoScan_24, ↓b_Mo_isNoScan_0, ↓b_Mo_isNoScan_12, ↓b_Mo_isNoScan_19, ↓b_Mo_isNoScan_20, ↓b_Mo_isNoScan_24, ↓wpL_n, ↓wpL_c, ↓e_iadd, ↓e_isub, ↓e_imul, ↓e_iand, ↓e_ior, ↓e_ixor, ↓e_ishl, ↓e_ishr, ↓e_iushr, ↓e_idiv, ↓e_irem, ↓e_ineg, ↓e_ladd, ↓e_lcmp, ↓e_i2l, ↓e_i2c, ↓e_i2d, ↓e_i2f, ↓e_l2f, ↓e_f2d, ↓e_fdiv, ↓e_ddiv, ↓e_dcmp_l, ↓e_fcmp_l, ↓e_dcmp_g, ↓e_fcmp_g, ↓e_push, ↓e_iload, ↓e_fload, ↓e_dload, ↓e_aload, ↓e_istore, ↓e_fstore, ↓e_astore, ↓e_iinc, ↓e_ifeq, ↓e_iceq, ↓e_ifne, ↓e_icne, ↓e_iflt, ↓e_iclt, ↓e_ifge, ↓e_icge, ↓e_ifgt, ↓e_icgt, ↓e_ifle, ↓e_icle, ↓e_goto, ↓e_dup, ↓e_pop, ↓e_dup_x1, ↓e_dup2, ↓e_getf, ↓e_putI, ↓e_putJ, ↓e_putC, ↓e_putR, ↓e_iald, ↓e_zald, ↓e_cald, ↓e_lald, ↓e_dald, ↓e_iast, ↓e_zast, ↓e_cast, ↓e_last, ↓e_dast, ↓e_aald, ↓e_alen, ↓e_throw, ↓e_iret, ↓e_zret, ↓e_cret, ↓e_aret, ↓e_lret, ↓e_fret, ↓e_dret, ↓e_vret, ↓e_new, ↓e_newarr, ↓e_pop1, ↓e_scald, ↓e_salen, ↓e_call, ↓e_callV, ↓e_callI, ↓e_call0, ↓e_callR, PI_e, PFl_e, PD_e, PR_e, PO_e, PHd_e, PA_e, PA_n, IX_e, IX_0, reduceIte, lget, lset, lclr, fget, ctake, cdrop, c1, Nat.reduceAdd, List.reverse_cons, List.reverse_nil, List.nil_append, List.cons_append, Option.toList_some, Option.toList_none, List.length_cons, List.length_nil, true_and, and_true, true_or, or_true, Nat.reduceLeDiff, Nat.reduceLT, Nat.zero_le, List.append_nil]) | refine ⟨_, rfl, by omega, by omega, ?_⟩ | (refine And.intro ?_ ?_; focus (first | exact b2i_01 _ | assumption | decide | (simp; done))))
theorem noScan_f {cm : CM} {k : Int32} (hb : Nb (cm 4 0 0) 40) (h : noScan cm k = false) : ∃ a, a < nn (cm 4 0 0) ∧ a < 40 ∧ k = nI a := by
  obtain ⟨n, hn, e⟩ := hb
  rw [noScan, e, Bool.not_eq_false'] at h
  obtain ⟨a, ha, rfl⟩ := (inR_nI (by omega)).mp h
  exact ⟨a, by rw [e, nn_nI (by omega)]; exact ha, by omega, rfl⟩
def T_Mo_changes : Spec2 := fun as f Q _ => ∃ (f0 : AH) (ad : Nat → Nat) (cm : CM) (cl : CL) (k : Int32), as = [.ref (ad 0), .int k] ∧ MR f0 f ad cm cl ∧ (Nb (cm 0 0 0) 160) ∧ ∀ f', MR f0 f' ad (thr cm (noChunk cm k) 1) (cl) → Q (some (.int (if noChunk cm k then 0 else cm 16 0 (nn k)))) f'
theorem i_Mo_changes_ {f0 : AH} {ad : Nat → Nat} {cm : CM} {cl : CL} {k : Int32} {f : AH} {Q : Option Value → AH → Prop} {X : String → AH → Prop} (hM : MR f0 f ad cm cl) (hp : Nb (cm 0 0 0) 160) (h : ∀ f', MR f0 f' ad (thr cm (noChunk cm k) 1) (cl) → Q (some (.int (if noChunk cm k then 0 else cm 16 0 (nn k)))) f') : T_Mo_changes [.ref (ad 0), .int k] f Q X := ⟨f0, ad, cm, cl, k, rfl, hM, hp, h⟩
abbrev m_Mo_changes (g : GG) (l : Launch) : MI := (RX9, cX9_changes, 2, (some .int), [], false, 4, g, l)
def b_Mo_changes_0 (g : GG) : Blk := [(1, o_aload 0), (1, o_iload 1), (3, o_callR (o_call0 T_Mo_isNoChunk 2) 10 2)]
def b_Mo_changes_5 (g : GG) : Blk := [(3, o_ifeq 12), (1, o_push (.int 0)), (3, o_goto 18)]
def b_Mo_changes_12 (g : GG) : Blk := [(1, o_aload 0), (3, o_getf 10 16), (1, o_iload 1), (1, o_iald)]
def b_Mo_changes_18 (g : GG) : Blk := [(1, o_iret)]
set_option maxRecDepth 8000 in
theorem okb_Mo_changes_0 (g : GG) (l : Launch) (hst : l.stackTraces = false) : BlkOk (m_Mo_changes g l) 0 (b_Mo_changes_0 g) := 
  ⟨ok_aload_n (by decide +kernel : decode cX9_changes 0 = .ok (.aload_n 0, 1)) rfl,
  ⟨ok_iload_n (by decide +kernel : decode cX9_changes 1 = .ok (.iload_n 1, 1)) rfl,
  ⟨(ok_callV (k := 1) cls_10 (s_Mo_isNoChunk g l hst) (show 2 < 4 from by decide) (Nat.le_of_ble_eq_true rfl) rfl rfl tw_1561 tw_1563 ts_56 tw_9 tw_1564 ⟨by decide, by decide, by decide⟩ (by decide +kernel : decode cX9_changes 2 = .ok (.invokevirtual 223, 3))).mono callR0_of, trivial⟩⟩⟩
set_option maxRecDepth 8000 in
theorem okb_Mo_changes_5 (g : GG) (l : Launch) (hst : l.stackTraces = false) : BlkOk (m_Mo_changes g l) 5 (b_Mo_changes_5 g) := 
  ⟨ok_ifeq (by decide) (by decide +kernel : decode cX9_changes 5 = .ok (.ifCond .eq 7, 3)),
  ⟨ok_iconst (by decide) (by decide +kernel : decode cX9_changes 8 = .ok (.iconst 0, 1)),
  ⟨ok_goto (by decide) (by decide +kernel : decode cX9_changes 9 = .ok (.goto 9, 3)), trivial⟩⟩⟩
set_option maxRecDepth 8000 in
theorem okb_Mo_changes_12 (g : GG) (l : Launch) (hst : l.stackTraces = false) : BlkOk (m_Mo_changes g l) 12 (b_Mo_changes_12 g) := 
  ⟨ok_aload_n (by decide +kernel : decode cX9_changes 12 = .ok (.aload_n 0, 1)) rfl,
  ⟨ok_getf cls_10 (Nat.le_of_ble_eq_true rfl) tw_1274 rfl (by decide +kernel : decode cX9_changes 13 = .ok (.getfield 40, 3)),
  ⟨ok_iload_n (by decide +kernel : decode cX9_changes 16 = .ok (.iload_n 1, 1)) rfl,
  ⟨ok_iald (by decide +kernel : decode cX9_changes 17 = .ok (.iaload, 1)), trivial⟩⟩⟩⟩
set_option maxRecDepth 8000 in
theorem okb_Mo_changes_18 (g : GG) (l : Launch) (hst : l.stackTraces = false) : BlkOk (m_Mo_changes g l) 18 (b_Mo_changes_18 g) := 
  ⟨ok_iret rfl (by decide +kernel : decode cX9_changes 18 = .ok (.ireturn, 1)), trivial⟩
def k_Mo_changes (g : GG) : List (Nat × Blk) := [(0, b_Mo_changes_0 g), (5, b_Mo_changes_5 g), (12, b_Mo_changes_12 g), (18, b_Mo_changes_18 g)]
theorem ok_Mo_changes (g : GG) (l : Launch) (hst : l.stackTraces = false) : ∀ b ∈ k_Mo_changes g, BlkOk (m_Mo_changes g l) b.1 b.2 := List.forall_mem_cons.mpr ⟨okb_Mo_changes_0 g l hst, List.forall_mem_cons.mpr ⟨okb_Mo_changes_5 g l hst, List.forall_mem_cons.mpr ⟨okb_Mo_changes_12 g l hst, List.forall_mem_cons.mpr ⟨okb_Mo_changes_18 g l hst, fun _ h => by cases h⟩⟩⟩⟩
def i_Mo_changes (g : GG) : List (Nat × Blk) := [(12, b_Mo_changes_12 g), (18, b_Mo_changes_18 g)]
theorem is_Mo_changes (g : GG) : ∀ x ∈ i_Mo_changes g, x ∈ k_Mo_changes g := sub_at [2, 3] rfl
theorem w_Mo_changes_0 (g : GG) (u : Unit) (n : List Unit) (B : Bx) (Q : Option Value → AH → Prop) (X : String → AH → Prop) (lv : LV) (st : List Value) (f : AH) (bc bs : Nat) : wpF (i_Mo_changes g) (u :: n) B Q X 0 lv st f bc bs = B 0 lv st f bc bs := (rfl)
theorem w_Mo_changes_5 (g : GG) (u : Unit) (n : List Unit) (B : Bx) (Q : Option Value → AH → Prop) (X : String → AH → Prop) (lv : LV) (st : List Value) (f : AH) (bc bs : Nat) : wpF (i_Mo_changes g) (u :: n) B Q X 5 lv st f bc bs = B 5 lv st f bc bs := (rfl)
theorem w_Mo_changes_12 (g : GG) (u : Unit) (n : List Unit) (B : Bx) (Q : Option Value → AH → Prop) (X : String → AH → Prop) (lv : LV) (st : List Value) (f : AH) (bc bs : Nat) : wpF (i_Mo_changes g) (u :: n) B Q X 12 lv st f bc bs = wpL (b_Mo_changes_12 g) 12 lv st f bc bs (wpF (i_Mo_changes g) n B Q X) Q X := (rfl)
theorem w_Mo_changes_18 (g : GG) (u : Unit) (n : List Unit) (B : Bx) (Q : Option Value → AH → Prop) (X : String → AH → Prop) (lv : LV) (st : List Value) (f : AH) (bc bs : Nat) : wpF (i_Mo_changes g) (u :: n) B Q X 18 lv st f bc bs = wpL (b_Mo_changes_18 g) 18 lv st f bc bs (wpF (i_Mo_changes g) n B Q X) Q X := (rfl)
set_option maxRecDepth 4000 in
set_option maxHeartbeats 4000000 in
theorem s_Mo_changes (g : GG) (l : Launch) (hst : l.stackTraces = false) : Snd yX9_changes (m_Mo_changes g l) 0 0 T_Mo_changes := by
  refine snd_of (plainFor_of_name (by decide)) rfl (fun h => by first | rfl | cases h) rfl hst (k_Mo_changes g) (ok_Mo_changes g l hst) ?_
  rintro as f Q X ⟨f0, ad, cm, cl, k, rfl, hM, hp, hq⟩
  refine ⟨[some (.ref (ad 0)), some (.int k)], rfl, Nat.le_of_ble_eq_true rfl, fun B run => ?_⟩
  cases h1 : noChunk cm k
  · obtain ⟨a, ha, -, rfl⟩ := noChunk_f hp h1
    simp [h1, nn_nI (show a < 2147483648 by omega)] at hq
    repeat (first | (refine hq _ ?_; exact hM) | (refine j_Mo_isNoChunk_ (b := true) hM ?_ fun f hM => ?_; (focus with_reducible assumption)) | (refine j_Mo_isNoChunk_ (b := false) hM ?_ fun f hM => ?_; (focus with_reducible assumption)) | (refine i_Mo_isNoChunk_ hM fun f hM => ?_) | (refine run _ _ (i_Mo_changes g) [(), (), ()] rfl (is_Mo_changes g) _ _ _ _ _ ?_; (try simp only [Option.toList_some, Option.toList_none, List.cons_append, List.nil_append, List.append_nil]); simp -dsimp (disch := omega) only [thr_n, wdC_n, wrC_n, tchC_n, wpF_0, ↓hobj_c hM.obj, mf_len, mf_16, ↓hAI_c (hM.ar 16 rfl), eq_self, nI_dec, ixE, nI_4m, nI_16m, nI_10m, nI_2m, nI_add, nI_1, nI_p2, nI_p3, nI_pred, c3_n, c3_s, c3_i, upd_s, upd_n, rowU_n, rowU_ge, true_imp_iff, false_imp_iff, not_true_eq_false, not_false_eq_true, b2i_t, b2i_f, i32_10, i32_00, i32_11, ite_true_I, false_and, and_false, true_and, and_true, or_true, true_or, false_or, or_false, w_Mo_changes_0, w_Mo_changes_5, w_Mo_changes_12, w_Mo_changes_18, ↓b_Mo_changes_0, ↓b_Mo_changes_5, ↓b_Mo_changes_12, ↓b_Mo_changes_18, ↓wpL_n, ↓wpL_c, ↓e_iadd, ↓e_isub, ↓e_imul, ↓e_iand, ↓e_ior, ↓e_ixor, ↓e_ishl, ↓e_ishr, ↓e_iushr, ↓e_idiv, ↓e_irem, ↓e_ineg, ↓e_ladd, ↓e_lcmp, ↓e_i2l, ↓e_i2c, ↓e_i2d, ↓e_i2f, ↓e_l2f, ↓e_f2d, ↓e_fdiv, ↓e_ddiv, ↓e_dcmp_l, ↓e_fcmp_l, ↓e_dcmp_g, ↓e_fcmp_g, ↓e_push, ↓e_iload, ↓e_fload, ↓e_dload, ↓e_aload, ↓e_istore, ↓e_fstore, ↓e_astore, ↓e_iinc, ↓e_ifeq, ↓e_iceq, ↓e_ifne, ↓e_icne, ↓e_iflt, ↓e_iclt, ↓e_ifge, ↓e_icge, ↓e_ifgt, ↓e_icgt, ↓e_ifle, ↓e_icle, ↓e_goto, ↓e_dup, ↓e_pop, ↓e_dup_x1, ↓e_dup2, ↓e_getf, ↓e_putI, ↓e_putJ, ↓e_putC, ↓e_putR, ↓e_iald, ↓e_zald, ↓e_cald, ↓e_lald, ↓e_dald, ↓e_iast, ↓e_zast, ↓e_cast, ↓e_last, ↓e_dast, ↓e_aald, ↓e_alen, ↓e_throw, ↓e_iret, ↓e_zret, ↓e_cret, ↓e_aret, ↓e_lret, ↓e_fret, ↓e_dret, ↓e_vret, ↓e_new, ↓e_newarr, ↓e_pop1, ↓e_scald, ↓e_salen, ↓e_call, ↓e_callV, ↓e_callI, ↓e_call0, ↓e_callR, PI_e, PFl_e, PD_e, PR_e, PO_e, PHd_e, PA_e, PA_n, IX_e, IX_0, reduceIte, lget, lset, lclr, fget, ctake, cdrop, c1, Nat.reduceAdd, List.reverse_cons, List.reverse_nil, List.nil_append, List.cons_append, Option.toList_some, Option.toList_none, List.length_cons, List.length_nil, true_and, and_true, true_or, or_true, Nat.reduceLeDiff, Nat.reduceLT, Nat.zero_le, List.append_nil]) | refine ⟨_, rfl, by omega, by omega, ?_⟩ | (refine And.intro ?_ ?_; focus (first | exact b2i_01 _ | assumption | decide | (simp; done))))
  · simp [h1] at hq
    repeat (first | (refine hq _ ?_; exact hM) | (refine j_Mo_isNoChunk_ (b := true) hM ?_ fun f hM => ?_; (focus with_reducible assumption)) | (refine j_Mo_isNoChunk_ (b := false) hM ?_ fun f hM => ?_; (focus with_reducible assumption)) | (refine i_Mo_isNoChunk_ hM fun f hM => ?_) | (refine run _ _ (i_Mo_changes g) [(), (), ()] rfl (is_Mo_changes g) _ _ _ _ _ ?_; (try simp only [Option.toList_some, Option.toList_none, List.cons_append, List.nil_append, List.append_nil]); simp -dsimp (disch := omega) only [thr_n, wdC_n, wrC_n, tchC_n, wpF_0, ↓hobj_c hM.obj, mf_len, mf_16, ↓hAI_c (hM.ar 16 rfl), eq_self, nI_dec, ixE, nI_4m, nI_16m, nI_10m, nI_2m, nI_add, nI_1, nI_p2, nI_p3, nI_pred, c3_n, c3_s, c3_i, upd_s, upd_n, rowU_n, rowU_ge, true_imp_iff, false_imp_iff, not_true_eq_false, not_false_eq_true, b2i_t, b2i_f, i32_10, i32_00, i32_11, ite_true_I, false_and, and_false, true_and, and_true, or_true, true_or, false_or, or_false, w_Mo_changes_0, w_Mo_changes_5, w_Mo_changes_12, w_Mo_changes_18, ↓b_Mo_changes_0, ↓b_Mo_changes_5, ↓b_Mo_changes_12, ↓b_Mo_changes_18, ↓wpL_n, ↓wpL_c, ↓e_iadd, ↓e_isub, ↓e_imul, ↓e_iand, ↓e_ior, ↓e_ixor, ↓e_ishl, ↓e_ishr, ↓e_iushr, ↓e_idiv, ↓e_irem, ↓e_ineg, ↓e_ladd, ↓e_lcmp, ↓e_i2l, ↓e_i2c, ↓e_i2d, ↓e_i2f, ↓e_l2f, ↓e_f2d, ↓e_fdiv, ↓e_ddiv, ↓e_dcmp_l, ↓e_fcmp_l, ↓e_dcmp_g, ↓e_fcmp_g, ↓e_push, ↓e_iload, ↓e_fload, ↓e_dload, ↓e_aload, ↓e_istore, ↓e_fstore, ↓e_astore, ↓e_iinc, ↓e_ifeq, ↓e_iceq, ↓e_ifne, ↓e_icne, ↓e_iflt, ↓e_iclt, ↓e_ifge, ↓e_icge, ↓e_ifgt, ↓e_icgt, ↓e_ifle, ↓e_icle, ↓e_goto, ↓e_dup, ↓e_pop, ↓e_dup_x1, ↓e_dup2, ↓e_getf, ↓e_putI, ↓e_putJ, ↓e_putC, ↓e_putR, ↓e_iald, ↓e_zald, ↓e_cald, ↓e_lald, ↓e_dald, ↓e_iast, ↓e_zast, ↓e_cast, ↓e_last, ↓e_dast, ↓e_aald, ↓e_alen, ↓e_throw, ↓e_iret, ↓e_zret, ↓e_cret, ↓e_aret, ↓e_lret, ↓e_fret, ↓e_dret, ↓e_vret, ↓e_new, ↓e_newarr, ↓e_pop1, ↓e_scald, ↓e_salen, ↓e_call, ↓e_callV, ↓e_callI, ↓e_call0, ↓e_callR, PI_e, PFl_e, PD_e, PR_e, PO_e, PHd_e, PA_e, PA_n, IX_e, IX_0, reduceIte, lget, lset, lclr, fget, ctake, cdrop, c1, Nat.reduceAdd, List.reverse_cons, List.reverse_nil, List.nil_append, List.cons_append, Option.toList_some, Option.toList_none, List.length_cons, List.length_nil, true_and, and_true, true_or, or_true, Nat.reduceLeDiff, Nat.reduceLT, Nat.zero_le, List.append_nil]) | refine ⟨_, rfl, by omega, by omega, ?_⟩ | (refine And.intro ?_ ?_; focus (first | exact b2i_01 _ | assumption | decide | (simp; done))))
def leastM (fl : Nat) (cm : CM) (k c : Int32) : Int32 × CM :=
  if noPlace cm k c then (0, thr cm true 1) else
  if cm 17 0 (4 * nn k + nn c) = 0 then (0, thr (thr cm false 1) true 2) else (cm fl 0 (4 * nn k + nn c), thr (thr cm false 1) false 2)
def T_Mo_least : Spec2 := fun as f Q _ => ∃ (f0 : AH) (ad : Nat → Nat) (cm : CM) (cl : CL) (k : Int32) (c : Int32), as = [.ref (ad 0), .int k, .int c] ∧ MR f0 f ad cm cl ∧ (Nb (cm 0 0 0) 160) ∧ ∀ f', MR f0 f' ad ((leastM 14 cm k c).2) (cl) → Q (some (.int (leastM 14 cm k c).1)) f'
theorem i_Mo_least_ {f0 : AH} {ad : Nat → Nat} {cm : CM} {cl : CL} {k : Int32} {c : Int32} {f : AH} {Q : Option Value → AH → Prop} {X : String → AH → Prop} (hM : MR f0 f ad cm cl) (hp : Nb (cm 0 0 0) 160) (h : ∀ f', MR f0 f' ad ((leastM 14 cm k c).2) (cl) → Q (some (.int (leastM 14 cm k c).1)) f') : T_Mo_least [.ref (ad 0), .int k, .int c] f Q X := ⟨f0, ad, cm, cl, k, c, rfl, hM, hp, h⟩
abbrev m_Mo_least (g : GG) (l : Launch) : MI := (RX9, cX9_least, 3, (some .int), [], false, 4, g, l)
def b_Mo_least_0 (g : GG) : Blk := [(1, o_aload 0), (1, o_iload 1), (1, o_iload 2), (3, o_callR (o_call0 T_Mo_isNoPlace 3) 10 3)]
def b_Mo_least_6 (g : GG) : Blk := [(3, o_ifne 35), (1, o_aload 0), (1, o_aload 0), (3, o_getf 10 17), (1, o_push (.int 4)), (1, o_iload 1), (1, o_imul), (1, o_iload 2), (1, o_iadd), (1, o_zald), (3, o_ifne 27), (1, o_push (.int 1)), (3, o_goto 28)]
def b_Mo_least_27 (g : GG) : Blk := [(1, o_push (.int 0))]
def b_Mo_least_28 (g : GG) : Blk := [(1, o_push (.int 2)), (3, o_callR (o_call0 T_Mo_isThrown 3) 10 3)]
def b_Mo_least_32 (g : GG) : Blk := [(3, o_ifeq 39)]
def b_Mo_least_35 (g : GG) : Blk := [(1, o_push (.int 0)), (3, o_goto 49)]
def b_Mo_least_39 (g : GG) : Blk := [(1, o_aload 0), (3, o_getf 10 14), (1, o_push (.int 4)), (1, o_iload 1), (1, o_imul), (1, o_iload 2), (1, o_iadd), (1, o_iald)]
def b_Mo_least_49 (g : GG) : Blk := [(1, o_iret)]
set_option maxRecDepth 8000 in
theorem okb_Mo_least_0 (g : GG) (l : Launch) (hst : l.stackTraces = false) : BlkOk (m_Mo_least g l) 0 (b_Mo_least_0 g) := 
  ⟨ok_aload_n (by decide +kernel : decode cX9_least 0 = .ok (.aload_n 0, 1)) rfl,
  ⟨ok_iload_n (by decide +kernel : decode cX9_least 1 = .ok (.iload_n 1, 1)) rfl,
  ⟨ok_iload_n (by decide +kernel : decode cX9_least 2 = .ok (.iload_n 2, 1)) rfl,
  ⟨(ok_callV (k := 2) cls_10 (s_Mo_isNoPlace g l hst) (show 2 < 4 from by decide) (Nat.le_of_ble_eq_true rfl) rfl rfl tw_1490 tw_1492 ts_51 tw_9 tw_1493 ⟨by decide, by decide, by decide⟩ (by decide +kernel : decode cX9_least 3 = .ok (.invokevirtual 213, 3))).mono callR0_of, trivial⟩⟩⟩⟩
set_option maxRecDepth 8000 in
theorem okb_Mo_least_6 (g : GG) (l : Launch) (hst : l.stackTraces = false) : BlkOk (m_Mo_least g l) 6 (b_Mo_least_6 g) := 
  ⟨ok_ifne (by decide) (by decide +kernel : decode cX9_least 6 = .ok (.ifCond .ne 29, 3)),
  ⟨ok_aload_n (by decide +kernel : decode cX9_least 9 = .ok (.aload_n 0, 1)) rfl,
  ⟨ok_aload_n (by decide +kernel : decode cX9_least 10 = .ok (.aload_n 0, 1)) rfl,
  ⟨ok_getf cls_10 (Nat.le_of_ble_eq_true rfl) tw_1275 rfl (by decide +kernel : decode cX9_least 11 = .ok (.getfield 43, 3)),
  ⟨ok_iconst (by decide) (by decide +kernel : decode cX9_least 14 = .ok (.iconst 4, 1)),
  ⟨ok_iload_n (by decide +kernel : decode cX9_least 15 = .ok (.iload_n 1, 1)) rfl,
  ⟨ok_imul (by decide +kernel : decode cX9_least 16 = .ok (.imul, 1)),
  ⟨ok_iload_n (by decide +kernel : decode cX9_least 17 = .ok (.iload_n 2, 1)) rfl,
  ⟨ok_iadd (by decide +kernel : decode cX9_least 18 = .ok (.iadd, 1)),
  ⟨ok_zald (by decide +kernel : decode cX9_least 19 = .ok (.baload, 1)),
  ⟨ok_ifne (by decide) (by decide +kernel : decode cX9_least 20 = .ok (.ifCond .ne 7, 3)),
  ⟨ok_iconst (by decide) (by decide +kernel : decode cX9_least 23 = .ok (.iconst 1, 1)),
  ⟨ok_goto (by decide) (by decide +kernel : decode cX9_least 24 = .ok (.goto 4, 3)), trivial⟩⟩⟩⟩⟩⟩⟩⟩⟩⟩⟩⟩⟩
set_option maxRecDepth 8000 in
theorem okb_Mo_least_27 (g : GG) (l : Launch) (hst : l.stackTraces = false) : BlkOk (m_Mo_least g l) 27 (b_Mo_least_27 g) := 
  ⟨ok_iconst (by decide) (by decide +kernel : decode cX9_least 27 = .ok (.iconst 0, 1)), trivial⟩
set_option maxRecDepth 8000 in
theorem okb_Mo_least_28 (g : GG) (l : Launch) (hst : l.stackTraces = false) : BlkOk (m_Mo_least g l) 28 (b_Mo_least_28 g) := 
  ⟨ok_iconst (by decide) (by decide +kernel : decode cX9_least 28 = .ok (.iconst 2, 1)),
  ⟨(ok_callV (k := 2) cls_10 (s_Mo_isThrown g l hst) (show 1 < 4 from by decide) (Nat.le_of_ble_eq_true rfl) rfl rfl tw_1427 tw_1429 ts_43 tw_9 tw_1430 ⟨by decide, by decide, by decide⟩ (by decide +kernel : decode cX9_least 29 = .ok (.invokevirtual 149, 3))).mono callR0_of, trivial⟩⟩
set_option maxRecDepth 8000 in
theorem okb_Mo_least_32 (g : GG) (l : Launch) (hst : l.stackTraces = false) : BlkOk (m_Mo_least g l) 32 (b_Mo_least_32 g) := 
  ⟨ok_ifeq (by decide) (by decide +kernel : decode cX9_least 32 = .ok (.ifCond .eq 7, 3)), trivial⟩
set_option maxRecDepth 8000 in
theorem okb_Mo_least_35 (g : GG) (l : Launch) (hst : l.stackTraces = false) : BlkOk (m_Mo_least g l) 35 (b_Mo_least_35 g) := 
  ⟨ok_iconst (by decide) (by decide +kernel : decode cX9_least 35 = .ok (.iconst 0, 1)),
  ⟨ok_goto (by decide) (by decide +kernel : decode cX9_least 36 = .ok (.goto 13, 3)), trivial⟩⟩
set_option maxRecDepth 8000 in
theorem okb_Mo_least_39 (g : GG) (l : Launch) (hst : l.stackTraces = false) : BlkOk (m_Mo_least g l) 39 (b_Mo_least_39 g) := 
  ⟨ok_aload_n (by decide +kernel : decode cX9_least 39 = .ok (.aload_n 0, 1)) rfl,
  ⟨ok_getf cls_10 (Nat.le_of_ble_eq_true rfl) tw_1272 rfl (by decide +kernel : decode cX9_least 40 = .ok (.getfield 34, 3)),
  ⟨ok_iconst (by decide) (by decide +kernel : decode cX9_least 43 = .ok (.iconst 4, 1)),
  ⟨ok_iload_n (by decide +kernel : decode cX9_least 44 = .ok (.iload_n 1, 1)) rfl,
  ⟨ok_imul (by decide +kernel : decode cX9_least 45 = .ok (.imul, 1)),
  ⟨ok_iload_n (by decide +kernel : decode cX9_least 46 = .ok (.iload_n 2, 1)) rfl,
  ⟨ok_iadd (by decide +kernel : decode cX9_least 47 = .ok (.iadd, 1)),
  ⟨ok_iald (by decide +kernel : decode cX9_least 48 = .ok (.iaload, 1)), trivial⟩⟩⟩⟩⟩⟩⟩⟩
set_option maxRecDepth 8000 in
theorem okb_Mo_least_49 (g : GG) (l : Launch) (hst : l.stackTraces = false) : BlkOk (m_Mo_least g l) 49 (b_Mo_least_49 g) := 
  ⟨ok_iret rfl (by decide +kernel : decode cX9_least 49 = .ok (.ireturn, 1)), trivial⟩
def k_Mo_least (g : GG) : List (Nat × Blk) := [(0, b_Mo_least_0 g), (6, b_Mo_least_6 g), (27, b_Mo_least_27 g), (28, b_Mo_least_28 g), (32, b_Mo_least_32 g), (35, b_Mo_least_35 g), (39, b_Mo_least_39 g), (49, b_Mo_least_49 g)]
theorem ok_Mo_least (g : GG) (l : Launch) (hst : l.stackTraces = false) : ∀ b ∈ k_Mo_least g, BlkOk (m_Mo_least g l) b.1 b.2 := List.forall_mem_cons.mpr ⟨okb_Mo_least_0 g l hst, List.forall_mem_cons.mpr ⟨okb_Mo_least_6 g l hst, List.forall_mem_cons.mpr ⟨okb_Mo_least_27 g l hst, List.forall_mem_cons.mpr ⟨okb_Mo_least_28 g l hst, List.forall_mem_cons.mpr ⟨okb_Mo_least_32 g l hst, List.forall_mem_cons.mpr ⟨okb_Mo_least_35 g l hst, List.forall_mem_cons.mpr ⟨okb_Mo_least_39 g l hst, List.forall_mem_cons.mpr ⟨okb_Mo_least_49 g l hst, fun _ h => by cases h⟩⟩⟩⟩⟩⟩⟩⟩
def i_Mo_least (g : GG) : List (Nat × Blk) := [(27, b_Mo_least_27 g), (28, b_Mo_least_28 g), (35, b_Mo_least_35 g), (39, b_Mo_least_39 g), (49, b_Mo_least_49 g)]
theorem is_Mo_least (g : GG) : ∀ x ∈ i_Mo_least g, x ∈ k_Mo_least g := sub_at [2, 3, 5, 6, 7] rfl
theorem w_Mo_least_0 (g : GG) (u : Unit) (n : List Unit) (B : Bx) (Q : Option Value → AH → Prop) (X : String → AH → Prop) (lv : LV) (st : List Value) (f : AH) (bc bs : Nat) : wpF (i_Mo_least g) (u :: n) B Q X 0 lv st f bc bs = B 0 lv st f bc bs := (rfl)
theorem w_Mo_least_6 (g : GG) (u : Unit) (n : List Unit) (B : Bx) (Q : Option Value → AH → Prop) (X : String → AH → Prop) (lv : LV) (st : List Value) (f : AH) (bc bs : Nat) : wpF (i_Mo_least g) (u :: n) B Q X 6 lv st f bc bs = B 6 lv st f bc bs := (rfl)
theorem w_Mo_least_27 (g : GG) (u : Unit) (n : List Unit) (B : Bx) (Q : Option Value → AH → Prop) (X : String → AH → Prop) (lv : LV) (st : List Value) (f : AH) (bc bs : Nat) : wpF (i_Mo_least g) (u :: n) B Q X 27 lv st f bc bs = wpL (b_Mo_least_27 g) 27 lv st f bc bs (wpF (i_Mo_least g) n B Q X) Q X := (rfl)
theorem w_Mo_least_28 (g : GG) (u : Unit) (n : List Unit) (B : Bx) (Q : Option Value → AH → Prop) (X : String → AH → Prop) (lv : LV) (st : List Value) (f : AH) (bc bs : Nat) : wpF (i_Mo_least g) (u :: n) B Q X 28 lv st f bc bs = wpL (b_Mo_least_28 g) 28 lv st f bc bs (wpF (i_Mo_least g) n B Q X) Q X := (rfl)
theorem w_Mo_least_32 (g : GG) (u : Unit) (n : List Unit) (B : Bx) (Q : Option Value → AH → Prop) (X : String → AH → Prop) (lv : LV) (st : List Value) (f : AH) (bc bs : Nat) : wpF (i_Mo_least g) (u :: n) B Q X 32 lv st f bc bs = B 32 lv st f bc bs := (rfl)
theorem w_Mo_least_35 (g : GG) (u : Unit) (n : List Unit) (B : Bx) (Q : Option Value → AH → Prop) (X : String → AH → Prop) (lv : LV) (st : List Value) (f : AH) (bc bs : Nat) : wpF (i_Mo_least g) (u :: n) B Q X 35 lv st f bc bs = wpL (b_Mo_least_35 g) 35 lv st f bc bs (wpF (i_Mo_least g) n B Q X) Q X := (rfl)
theorem w_Mo_least_39 (g : GG) (u : Unit) (n : List Unit) (B : Bx) (Q : Option Value → AH → Prop) (X : String → AH → Prop) (lv : LV) (st : List Value) (f : AH) (bc bs : Nat) : wpF (i_Mo_least g) (u :: n) B Q X 39 lv st f bc bs = wpL (b_Mo_least_39 g) 39 lv st f bc bs (wpF (i_Mo_least g) n B Q X) Q X := (rfl)
theorem w_Mo_least_49 (g : GG) (u : Unit) (n : List Unit) (B : Bx) (Q : Option Value → AH → Prop) (X : String → AH → Prop) (lv : LV) (st : List Value) (f : AH) (bc bs : Nat) : wpF (i_Mo_least g) (u :: n) B Q X 49 lv st f bc bs = wpL (b_Mo_least_49 g) 49 lv st f bc bs (wpF (i_Mo_least g) n B Q X) Q X := (rfl)
set_option maxRecDepth 4000 in
set_option maxHeartbeats 4000000 in
theorem s_Mo_least (g : GG) (l : Launch) (hst : l.stackTraces = false) : Snd yX9_least (m_Mo_least g l) 0 0 T_Mo_least := by
  refine snd_of (plainFor_of_name (by decide)) rfl (fun h => by first | rfl | cases h) rfl hst (k_Mo_least g) (ok_Mo_least g l hst) ?_
  rintro as f Q X ⟨f0, ad, cm, cl, k, c, rfl, hM, hp, hq⟩
  refine ⟨[some (.ref (ad 0)), some (.int k), some (.int c)], rfl, Nat.le_of_ble_eq_true rfl, fun B run => ?_⟩
  cases h1 : noPlace cm k c
  · obtain ⟨a, b, ha, -, hb, rfl, rfl⟩ := noPlace_f hp h1
    by_cases h2 : cm 17 0 (4 * a + b) = 0 <;> simp [leastM, h1, h2, nn_nI (show a < 2147483648 by omega), nn_nI (show b < 2147483648 by omega)] at hq
    all_goals repeat (first | (refine hq _ ?_; exact hM) | (refine j_Mo_isNoPlace_ (b := true) hM ?_ fun f hM => ?_; (focus with_reducible assumption)) | (refine j_Mo_isNoPlace_ (b := false) hM ?_ fun f hM => ?_; (focus with_reducible assumption)) | (refine i_Mo_isNoPlace_ hM fun f hM => ?_) | refine j_Mo_isThrown (b := true) hM rfl fun f hM => ?_ | refine j_Mo_isThrown (b := false) hM rfl fun f hM => ?_ | (refine run _ _ (i_Mo_least g) [(), (), (), (), (), ()] rfl (is_Mo_least g) _ _ _ _ _ ?_; (try simp only [Option.toList_some, Option.toList_none, List.cons_append, List.nil_append, List.append_nil]); simp -dsimp (disch := omega) only [h2, thr_n, wdC_n, wrC_n, tchC_n, wpF_0, ↓hobj_c hM.obj, mf_len, mf_14, ↓hAI_c (hM.ar 14 rfl), mf_17, ↓hAI_c (hM.ar 17 rfl), eq_self, nI_dec, ixE, nI_4m, nI_16m, nI_10m, nI_2m, nI_add, nI_1, nI_p2, nI_p3, nI_pred, c3_n, c3_s, c3_i, upd_s, upd_n, rowU_n, rowU_ge, true_imp_iff, false_imp_iff, not_true_eq_false, not_false_eq_true, b2i_t, b2i_f, i32_10, i32_00, i32_11, ite_true_I, false_and, and_false, true_and, and_true, or_true, true_or, false_or, or_false, w_Mo_least_0, w_Mo_least_6, w_Mo_least_27, w_Mo_least_28, w_Mo_least_32, w_Mo_least_35, w_Mo_least_39, w_Mo_least_49, ↓b_Mo_least_0, ↓b_Mo_least_6, ↓b_Mo_least_27, ↓b_Mo_least_28, ↓b_Mo_least_32, ↓b_Mo_least_35, ↓b_Mo_least_39, ↓b_Mo_least_49, ↓wpL_n, ↓wpL_c, ↓e_iadd, ↓e_isub, ↓e_imul, ↓e_iand, ↓e_ior, ↓e_ixor, ↓e_ishl, ↓e_ishr, ↓e_iushr, ↓e_idiv, ↓e_irem, ↓e_ineg, ↓e_ladd, ↓e_lcmp, ↓e_i2l, ↓e_i2c, ↓e_i2d, ↓e_i2f, ↓e_l2f, ↓e_f2d, ↓e_fdiv, ↓e_ddiv, ↓e_dcmp_l, ↓e_fcmp_l, ↓e_dcmp_g, ↓e_fcmp_g, ↓e_push, ↓e_iload, ↓e_fload, ↓e_dload, ↓e_aload, ↓e_istore, ↓e_fstore, ↓e_astore, ↓e_iinc, ↓e_ifeq, ↓e_iceq, ↓e_ifne, ↓e_icne, ↓e_iflt, ↓e_iclt, ↓e_ifge, ↓e_icge, ↓e_ifgt, ↓e_icgt, ↓e_ifle, ↓e_icle, ↓e_goto, ↓e_dup, ↓e_pop, ↓e_dup_x1, ↓e_dup2, ↓e_getf, ↓e_putI, ↓e_putJ, ↓e_putC, ↓e_putR, ↓e_iald, ↓e_zald, ↓e_cald, ↓e_lald, ↓e_dald, ↓e_iast, ↓e_zast, ↓e_cast, ↓e_last, ↓e_dast, ↓e_aald, ↓e_alen, ↓e_throw, ↓e_iret, ↓e_zret, ↓e_cret, ↓e_aret, ↓e_lret, ↓e_fret, ↓e_dret, ↓e_vret, ↓e_new, ↓e_newarr, ↓e_pop1, ↓e_scald, ↓e_salen, ↓e_call, ↓e_callV, ↓e_callI, ↓e_call0, ↓e_callR, PI_e, PFl_e, PD_e, PR_e, PO_e, PHd_e, PA_e, PA_n, IX_e, IX_0, reduceIte, lget, lset, lclr, fget, ctake, cdrop, c1, Nat.reduceAdd, List.reverse_cons, List.reverse_nil, List.nil_append, List.cons_append, Option.toList_some, Option.toList_none, List.length_cons, List.length_nil, true_and, and_true, true_or, or_true, Nat.reduceLeDiff, Nat.reduceLT, Nat.zero_le, List.append_nil]) | refine ⟨_, rfl, by omega, by omega, ?_⟩ | (refine And.intro ?_ ?_; focus (first | exact b2i_01 _ | assumption | decide | (simp; done))))
  · simp [leastM, h1] at hq
    repeat (first | (refine hq _ ?_; exact hM) | (refine j_Mo_isNoPlace_ (b := true) hM ?_ fun f hM => ?_; (focus with_reducible assumption)) | (refine j_Mo_isNoPlace_ (b := false) hM ?_ fun f hM => ?_; (focus with_reducible assumption)) | (refine i_Mo_isNoPlace_ hM fun f hM => ?_) | refine j_Mo_isThrown (b := true) hM rfl fun f hM => ?_ | refine j_Mo_isThrown (b := false) hM rfl fun f hM => ?_ | (refine run _ _ (i_Mo_least g) [(), (), (), (), (), ()] rfl (is_Mo_least g) _ _ _ _ _ ?_; (try simp only [Option.toList_some, Option.toList_none, List.cons_append, List.nil_append, List.append_nil]); simp -dsimp (disch := omega) only [thr_n, wdC_n, wrC_n, tchC_n, wpF_0, ↓hobj_c hM.obj, mf_len, mf_14, ↓hAI_c (hM.ar 14 rfl), mf_17, ↓hAI_c (hM.ar 17 rfl), eq_self, nI_dec, ixE, nI_4m, nI_16m, nI_10m, nI_2m, nI_add, nI_1, nI_p2, nI_p3, nI_pred, c3_n, c3_s, c3_i, upd_s, upd_n, rowU_n, rowU_ge, true_imp_iff, false_imp_iff, not_true_eq_false, not_false_eq_true, b2i_t, b2i_f, i32_10, i32_00, i32_11, ite_true_I, false_and, and_false, true_and, and_true, or_true, true_or, false_or, or_false, w_Mo_least_0, w_Mo_least_6, w_Mo_least_27, w_Mo_least_28, w_Mo_least_32, w_Mo_least_35, w_Mo_least_39, w_Mo_least_49, ↓b_Mo_least_0, ↓b_Mo_least_6, ↓b_Mo_least_27, ↓b_Mo_least_28, ↓b_Mo_least_32, ↓b_Mo_least_35, ↓b_Mo_least_39, ↓b_Mo_least_49, ↓wpL_n, ↓wpL_c, ↓e_iadd, ↓e_isub, ↓e_imul, ↓e_iand, ↓e_ior, ↓e_ixor, ↓e_ishl, ↓e_ishr, ↓e_iushr, ↓e_idiv, ↓e_irem, ↓e_ineg, ↓e_ladd, ↓e_lcmp, ↓e_i2l, ↓e_i2c, ↓e_i2d, ↓e_i2f, ↓e_l2f, ↓e_f2d, ↓e_fdiv, ↓e_ddiv, ↓e_dcmp_l, ↓e_fcmp_l, ↓e_dcmp_g, ↓e_fcmp_g, ↓e_push, ↓e_iload, ↓e_fload, ↓e_dload, ↓e_aload, ↓e_istore, ↓e_fstore, ↓e_astore, ↓e_iinc, ↓e_ifeq, ↓e_iceq, ↓e_ifne, ↓e_icne, ↓e_iflt, ↓e_iclt, ↓e_ifge, ↓e_icge, ↓e_ifgt, ↓e_icgt, ↓e_ifle, ↓e_icle, ↓e_goto, ↓e_dup, ↓e_pop, ↓e_dup_x1, ↓e_dup2, ↓e_getf, ↓e_putI, ↓e_putJ, ↓e_putC, ↓e_putR, ↓e_iald, ↓e_zald, ↓e_cald, ↓e_lald, ↓e_dald, ↓e_iast, ↓e_zast, ↓e_cast, ↓e_last, ↓e_dast, ↓e_aald, ↓e_alen, ↓e_throw, ↓e_iret, ↓e_zret, ↓e_cret, ↓e_aret, ↓e_lret, ↓e_fret, ↓e_dret, ↓e_vret, ↓e_new, ↓e_newarr, ↓e_pop1, ↓e_scald, ↓e_salen, ↓e_call, ↓e_callV, ↓e_callI, ↓e_call0, ↓e_callR, PI_e, PFl_e, PD_e, PR_e, PO_e, PHd_e, PA_e, PA_n, IX_e, IX_0, reduceIte, lget, lset, lclr, fget, ctake, cdrop, c1, Nat.reduceAdd, List.reverse_cons, List.reverse_nil, List.nil_append, List.cons_append, Option.toList_some, Option.toList_none, List.length_cons, List.length_nil, true_and, and_true, true_or, or_true, Nat.reduceLeDiff, Nat.reduceLT, Nat.zero_le, List.append_nil]) | refine ⟨_, rfl, by omega, by omega, ?_⟩ | (refine And.intro ?_ ?_; focus (first | exact b2i_01 _ | assumption | decide | (simp; done))))
def T_Mo_greatest : Spec2 := fun as f Q _ => ∃ (f0 : AH) (ad : Nat → Nat) (cm : CM) (cl : CL) (k : Int32) (c : Int32), as = [.ref (ad 0), .int k, .int c] ∧ MR f0 f ad cm cl ∧ (Nb (cm 0 0 0) 160) ∧ ∀ f', MR f0 f' ad ((leastM 15 cm k c).2) (cl) → Q (some (.int (leastM 15 cm k c).1)) f'
theorem i_Mo_greatest_ {f0 : AH} {ad : Nat → Nat} {cm : CM} {cl : CL} {k : Int32} {c : Int32} {f : AH} {Q : Option Value → AH → Prop} {X : String → AH → Prop} (hM : MR f0 f ad cm cl) (hp : Nb (cm 0 0 0) 160) (h : ∀ f', MR f0 f' ad ((leastM 15 cm k c).2) (cl) → Q (some (.int (leastM 15 cm k c).1)) f') : T_Mo_greatest [.ref (ad 0), .int k, .int c] f Q X := ⟨f0, ad, cm, cl, k, c, rfl, hM, hp, h⟩
abbrev m_Mo_greatest (g : GG) (l : Launch) : MI := (RX9, cX9_greatest, 3, (some .int), [], false, 4, g, l)
def b_Mo_greatest_0 (g : GG) : Blk := [(1, o_aload 0), (1, o_iload 1), (1, o_iload 2), (3, o_callR (o_call0 T_Mo_isNoPlace 3) 10 3)]
def b_Mo_greatest_6 (g : GG) : Blk := [(3, o_ifne 35), (1, o_aload 0), (1, o_aload 0), (3, o_getf 10 17), (1, o_push (.int 4)), (1, o_iload 1), (1, o_imul), (1, o_iload 2), (1, o_iadd), (1, o_zald), (3, o_ifne 27), (1, o_push (.int 1)), (3, o_goto 28)]
def b_Mo_greatest_27 (g : GG) : Blk := [(1, o_push (.int 0))]
def b_Mo_greatest_28 (g : GG) : Blk := [(1, o_push (.int 2)), (3, o_callR (o_call0 T_Mo_isThrown 3) 10 3)]
def b_Mo_greatest_32 (g : GG) : Blk := [(3, o_ifeq 39)]
def b_Mo_greatest_35 (g : GG) : Blk := [(1, o_push (.int 0)), (3, o_goto 49)]
def b_Mo_greatest_39 (g : GG) : Blk := [(1, o_aload 0), (3, o_getf 10 15), (1, o_push (.int 4)), (1, o_iload 1), (1, o_imul), (1, o_iload 2), (1, o_iadd), (1, o_iald)]
def b_Mo_greatest_49 (g : GG) : Blk := [(1, o_iret)]
set_option maxRecDepth 8000 in
theorem okb_Mo_greatest_0 (g : GG) (l : Launch) (hst : l.stackTraces = false) : BlkOk (m_Mo_greatest g l) 0 (b_Mo_greatest_0 g) := 
  ⟨ok_aload_n (by decide +kernel : decode cX9_greatest 0 = .ok (.aload_n 0, 1)) rfl,
  ⟨ok_iload_n (by decide +kernel : decode cX9_greatest 1 = .ok (.iload_n 1, 1)) rfl,
  ⟨ok_iload_n (by decide +kernel : decode cX9_greatest 2 = .ok (.iload_n 2, 1)) rfl,
  ⟨(ok_callV (k := 2) cls_10 (s_Mo_isNoPlace g l hst) (show 2 < 4 from by decide) (Nat.le_of_ble_eq_true rfl) rfl rfl tw_1490 tw_1492 ts_51 tw_9 tw_1493 ⟨by decide, by decide, by decide⟩ (by decide +kernel : decode cX9_greatest 3 = .ok (.invokevirtual 213, 3))).mono callR0_of, trivial⟩⟩⟩⟩
set_option maxRecDepth 8000 in
theorem okb_Mo_greatest_6 (g : GG) (l : Launch) (hst : l.stackTraces = false) : BlkOk (m_Mo_greatest g l) 6 (b_Mo_greatest_6 g) := 
  ⟨ok_ifne (by decide) (by decide +kernel : decode cX9_greatest 6 = .ok (.ifCond .ne 29, 3)),
  ⟨ok_aload_n (by decide +kernel : decode cX9_greatest 9 = .ok (.aload_n 0, 1)) rfl,
  ⟨ok_aload_n (by decide +kernel : decode cX9_greatest 10 = .ok (.aload_n 0, 1)) rfl,
  ⟨ok_getf cls_10 (Nat.le_of_ble_eq_true rfl) tw_1275 rfl (by decide +kernel : decode cX9_greatest 11 = .ok (.getfield 43, 3)),
  ⟨ok_iconst (by decide) (by decide +kernel : decode cX9_greatest 14 = .ok (.iconst 4, 1)),
  ⟨ok_iload_n (by decide +kernel : decode cX9_greatest 15 = .ok (.iload_n 1, 1)) rfl,
  ⟨ok_imul (by decide +kernel : decode cX9_greatest 16 = .ok (.imul, 1)),
  ⟨ok_iload_n (by decide +kernel : decode cX9_greatest 17 = .ok (.iload_n 2, 1)) rfl,
  ⟨ok_iadd (by decide +kernel : decode cX9_greatest 18 = .ok (.iadd, 1)),
  ⟨ok_zald (by decide +kernel : decode cX9_greatest 19 = .ok (.baload, 1)),
  ⟨ok_ifne (by decide) (by decide +kernel : decode cX9_greatest 20 = .ok (.ifCond .ne 7, 3)),
  ⟨ok_iconst (by decide) (by decide +kernel : decode cX9_greatest 23 = .ok (.iconst 1, 1)),
  ⟨ok_goto (by decide) (by decide +kernel : decode cX9_greatest 24 = .ok (.goto 4, 3)), trivial⟩⟩⟩⟩⟩⟩⟩⟩⟩⟩⟩⟩⟩
set_option maxRecDepth 8000 in
theorem okb_Mo_greatest_27 (g : GG) (l : Launch) (hst : l.stackTraces = false) : BlkOk (m_Mo_greatest g l) 27 (b_Mo_greatest_27 g) := 
  ⟨ok_iconst (by decide) (by decide +kernel : decode cX9_greatest 27 = .ok (.iconst 0, 1)), trivial⟩
set_option maxRecDepth 8000 in
theorem okb_Mo_greatest_28 (g : GG) (l : Launch) (hst : l.stackTraces = false) : BlkOk (m_Mo_greatest g l) 28 (b_Mo_greatest_28 g) := 
  ⟨ok_iconst (by decide) (by decide +kernel : decode cX9_greatest 28 = .ok (.iconst 2, 1)),
  ⟨(ok_callV (k := 2) cls_10 (s_Mo_isThrown g l hst) (show 1 < 4 from by decide) (Nat.le_of_ble_eq_true rfl) rfl rfl tw_1427 tw_1429 ts_43 tw_9 tw_1430 ⟨by decide, by decide, by decide⟩ (by decide +kernel : decode cX9_greatest 29 = .ok (.invokevirtual 149, 3))).mono callR0_of, trivial⟩⟩
set_option maxRecDepth 8000 in
theorem okb_Mo_greatest_32 (g : GG) (l : Launch) (hst : l.stackTraces = false) : BlkOk (m_Mo_greatest g l) 32 (b_Mo_greatest_32 g) := 
  ⟨ok_ifeq (by decide) (by decide +kernel : decode cX9_greatest 32 = .ok (.ifCond .eq 7, 3)), trivial⟩
set_option maxRecDepth 8000 in
theorem okb_Mo_greatest_35 (g : GG) (l : Launch) (hst : l.stackTraces = false) : BlkOk (m_Mo_greatest g l) 35 (b_Mo_greatest_35 g) := 
  ⟨ok_iconst (by decide) (by decide +kernel : decode cX9_greatest 35 = .ok (.iconst 0, 1)),
  ⟨ok_goto (by decide) (by decide +kernel : decode cX9_greatest 36 = .ok (.goto 13, 3)), trivial⟩⟩
set_option maxRecDepth 8000 in
theorem okb_Mo_greatest_39 (g : GG) (l : Launch) (hst : l.stackTraces = false) : BlkOk (m_Mo_greatest g l) 39 (b_Mo_greatest_39 g) := 
  ⟨ok_aload_n (by decide +kernel : decode cX9_greatest 39 = .ok (.aload_n 0, 1)) rfl,
  ⟨ok_getf cls_10 (Nat.le_of_ble_eq_true rfl) tw_1273 rfl (by decide +kernel : decode cX9_greatest 40 = .ok (.getfield 37, 3)),
  ⟨ok_iconst (by decide) (by decide +kernel : decode cX9_greatest 43 = .ok (.iconst 4, 1)),
  ⟨ok_iload_n (by decide +kernel : decode cX9_greatest 44 = .ok (.iload_n 1, 1)) rfl,
  ⟨ok_imul (by decide +kernel : decode cX9_greatest 45 = .ok (.imul, 1)),
  ⟨ok_iload_n (by decide +kernel : decode cX9_greatest 46 = .ok (.iload_n 2, 1)) rfl,
  ⟨ok_iadd (by decide +kernel : decode cX9_greatest 47 = .ok (.iadd, 1)),
  ⟨ok_iald (by decide +kernel : decode cX9_greatest 48 = .ok (.iaload, 1)), trivial⟩⟩⟩⟩⟩⟩⟩⟩
set_option maxRecDepth 8000 in
theorem okb_Mo_greatest_49 (g : GG) (l : Launch) (hst : l.stackTraces = false) : BlkOk (m_Mo_greatest g l) 49 (b_Mo_greatest_49 g) := 
  ⟨ok_iret rfl (by decide +kernel : decode cX9_greatest 49 = .ok (.ireturn, 1)), trivial⟩
def k_Mo_greatest (g : GG) : List (Nat × Blk) := [(0, b_Mo_greatest_0 g), (6, b_Mo_greatest_6 g), (27, b_Mo_greatest_27 g), (28, b_Mo_greatest_28 g), (32, b_Mo_greatest_32 g), (35, b_Mo_greatest_35 g), (39, b_Mo_greatest_39 g), (49, b_Mo_greatest_49 g)]
theorem ok_Mo_greatest (g : GG) (l : Launch) (hst : l.stackTraces = false) : ∀ b ∈ k_Mo_greatest g, BlkOk (m_Mo_greatest g l) b.1 b.2 := List.forall_mem_cons.mpr ⟨okb_Mo_greatest_0 g l hst, List.forall_mem_cons.mpr ⟨okb_Mo_greatest_6 g l hst, List.forall_mem_cons.mpr ⟨okb_Mo_greatest_27 g l hst, List.forall_mem_cons.mpr ⟨okb_Mo_greatest_28 g l hst, List.forall_mem_cons.mpr ⟨okb_Mo_greatest_32 g l hst, List.forall_mem_cons.mpr ⟨okb_Mo_greatest_35 g l hst, List.forall_mem_cons.mpr ⟨okb_Mo_greatest_39 g l hst, List.forall_mem_cons.mpr ⟨okb_Mo_greatest_49 g l hst, fun _ h => by cases h⟩⟩⟩⟩⟩⟩⟩⟩
def i_Mo_greatest (g : GG) : List (Nat × Blk) := [(27, b_Mo_greatest_27 g), (28, b_Mo_greatest_28 g), (35, b_Mo_greatest_35 g), (39, b_Mo_greatest_39 g), (49, b_Mo_greatest_49 g)]
theorem is_Mo_greatest (g : GG) : ∀ x ∈ i_Mo_greatest g, x ∈ k_Mo_greatest g := sub_at [2, 3, 5, 6, 7] rfl
theorem w_Mo_greatest_0 (g : GG) (u : Unit) (n : List Unit) (B : Bx) (Q : Option Value → AH → Prop) (X : String → AH → Prop) (lv : LV) (st : List Value) (f : AH) (bc bs : Nat) : wpF (i_Mo_greatest g) (u :: n) B Q X 0 lv st f bc bs = B 0 lv st f bc bs := (rfl)
theorem w_Mo_greatest_6 (g : GG) (u : Unit) (n : List Unit) (B : Bx) (Q : Option Value → AH → Prop) (X : String → AH → Prop) (lv : LV) (st : List Value) (f : AH) (bc bs : Nat) : wpF (i_Mo_greatest g) (u :: n) B Q X 6 lv st f bc bs = B 6 lv st f bc bs := (rfl)
theorem w_Mo_greatest_27 (g : GG) (u : Unit) (n : List Unit) (B : Bx) (Q : Option Value → AH → Prop) (X : String → AH → Prop) (lv : LV) (st : List Value) (f : AH) (bc bs : Nat) : wpF (i_Mo_greatest g) (u :: n) B Q X 27 lv st f bc bs = wpL (b_Mo_greatest_27 g) 27 lv st f bc bs (wpF (i_Mo_greatest g) n B Q X) Q X := (rfl)
theorem w_Mo_greatest_28 (g : GG) (u : Unit) (n : List Unit) (B : Bx) (Q : Option Value → AH → Prop) (X : String → AH → Prop) (lv : LV) (st : List Value) (f : AH) (bc bs : Nat) : wpF (i_Mo_greatest g) (u :: n) B Q X 28 lv st f bc bs = wpL (b_Mo_greatest_28 g) 28 lv st f bc bs (wpF (i_Mo_greatest g) n B Q X) Q X := (rfl)
theorem w_Mo_greatest_32 (g : GG) (u : Unit) (n : List Unit) (B : Bx) (Q : Option Value → AH → Prop) (X : String → AH → Prop) (lv : LV) (st : List Value) (f : AH) (bc bs : Nat) : wpF (i_Mo_greatest g) (u :: n) B Q X 32 lv st f bc bs = B 32 lv st f bc bs := (rfl)
theorem w_Mo_greatest_35 (g : GG) (u : Unit) (n : List Unit) (B : Bx) (Q : Option Value → AH → Prop) (X : String → AH → Prop) (lv : LV) (st : List Value) (f : AH) (bc bs : Nat) : wpF (i_Mo_greatest g) (u :: n) B Q X 35 lv st f bc bs = wpL (b_Mo_greatest_35 g) 35 lv st f bc bs (wpF (i_Mo_greatest g) n B Q X) Q X := (rfl)
theorem w_Mo_greatest_39 (g : GG) (u : Unit) (n : List Unit) (B : Bx) (Q : Option Value → AH → Prop) (X : String → AH → Prop) (lv : LV) (st : List Value) (f : AH) (bc bs : Nat) : wpF (i_Mo_greatest g) (u :: n) B Q X 39 lv st f bc bs = wpL (b_Mo_greatest_39 g) 39 lv st f bc bs (wpF (i_Mo_greatest g) n B Q X) Q X := (rfl)
theorem w_Mo_greatest_49 (g : GG) (u : Unit) (n : List Unit) (B : Bx) (Q : Option Value → AH → Prop) (X : String → AH → Prop) (lv : LV) (st : List Value) (f : AH) (bc bs : Nat) : wpF (i_Mo_greatest g) (u :: n) B Q X 49 lv st f bc bs = wpL (b_Mo_greatest_49 g) 49 lv st f bc bs (wpF (i_Mo_greatest g) n B Q X) Q X := (rfl)
set_option maxRecDepth 4000 in
set_option maxHeartbeats 4000000 in
theorem s_Mo_greatest (g : GG) (l : Launch) (hst : l.stackTraces = false) : Snd yX9_greatest (m_Mo_greatest g l) 0 0 T_Mo_greatest := by
  refine snd_of (plainFor_of_name (by decide)) rfl (fun h => by first | rfl | cases h) rfl hst (k_Mo_greatest g) (ok_Mo_greatest g l hst) ?_
  rintro as f Q X ⟨f0, ad, cm, cl, k, c, rfl, hM, hp, hq⟩
  refine ⟨[some (.ref (ad 0)), some (.int k), some (.int c)], rfl, Nat.le_of_ble_eq_true rfl, fun B run => ?_⟩
  cases h1 : noPlace cm k c
  · obtain ⟨a, b, ha, -, hb, rfl, rfl⟩ := noPlace_f hp h1
    by_cases h2 : cm 17 0 (4 * a + b) = 0 <;> simp [leastM, h1, h2, nn_nI (show a < 2147483648 by omega), nn_nI (show b < 2147483648 by omega)] at hq
    all_goals repeat (first | (refine hq _ ?_; exact hM) | (refine j_Mo_isNoPlace_ (b := true) hM ?_ fun f hM => ?_; (focus with_reducible assumption)) | (refine j_Mo_isNoPlace_ (b := false) hM ?_ fun f hM => ?_; (focus with_reducible assumption)) | (refine i_Mo_isNoPlace_ hM fun f hM => ?_) | refine j_Mo_isThrown (b := true) hM rfl fun f hM => ?_ | refine j_Mo_isThrown (b := false) hM rfl fun f hM => ?_ | (refine run _ _ (i_Mo_greatest g) [(), (), (), (), (), ()] rfl (is_Mo_greatest g) _ _ _ _ _ ?_; (try simp only [Option.toList_some, Option.toList_none, List.cons_append, List.nil_append, List.append_nil]); simp -dsimp (disch := omega) only [h2, thr_n, wdC_n, wrC_n, tchC_n, wpF_0, ↓hobj_c hM.obj, mf_len, mf_15, ↓hAI_c (hM.ar 15 rfl), mf_17, ↓hAI_c (hM.ar 17 rfl), eq_self, nI_dec, ixE, nI_4m, nI_16m, nI_10m, nI_2m, nI_add, nI_1, nI_p2, nI_p3, nI_pred, c3_n, c3_s, c3_i, upd_s, upd_n, rowU_n, rowU_ge, true_imp_iff, false_imp_iff, not_true_eq_false, not_false_eq_true, b2i_t, b2i_f, i32_10, i32_00, i32_11, ite_true_I, false_and, and_false, true_and, and_true, or_true, true_or, false_or, or_false, w_Mo_greatest_0, w_Mo_greatest_6, w_Mo_greatest_27, w_Mo_greatest_28, w_Mo_greatest_32, w_Mo_greatest_35, w_Mo_greatest_39, w_Mo_greatest_49, ↓b_Mo_greatest_0, ↓b_Mo_greatest_6, ↓b_Mo_greatest_27, ↓b_Mo_greatest_28, ↓b_Mo_greatest_32, ↓b_Mo_greatest_35, ↓b_Mo_greatest_39, ↓b_Mo_greatest_49, ↓wpL_n, ↓wpL_c, ↓e_iadd, ↓e_isub, ↓e_imul, ↓e_iand, ↓e_ior, ↓e_ixor, ↓e_ishl, ↓e_ishr, ↓e_iushr, ↓e_idiv, ↓e_irem, ↓e_ineg, ↓e_ladd, ↓e_lcmp, ↓e_i2l, ↓e_i2c, ↓e_i2d, ↓e_i2f, ↓e_l2f, ↓e_f2d, ↓e_fdiv, ↓e_ddiv, ↓e_dcmp_l, ↓e_fcmp_l, ↓e_dcmp_g, ↓e_fcmp_g, ↓e_push, ↓e_iload, ↓e_fload, ↓e_dload, ↓e_aload, ↓e_istore, ↓e_fstore, ↓e_astore, ↓e_iinc, ↓e_ifeq, ↓e_iceq, ↓e_ifne, ↓e_icne, ↓e_iflt, ↓e_iclt, ↓e_ifge, ↓e_icge, ↓e_ifgt, ↓e_icgt, ↓e_ifle, ↓e_icle, ↓e_goto, ↓e_dup, ↓e_pop, ↓e_dup_x1, ↓e_dup2, ↓e_getf, ↓e_putI, ↓e_putJ, ↓e_putC, ↓e_putR, ↓e_iald, ↓e_zald, ↓e_cald, ↓e_lald, ↓e_dald, ↓e_iast, ↓e_zast, ↓e_cast, ↓e_last, ↓e_dast, ↓e_aald, ↓e_alen, ↓e_throw, ↓e_iret, ↓e_zret, ↓e_cret, ↓e_aret, ↓e_lret, ↓e_fret, ↓e_dret, ↓e_vret, ↓e_new, ↓e_newarr, ↓e_pop1, ↓e_scald, ↓e_salen, ↓e_call, ↓e_callV, ↓e_callI, ↓e_call0, ↓e_callR, PI_e, PFl_e, PD_e, PR_e, PO_e, PHd_e, PA_e, PA_n, IX_e, IX_0, reduceIte, lget, lset, lclr, fget, ctake, cdrop, c1, Nat.reduceAdd, List.reverse_cons, List.reverse_nil, List.nil_append, List.cons_append, Option.toList_some, Option.toList_none, List.length_cons, List.length_nil, true_and, and_true, true_or, or_true, Nat.reduceLeDiff, Nat.reduceLT, Nat.zero_le, List.append_nil]) | refine ⟨_, rfl, by omega, by omega, ?_⟩ | (refine And.intro ?_ ?_; focus (first | exact b2i_01 _ | assumption | decide | (simp; done))))
  · simp [leastM, h1] at hq
    repeat (first | (refine hq _ ?_; exact hM) | (refine j_Mo_isNoPlace_ (b := true) hM ?_ fun f hM => ?_; (focus with_reducible assumption)) | (refine j_Mo_isNoPlace_ (b := false) hM ?_ fun f hM => ?_; (focus with_reducible assumption)) | (refine i_Mo_isNoPlace_ hM fun f hM => ?_) | refine j_Mo_isThrown (b := true) hM rfl fun f hM => ?_ | refine j_Mo_isThrown (b := false) hM rfl fun f hM => ?_ | (refine run _ _ (i_Mo_greatest g) [(), (), (), (), (), ()] rfl (is_Mo_greatest g) _ _ _ _ _ ?_; (try simp only [Option.toList_some, Option.toList_none, List.cons_append, List.nil_append, List.append_nil]); simp -dsimp (disch := omega) only [thr_n, wdC_n, wrC_n, tchC_n, wpF_0, ↓hobj_c hM.obj, mf_len, mf_15, ↓hAI_c (hM.ar 15 rfl), mf_17, ↓hAI_c (hM.ar 17 rfl), eq_self, nI_dec, ixE, nI_4m, nI_16m, nI_10m, nI_2m, nI_add, nI_1, nI_p2, nI_p3, nI_pred, c3_n, c3_s, c3_i, upd_s, upd_n, rowU_n, rowU_ge, true_imp_iff, false_imp_iff, not_true_eq_false, not_false_eq_true, b2i_t, b2i_f, i32_10, i32_00, i32_11, ite_true_I, false_and, and_false, true_and, and_true, or_true, true_or, false_or, or_false, w_Mo_greatest_0, w_Mo_greatest_6, w_Mo_greatest_27, w_Mo_greatest_28, w_Mo_greatest_32, w_Mo_greatest_35, w_Mo_greatest_39, w_Mo_greatest_49, ↓b_Mo_greatest_0, ↓b_Mo_greatest_6, ↓b_Mo_greatest_27, ↓b_Mo_greatest_28, ↓b_Mo_greatest_32, ↓b_Mo_greatest_35, ↓b_Mo_greatest_39, ↓b_Mo_greatest_49, ↓wpL_n, ↓wpL_c, ↓e_iadd, ↓e_isub, ↓e_imul, ↓e_iand, ↓e_ior, ↓e_ixor, ↓e_ishl, ↓e_ishr, ↓e_iushr, ↓e_idiv, ↓e_irem, ↓e_ineg, ↓e_ladd, ↓e_lcmp, ↓e_i2l, ↓e_i2c, ↓e_i2d, ↓e_i2f, ↓e_l2f, ↓e_f2d, ↓e_fdiv, ↓e_ddiv, ↓e_dcmp_l, ↓e_fcmp_l, ↓e_dcmp_g, ↓e_fcmp_g, ↓e_push, ↓e_iload, ↓e_fload, ↓e_dload, ↓e_aload, ↓e_istore, ↓e_fstore, ↓e_astore, ↓e_iinc, ↓e_ifeq, ↓e_iceq, ↓e_ifne, ↓e_icne, ↓e_iflt, ↓e_iclt, ↓e_ifge, ↓e_icge, ↓e_ifgt, ↓e_icgt, ↓e_ifle, ↓e_icle, ↓e_goto, ↓e_dup, ↓e_pop, ↓e_dup_x1, ↓e_dup2, ↓e_getf, ↓e_putI, ↓e_putJ, ↓e_putC, ↓e_putR, ↓e_iald, ↓e_zald, ↓e_cald, ↓e_lald, ↓e_dald, ↓e_iast, ↓e_zast, ↓e_cast, ↓e_last, ↓e_dast, ↓e_aald, ↓e_alen, ↓e_throw, ↓e_iret, ↓e_zret, ↓e_cret, ↓e_aret, ↓e_lret, ↓e_fret, ↓e_dret, ↓e_vret, ↓e_new, ↓e_newarr, ↓e_pop1, ↓e_scald, ↓e_salen, ↓e_call, ↓e_callV, ↓e_callI, ↓e_call0, ↓e_callR, PI_e, PFl_e, PD_e, PR_e, PO_e, PHd_e, PA_e, PA_n, IX_e, IX_0, reduceIte, lget, lset, lclr, fget, ctake, cdrop, c1, Nat.reduceAdd, List.reverse_cons, List.reverse_nil, List.nil_append, List.cons_append, Option.toList_some, Option.toList_none, List.length_cons, List.length_nil, true_and, and_true, true_or, or_true, Nat.reduceLeDiff, Nat.reduceLT, Nat.zero_le, List.append_nil]) | refine ⟨_, rfl, by omega, by omega, ?_⟩ | (refine And.intro ?_ ?_; focus (first | exact b2i_01 _ | assumption | decide | (simp; done))))
def T_Mo_mayMiss : Spec2 := fun as f Q _ => ∃ (f0 : AH) (ad : Nat → Nat) (cm : CM) (cl : CL) (k : Int32) (c : Int32), as = [.ref (ad 0), .int k, .int c] ∧ MR f0 f ad cm cl ∧ (Nb (cm 0 0 0) 160) ∧ ∀ f', MR f0 f' ad (thr cm (noPlace cm k c) 1) (cl) → Q (some (.int (b2i (!noPlace cm k c && !decide (cm 18 0 (4 * nn k + nn c) = 0))))) f'
theorem i_Mo_mayMiss_ {f0 : AH} {ad : Nat → Nat} {cm : CM} {cl : CL} {k : Int32} {c : Int32} {f : AH} {Q : Option Value → AH → Prop} {X : String → AH → Prop} (hM : MR f0 f ad cm cl) (hp : Nb (cm 0 0 0) 160) (h : ∀ f', MR f0 f' ad (thr cm (noPlace cm k c) 1) (cl) → Q (some (.int (b2i (!noPlace cm k c && !decide (cm 18 0 (4 * nn k + nn c) = 0))))) f') : T_Mo_mayMiss [.ref (ad 0), .int k, .int c] f Q X := ⟨f0, ad, cm, cl, k, c, rfl, hM, hp, h⟩
theorem j_Mo_mayMiss_ {f0 : AH} {ad : Nat → Nat} {cm : CM} {cl : CL} {k : Int32} {c : Int32} {b : Bool} {f : AH} {Q : Option Value → AH → Prop} {X : String → AH → Prop} (hM : MR f0 f ad cm cl) (hp : Nb (cm 0 0 0) 160) (hb : (!noPlace cm k c && !decide (cm 18 0 (4 * nn k + nn c) = 0)) = b) (h : ∀ f', MR f0 f' ad (thr cm (noPlace cm k c) 1) (cl) → Q (some (.int (b2i b))) f') : T_Mo_mayMiss [.ref (ad 0), .int k, .int c] f Q X := by subst hb; exact i_Mo_mayMiss_ hM hp h
abbrev m_Mo_mayMiss (g : GG) (l : Launch) : MI := (RX9, cX9_mayMiss, 3, (some .boolean), [], false, 4, g, l)
def b_Mo_mayMiss_0 (g : GG) : Blk := [(1, o_aload 0), (1, o_iload 1), (1, o_iload 2), (3, o_callR (o_call0 T_Mo_isNoPlace 3) 10 3)]
def b_Mo_mayMiss_6 (g : GG) : Blk := [(3, o_ifne 26), (1, o_aload 0), (3, o_getf 10 18), (1, o_push (.int 4)), (1, o_iload 1), (1, o_imul), (1, o_iload 2), (1, o_iadd), (1, o_zald), (3, o_ifeq 26), (1, o_push (.int 1)), (3, o_goto 27)]
def b_Mo_mayMiss_26 (g : GG) : Blk := [(1, o_push (.int 0))]
def b_Mo_mayMiss_27 (g : GG) : Blk := [(1, o_zret)]
set_option maxRecDepth 8000 in
theorem okb_Mo_mayMiss_0 (g : GG) (l : Launch) (hst : l.stackTraces = false) : BlkOk (m_Mo_mayMiss g l) 0 (b_Mo_mayMiss_0 g) := 
  ⟨ok_aload_n (by decide +kernel : decode cX9_mayMiss 0 = .ok (.aload_n 0, 1)) rfl,
  ⟨ok_iload_n (by decide +kernel : decode cX9_mayMiss 1 = .ok (.iload_n 1, 1)) rfl,
  ⟨ok_iload_n (by decide +kernel : decode cX9_mayMiss 2 = .ok (.iload_n 2, 1)) rfl,
  ⟨(ok_callV (k := 2) cls_10 (s_Mo_isNoPlace g l hst) (show 2 < 4 from by decide) (Nat.le_of_ble_eq_true rfl) rfl rfl tw_1490 tw_1492 ts_51 tw_9 tw_1493 ⟨by decide, by decide, by decide⟩ (by decide +kernel : decode cX9_mayMiss 3 = .ok (.invokevirtual 213, 3))).mono callR0_of, trivial⟩⟩⟩⟩
set_option maxRecDepth 8000 in
theorem okb_Mo_mayMiss_6 (g : GG) (l : Launch) (hst : l.stackTraces = false) : BlkOk (m_Mo_mayMiss g l) 6 (b_Mo_mayMiss_6 g) := 
  ⟨ok_ifne (by decide) (by decide +kernel : decode cX9_mayMiss 6 = .ok (.ifCond .ne 20, 3)),
  ⟨ok_aload_n (by decide +kernel : decode cX9_mayMiss 9 = .ok (.aload_n 0, 1)) rfl,
  ⟨ok_getf cls_10 (Nat.le_of_ble_eq_true rfl) tw_1276 rfl (by decide +kernel : decode cX9_mayMiss 10 = .ok (.getfield 47, 3)),
  ⟨ok_iconst (by decide) (by decide +kernel : decode cX9_mayMiss 13 = .ok (.iconst 4, 1)),
  ⟨ok_iload_n (by decide +kernel : decode cX9_mayMiss 14 = .ok (.iload_n 1, 1)) rfl,
  ⟨ok_imul (by decide +kernel : decode cX9_mayMiss 15 = .ok (.imul, 1)),
  ⟨ok_iload_n (by decide +kernel : decode cX9_mayMiss 16 = .ok (.iload_n 2, 1)) rfl,
  ⟨ok_iadd (by decide +kernel : decode cX9_mayMiss 17 = .ok (.iadd, 1)),
  ⟨ok_zald (by decide +kernel : decode cX9_mayMiss 18 = .ok (.baload, 1)),
  ⟨ok_ifeq (by decide) (by decide +kernel : decode cX9_mayMiss 19 = .ok (.ifCond .eq 7, 3)),
  ⟨ok_iconst (by decide) (by decide +kernel : decode cX9_mayMiss 22 = .ok (.iconst 1, 1)),
  ⟨ok_goto (by decide) (by decide +kernel : decode cX9_mayMiss 23 = .ok (.goto 4, 3)), trivial⟩⟩⟩⟩⟩⟩⟩⟩⟩⟩⟩⟩
set_option maxRecDepth 8000 in
theorem okb_Mo_mayMiss_26 (g : GG) (l : Launch) (hst : l.stackTraces = false) : BlkOk (m_Mo_mayMiss g l) 26 (b_Mo_mayMiss_26 g) := 
  ⟨ok_iconst (by decide) (by decide +kernel : decode cX9_mayMiss 26 = .ok (.iconst 0, 1)), trivial⟩
set_option maxRecDepth 8000 in
theorem okb_Mo_mayMiss_27 (g : GG) (l : Launch) (hst : l.stackTraces = false) : BlkOk (m_Mo_mayMiss g l) 27 (b_Mo_mayMiss_27 g) := 
  ⟨ok_zret rfl (by decide +kernel : decode cX9_mayMiss 27 = .ok (.ireturn, 1)), trivial⟩
def k_Mo_mayMiss (g : GG) : List (Nat × Blk) := [(0, b_Mo_mayMiss_0 g), (6, b_Mo_mayMiss_6 g), (26, b_Mo_mayMiss_26 g), (27, b_Mo_mayMiss_27 g)]
theorem ok_Mo_mayMiss (g : GG) (l : Launch) (hst : l.stackTraces = false) : ∀ b ∈ k_Mo_mayMiss g, BlkOk (m_Mo_mayMiss g l) b.1 b.2 := List.forall_mem_cons.mpr ⟨okb_Mo_mayMiss_0 g l hst, List.forall_mem_cons.mpr ⟨okb_Mo_mayMiss_6 g l hst, List.forall_mem_cons.mpr ⟨okb_Mo_mayMiss_26 g l hst, List.forall_mem_cons.mpr ⟨okb_Mo_mayMiss_27 g l hst, fun _ h => by cases h⟩⟩⟩⟩
def i_Mo_mayMiss (g : GG) : List (Nat × Blk) := [(26, b_Mo_mayMiss_26 g), (27, b_Mo_mayMiss_27 g)]
theorem is_Mo_mayMiss (g : GG) : ∀ x ∈ i_Mo_mayMiss g, x ∈ k_Mo_mayMiss g := sub_at [2, 3] rfl
theorem w_Mo_mayMiss_0 (g : GG) (u : Unit) (n : List Unit) (B : Bx) (Q : Option Value → AH → Prop) (X : String → AH → Prop) (lv : LV) (st : List Value) (f : AH) (bc bs : Nat) : wpF (i_Mo_mayMiss g) (u :: n) B Q X 0 lv st f bc bs = B 0 lv st f bc bs := (rfl)
theorem w_Mo_mayMiss_6 (g : GG) (u : Unit) (n : List Unit) (B : Bx) (Q : Option Value → AH → Prop) (X : String → AH → Prop) (lv : LV) (st : List Value) (f : AH) (bc bs : Nat) : wpF (i_Mo_mayMiss g) (u :: n) B Q X 6 lv st f bc bs = B 6 lv st f bc bs := (rfl)
theorem w_Mo_mayMiss_26 (g : GG) (u : Unit) (n : List Unit) (B : Bx) (Q : Option Value → AH → Prop) (X : String → AH → Prop) (lv : LV) (st : List Value) (f : AH) (bc bs : Nat) : wpF (i_Mo_mayMiss g) (u :: n) B Q X 26 lv st f bc bs = wpL (b_Mo_mayMiss_26 g) 26 lv st f bc bs (wpF (i_Mo_mayMiss g) n B Q X) Q X := (rfl)
theorem w_Mo_mayMiss_27 (g : GG) (u : Unit) (n : List Unit) (B : Bx) (Q : Option Value → AH → Prop) (X : String → AH → Prop) (lv : LV) (st : List Value) (f : AH) (bc bs : Nat) : wpF (i_Mo_mayMiss g) (u :: n) B Q X 27 lv st f bc bs = wpL (b_Mo_mayMiss_27 g) 27 lv st f bc bs (wpF (i_Mo_mayMiss g) n B Q X) Q X := (rfl)
set_option maxRecDepth 4000 in
set_option maxHeartbeats 4000000 in
theorem s_Mo_mayMiss (g : GG) (l : Launch) (hst : l.stackTraces = false) : Snd yX9_mayMiss (m_Mo_mayMiss g l) 0 0 T_Mo_mayMiss := by
  refine snd_of (plainFor_of_name (by decide)) rfl (fun h => by first | rfl | cases h) rfl hst (k_Mo_mayMiss g) (ok_Mo_mayMiss g l hst) ?_
  rintro as f Q X ⟨f0, ad, cm, cl, k, c, rfl, hM, hp, hq⟩
  refine ⟨[some (.ref (ad 0)), some (.int k), some (.int c)], rfl, Nat.le_of_ble_eq_true rfl, fun B run => ?_⟩
  cases h1 : noPlace cm k c
  · obtain ⟨a, b, ha, -, hb, rfl, rfl⟩ := noPlace_f hp h1
    by_cases h2 : cm 18 0 (4 * a + b) = 0 <;> simp [h1, h2, nn_nI (show a < 2147483648 by omega), nn_nI (show b < 2147483648 by omega)] at hq
    all_goals repeat (first | (refine hq _ ?_; exact hM) | (refine j_Mo_isNoPlace_ (b := true) hM ?_ fun f hM => ?_; (focus with_reducible assumption)) | (refine j_Mo_isNoPlace_ (b := false) hM ?_ fun f hM => ?_; (focus with_reducible assumption)) | (refine i_Mo_isNoPlace_ hM fun f hM => ?_) | (refine run _ _ (i_Mo_mayMiss g) [(), (), ()] rfl (is_Mo_mayMiss g) _ _ _ _ _ ?_; (try simp only [Option.toList_some, Option.toList_none, List.cons_append, List.nil_append, List.append_nil]); simp -dsimp (disch := omega) only [h2, thr_n, wdC_n, wrC_n, tchC_n, wpF_0, ↓hobj_c hM.obj, mf_len, mf_18, ↓hAI_c (hM.ar 18 rfl), eq_self, nI_dec, ixE, nI_4m, nI_16m, nI_10m, nI_2m, nI_add, nI_1, nI_p2, nI_p3, nI_pred, c3_n, c3_s, c3_i, upd_s, upd_n, rowU_n, rowU_ge, true_imp_iff, false_imp_iff, not_true_eq_false, not_false_eq_true, b2i_t, b2i_f, i32_10, i32_00, i32_11, ite_true_I, false_and, and_false, true_and, and_true, or_true, true_or, false_or, or_false, w_Mo_mayMiss_0, w_Mo_mayMiss_6, w_Mo_mayMiss_26, w_Mo_mayMiss_27, ↓b_Mo_mayMiss_0, ↓b_Mo_mayMiss_6, ↓b_Mo_mayMiss_26, ↓b_Mo_mayMiss_27, ↓wpL_n, ↓wpL_c, ↓e_iadd, ↓e_isub, ↓e_imul, ↓e_iand, ↓e_ior, ↓e_ixor, ↓e_ishl, ↓e_ishr, ↓e_iushr, ↓e_idiv, ↓e_irem, ↓e_ineg, ↓e_ladd, ↓e_lcmp, ↓e_i2l, ↓e_i2c, ↓e_i2d, ↓e_i2f, ↓e_l2f, ↓e_f2d, ↓e_fdiv, ↓e_ddiv, ↓e_dcmp_l, ↓e_fcmp_l, ↓e_dcmp_g, ↓e_fcmp_g, ↓e_push, ↓e_iload, ↓e_fload, ↓e_dload, ↓e_aload, ↓e_istore, ↓e_fstore, ↓e_astore, ↓e_iinc, ↓e_ifeq, ↓e_iceq, ↓e_ifne, ↓e_icne, ↓e_iflt, ↓e_iclt, ↓e_ifge, ↓e_icge, ↓e_ifgt, ↓e_icgt, ↓e_ifle, ↓e_icle, ↓e_goto, ↓e_dup, ↓e_pop, ↓e_dup_x1, ↓e_dup2, ↓e_getf, ↓e_putI, ↓e_putJ, ↓e_putC, ↓e_putR, ↓e_iald, ↓e_zald, ↓e_cald, ↓e_lald, ↓e_dald, ↓e_iast, ↓e_zast, ↓e_cast, ↓e_last, ↓e_dast, ↓e_aald, ↓e_alen, ↓e_throw, ↓e_iret, ↓e_zret, ↓e_cret, ↓e_aret, ↓e_lret, ↓e_fret, ↓e_dret, ↓e_vret, ↓e_new, ↓e_newarr, ↓e_pop1, ↓e_scald, ↓e_salen, ↓e_call, ↓e_callV, ↓e_callI, ↓e_call0, ↓e_callR, PI_e, PFl_e, PD_e, PR_e, PO_e, PHd_e, PA_e, PA_n, IX_e, IX_0, reduceIte, lget, lset, lclr, fget, ctake, cdrop, c1, Nat.reduceAdd, List.reverse_cons, List.reverse_nil, List.nil_append, List.cons_append, Option.toList_some, Option.toList_none, List.length_cons, List.length_nil, true_and, and_true, true_or, or_true, Nat.reduceLeDiff, Nat.reduceLT, Nat.zero_le, List.append_nil]) | refine ⟨_, rfl, by omega, by omega, ?_⟩ | (refine And.intro ?_ ?_; focus (first | exact b2i_01 _ | assumption | decide | (simp; done))))
  · simp [h1] at hq
    repeat (first | (refine hq _ ?_; exact hM) | (refine j_Mo_isNoPlace_ (b := true) hM ?_ fun f hM => ?_; (focus with_reducible assumption)) | (refine j_Mo_isNoPlace_ (b := false) hM ?_ fun f hM => ?_; (focus with_reducible assumption)) | (refine i_Mo_isNoPlace_ hM fun f hM => ?_) | (refine run _ _ (i_Mo_mayMiss g) [(), (), ()] rfl (is_Mo_mayMiss g) _ _ _ _ _ ?_; (try simp only [Option.toList_some, Option.toList_none, List.cons_append, List.nil_append, List.append_nil]); simp -dsimp (disch := omega) only [thr_n, wdC_n, wrC_n, tchC_n, wpF_0, ↓hobj_c hM.obj, mf_len, mf_18, ↓hAI_c (hM.ar 18 rfl), eq_self, nI_dec, ixE, nI_4m, nI_16m, nI_10m, nI_2m, nI_add, nI_1, nI_p2, nI_p3, nI_pred, c3_n, c3_s, c3_i, upd_s, upd_n, rowU_n, rowU_ge, true_imp_iff, false_imp_iff, not_true_eq_false, not_false_eq_true, b2i_t, b2i_f, i32_10, i32_00, i32_11, ite_true_I, false_and, and_false, true_and, and_true, or_true, true_or, false_or, or_false, w_Mo_mayMiss_0, w_Mo_mayMiss_6, w_Mo_mayMiss_26, w_Mo_mayMiss_27, ↓b_Mo_mayMiss_0, ↓b_Mo_mayMiss_6, ↓b_Mo_mayMiss_26, ↓b_Mo_mayMiss_27, ↓wpL_n, ↓wpL_c, ↓e_iadd, ↓e_isub, ↓e_imul, ↓e_iand, ↓e_ior, ↓e_ixor, ↓e_ishl, ↓e_ishr, ↓e_iushr, ↓e_idiv, ↓e_irem, ↓e_ineg, ↓e_ladd, ↓e_lcmp, ↓e_i2l, ↓e_i2c, ↓e_i2d, ↓e_i2f, ↓e_l2f, ↓e_f2d, ↓e_fdiv, ↓e_ddiv, ↓e_dcmp_l, ↓e_fcmp_l, ↓e_dcmp_g, ↓e_fcmp_g, ↓e_push, ↓e_iload, ↓e_fload, ↓e_dload, ↓e_aload, ↓e_istore, ↓e_fstore, ↓e_astore, ↓e_iinc, ↓e_ifeq, ↓e_iceq, ↓e_ifne, ↓e_icne, ↓e_iflt, ↓e_iclt, ↓e_ifge, ↓e_icge, ↓e_ifgt, ↓e_icgt, ↓e_ifle, ↓e_icle, ↓e_goto, ↓e_dup, ↓e_pop, ↓e_dup_x1, ↓e_dup2, ↓e_getf, ↓e_putI, ↓e_putJ, ↓e_putC, ↓e_putR, ↓e_iald, ↓e_zald, ↓e_cald, ↓e_lald, ↓e_dald, ↓e_iast, ↓e_zast, ↓e_cast, ↓e_last, ↓e_dast, ↓e_aald, ↓e_alen, ↓e_throw, ↓e_iret, ↓e_zret, ↓e_cret, ↓e_aret, ↓e_lret, ↓e_fret, ↓e_dret, ↓e_vret, ↓e_new, ↓e_newarr, ↓e_pop1, ↓e_scald, ↓e_salen, ↓e_call, ↓e_callV, ↓e_callI, ↓e_call0, ↓e_callR, PI_e, PFl_e, PD_e, PR_e, PO_e, PHd_e, PA_e, PA_n, IX_e, IX_0, reduceIte, lget, lset, lclr, fget, ctake, cdrop, c1, Nat.reduceAdd, List.reverse_cons, List.reverse_nil, List.nil_append, List.cons_append, Option.toList_some, Option.toList_none, List.length_cons, List.length_nil, true_and, and_true, true_or, or_true, Nat.reduceLeDiff, Nat.reduceLT, Nat.zero_le, List.append_nil]) | refine ⟨_, rfl, by omega, by omega, ?_⟩ | (refine And.intro ?_ ?_; focus (first | exact b2i_01 _ | assumption | decide | (simp; done))))
def sumI (F : Nat → Int32) : Nat → Int32
  | 0 => 0
  | n + 1 => sumI F n + F n
def opF (cm : CM) (k : Nat) : Int32 := if cm 33 0 k = 0 then 1 else 0
def opN (cm : CM) : Int32 := sumI (opF cm) (nn (cm 4 0 0))
def T_Mo_openNow : Spec2 := fun as f Q _ => ∃ (f0 : AH) (ad : Nat → Nat) (cm : CM) (cl : CL), as = [.ref (ad 0)] ∧ MR f0 f ad cm cl ∧ (Nb (cm 4 0 0) 40) ∧ ∀ f', MR f0 f' ad (cm) (cl) → Q (some (.int (opN cm))) f'
theorem i_Mo_openNow_ {f0 : AH} {ad : Nat → Nat} {cm : CM} {cl : CL}  {f : AH} {Q : Option Value → AH → Prop} {X : String → AH → Prop} (hM : MR f0 f ad cm cl) (hp : Nb (cm 4 0 0) 40) (h : ∀ f', MR f0 f' ad (cm) (cl) → Q (some (.int (opN cm))) f') : T_Mo_openNow [.ref (ad 0)] f Q X := ⟨f0, ad, cm, cl, rfl, hM, hp, h⟩
abbrev m_Mo_openNow (g : GG) (l : Launch) : MI := (RX9, cX9_openNow, 3, (some .int), [], false, 2, g, l)
def b_Mo_openNow_0 (g : GG) : Blk := [(1, o_push (.int 0)), (1, o_istore 1), (1, o_push (.int 0)), (1, o_istore 2)]
def b_Mo_openNow_4 (g : GG) : Blk := [(1, o_iload 2), (1, o_aload 0), (3, o_getf 10 4), (3, o_icge 35), (1, o_iload 1), (1, o_aload 0), (3, o_getf 10 33), (1, o_iload 2), (1, o_iald), (3, o_ifne 26), (1, o_push (.int 1)), (3, o_goto 27)]
def b_Mo_openNow_26 (g : GG) : Blk := [(1, o_push (.int 0))]
def b_Mo_openNow_27 (g : GG) : Blk := [(1, o_iadd), (1, o_istore 1), (3, o_iinc 2 1), (3, o_goto 4)]
def b_Mo_openNow_35 (g : GG) : Blk := [(1, o_iload 1), (1, o_iret)]
set_option maxRecDepth 8000 in
theorem okb_Mo_openNow_0 (g : GG) (l : Launch) (hst : l.stackTraces = false) : BlkOk (m_Mo_openNow g l) 0 (b_Mo_openNow_0 g) := 
  ⟨ok_iconst (by decide) (by decide +kernel : decode cX9_openNow 0 = .ok (.iconst 0, 1)),
  ⟨ok_istore_n rfl (Nat.le_of_ble_eq_true rfl) (by decide +kernel : decode cX9_openNow 1 = .ok (.istore_n 1, 1)),
  ⟨ok_iconst (by decide) (by decide +kernel : decode cX9_openNow 2 = .ok (.iconst 0, 1)),
  ⟨ok_istore_n rfl (Nat.le_of_ble_eq_true rfl) (by decide +kernel : decode cX9_openNow 3 = .ok (.istore_n 2, 1)), trivial⟩⟩⟩⟩
set_option maxRecDepth 8000 in
theorem okb_Mo_openNow_4 (g : GG) (l : Launch) (hst : l.stackTraces = false) : BlkOk (m_Mo_openNow g l) 4 (b_Mo_openNow_4 g) := 
  ⟨ok_iload_n (by decide +kernel : decode cX9_openNow 4 = .ok (.iload_n 2, 1)) rfl,
  ⟨ok_aload_n (by decide +kernel : decode cX9_openNow 5 = .ok (.aload_n 0, 1)) rfl,
  ⟨ok_getf cls_10 (Nat.le_of_ble_eq_true rfl) tw_1262 rfl (by decide +kernel : decode cX9_openNow 6 = .ok (.getfield 227, 3)),
  ⟨ok_icge (by decide) (by decide +kernel : decode cX9_openNow 9 = .ok (.if_icmp .ge 26, 3)),
  ⟨ok_iload_n (by decide +kernel : decode cX9_openNow 12 = .ok (.iload_n 1, 1)) rfl,
  ⟨ok_aload_n (by decide +kernel : decode cX9_openNow 13 = .ok (.aload_n 0, 1)) rfl,
  ⟨ok_getf cls_10 (Nat.le_of_ble_eq_true rfl) tw_1291 rfl (by decide +kernel : decode cX9_openNow 14 = .ok (.getfield 93, 3)),
  ⟨ok_iload_n (by decide +kernel : decode cX9_openNow 17 = .ok (.iload_n 2, 1)) rfl,
  ⟨ok_iald (by decide +kernel : decode cX9_openNow 18 = .ok (.iaload, 1)),
  ⟨ok_ifne (by decide) (by decide +kernel : decode cX9_openNow 19 = .ok (.ifCond .ne 7, 3)),
  ⟨ok_iconst (by decide) (by decide +kernel : decode cX9_openNow 22 = .ok (.iconst 1, 1)),
  ⟨ok_goto (by decide) (by decide +kernel : decode cX9_openNow 23 = .ok (.goto 4, 3)), trivial⟩⟩⟩⟩⟩⟩⟩⟩⟩⟩⟩⟩
set_option maxRecDepth 8000 in
theorem okb_Mo_openNow_26 (g : GG) (l : Launch) (hst : l.stackTraces = false) : BlkOk (m_Mo_openNow g l) 26 (b_Mo_openNow_26 g) := 
  ⟨ok_iconst (by decide) (by decide +kernel : decode cX9_openNow 26 = .ok (.iconst 0, 1)), trivial⟩
set_option maxRecDepth 8000 in
theorem okb_Mo_openNow_27 (g : GG) (l : Launch) (hst : l.stackTraces = false) : BlkOk (m_Mo_openNow g l) 27 (b_Mo_openNow_27 g) := 
  ⟨ok_iadd (by decide +kernel : decode cX9_openNow 27 = .ok (.iadd, 1)),
  ⟨ok_istore_n rfl (Nat.le_of_ble_eq_true rfl) (by decide +kernel : decode cX9_openNow 28 = .ok (.istore_n 1, 1)),
  ⟨ok_iinc (by decide) (Nat.le_of_ble_eq_true rfl) (by decide +kernel : decode cX9_openNow 29 = .ok (.iinc 2 1, 3)),
  ⟨ok_goto (by decide) (by decide +kernel : decode cX9_openNow 32 = .ok (.goto (-28), 3)), trivial⟩⟩⟩⟩
set_option maxRecDepth 8000 in
theorem okb_Mo_openNow_35 (g : GG) (l : Launch) (hst : l.stackTraces = false) : BlkOk (m_Mo_openNow g l) 35 (b_Mo_openNow_35 g) := 
  ⟨ok_iload_n (by decide +kernel : decode cX9_openNow 35 = .ok (.iload_n 1, 1)) rfl,
  ⟨ok_iret rfl (by decide +kernel : decode cX9_openNow 36 = .ok (.ireturn, 1)), trivial⟩⟩
def k_Mo_openNow (g : GG) : List (Nat × Blk) := [(0, b_Mo_openNow_0 g), (4, b_Mo_openNow_4 g), (26, b_Mo_openNow_26 g), (27, b_Mo_openNow_27 g), (35, b_Mo_openNow_35 g)]
theorem ok_Mo_openNow (g : GG) (l : Launch) (hst : l.stackTraces = false) : ∀ b ∈ k_Mo_openNow g, BlkOk (m_Mo_openNow g l) b.1 b.2 := List.forall_mem_cons.mpr ⟨okb_Mo_openNow_0 g l hst, List.forall_mem_cons.mpr ⟨okb_Mo_openNow_4 g l hst, List.forall_mem_cons.mpr ⟨okb_Mo_openNow_26 g l hst, List.forall_mem_cons.mpr ⟨okb_Mo_openNow_27 g l hst, List.forall_mem_cons.mpr ⟨okb_Mo_openNow_35 g l hst, fun _ h => by cases h⟩⟩⟩⟩⟩
def i_Mo_openNow (g : GG) : List (Nat × Blk) := [(26, b_Mo_openNow_26 g), (27, b_Mo_openNow_27 g), (35, b_Mo_openNow_35 g)]
theorem is_Mo_openNow (g : GG) : ∀ x ∈ i_Mo_openNow g, x ∈ k_Mo_openNow g := sub_at [2, 3, 4] rfl
theorem w_Mo_openNow_0 (g : GG) (u : Unit) (n : List Unit) (B : Bx) (Q : Option Value → AH → Prop) (X : String → AH → Prop) (lv : LV) (st : List Value) (f : AH) (bc bs : Nat) : wpF (i_Mo_openNow g) (u :: n) B Q X 0 lv st f bc bs = B 0 lv st f bc bs := (rfl)
theorem w_Mo_openNow_4 (g : GG) (u : Unit) (n : List Unit) (B : Bx) (Q : Option Value → AH → Prop) (X : String → AH → Prop) (lv : LV) (st : List Value) (f : AH) (bc bs : Nat) : wpF (i_Mo_openNow g) (u :: n) B Q X 4 lv st f bc bs = B 4 lv st f bc bs := (rfl)
theorem w_Mo_openNow_26 (g : GG) (u : Unit) (n : List Unit) (B : Bx) (Q : Option Value → AH → Prop) (X : String → AH → Prop) (lv : LV) (st : List Value) (f : AH) (bc bs : Nat) : wpF (i_Mo_openNow g) (u :: n) B Q X 26 lv st f bc bs = wpL (b_Mo_openNow_26 g) 26 lv st f bc bs (wpF (i_Mo_openNow g) n B Q X) Q X := (rfl)
theorem w_Mo_openNow_27 (g : GG) (u : Unit) (n : List Unit) (B : Bx) (Q : Option Value → AH → Prop) (X : String → AH → Prop) (lv : LV) (st : List Value) (f : AH) (bc bs : Nat) : wpF (i_Mo_openNow g) (u :: n) B Q X 27 lv st f bc bs = wpL (b_Mo_openNow_27 g) 27 lv st f bc bs (wpF (i_Mo_openNow g) n B Q X) Q X := (rfl)
theorem w_Mo_openNow_35 (g : GG) (u : Unit) (n : List Unit) (B : Bx) (Q : Option Value → AH → Prop) (X : String → AH → Prop) (lv : LV) (st : List Value) (f : AH) (bc bs : Nat) : wpF (i_Mo_openNow g) (u :: n) B Q X 35 lv st f bc bs = wpL (b_Mo_openNow_35 g) 35 lv st f bc bs (wpF (i_Mo_openNow g) n B Q X) Q X := (rfl)
set_option maxRecDepth 4000 in
set_option maxHeartbeats 4000000 in
theorem s_Mo_openNow (g : GG) (l : Launch) (hst : l.stackTraces = false) : Snd yX9_openNow (m_Mo_openNow g l) 0 0 T_Mo_openNow := by
  refine snd_of (plainFor_of_name (by decide)) rfl (fun h => by first | rfl | cases h) rfl hst (k_Mo_openNow g) (ok_Mo_openNow g l hst) ?_
  rintro as f Q X ⟨f0, ad, cm, cl, rfl, hM, hp, hq⟩
  refine ⟨[some (.ref (ad 0)), none, none], rfl, Nat.le_of_ble_eq_true rfl, fun B run => ?_⟩
  obtain ⟨S, hS, hS2⟩ := hp
  rw [opN, hS2, nn_nI (by omega)] at hq
  have loop : ∀ n k, k + n = S → B 4 [some (.ref (ad 0)), some (.int (sumI (opF cm) k)), some (.int (nI k))] [] f 0 0 := by
    intro n
    induction n with
    | zero =>
      intro k e
      obtain rfl : k = S := e
      repeat (first | (refine hq _ ?_; exact hM) | (refine run _ _ (i_Mo_openNow g) [(), (), (), ()] rfl (is_Mo_openNow g) _ _ _ _ _ ?_; (try simp only [Option.toList_some, Option.toList_none, List.cons_append, List.nil_append, List.append_nil]); simp -dsimp (disch := omega) only [hS2, Int32.le_refl, thr_n, wdC_n, wrC_n, tchC_n, wpF_0, ↓hobj_c hM.obj, mf_len, mf_4, mf_33, ↓hAI_c (hM.ar 33 rfl), eq_self, nI_dec, ixE, nI_4m, nI_16m, nI_10m, nI_2m, nI_add, nI_1, nI_p2, nI_p3, nI_pred, c3_n, c3_s, c3_i, upd_s, upd_n, rowU_n, rowU_ge, true_imp_iff, false_imp_iff, not_true_eq_false, not_false_eq_true, b2i_t, b2i_f, i32_10, i32_00, i32_11, ite_true_I, false_and, and_false, true_and, and_true, or_true, true_or, false_or, or_false, w_Mo_openNow_0, w_Mo_openNow_4, w_Mo_openNow_26, w_Mo_openNow_27, w_Mo_openNow_35, ↓b_Mo_openNow_0, ↓b_Mo_openNow_4, ↓b_Mo_openNow_26, ↓b_Mo_openNow_27, ↓b_Mo_openNow_35, ↓wpL_n, ↓wpL_c, ↓e_iadd, ↓e_isub, ↓e_imul, ↓e_iand, ↓e_ior, ↓e_ixor, ↓e_ishl, ↓e_ishr, ↓e_iushr, ↓e_idiv, ↓e_irem, ↓e_ineg, ↓e_ladd, ↓e_lcmp, ↓e_i2l, ↓e_i2c, ↓e_i2d, ↓e_i2f, ↓e_l2f, ↓e_f2d, ↓e_fdiv, ↓e_ddiv, ↓e_dcmp_l, ↓e_fcmp_l, ↓e_dcmp_g, ↓e_fcmp_g, ↓e_push, ↓e_iload, ↓e_fload, ↓e_dload, ↓e_aload, ↓e_istore, ↓e_fstore, ↓e_astore, ↓e_iinc, ↓e_ifeq, ↓e_iceq, ↓e_ifne, ↓e_icne, ↓e_iflt, ↓e_iclt, ↓e_ifge, ↓e_icge, ↓e_ifgt, ↓e_icgt, ↓e_ifle, ↓e_icle, ↓e_goto, ↓e_dup, ↓e_pop, ↓e_dup_x1, ↓e_dup2, ↓e_getf, ↓e_putI, ↓e_putJ, ↓e_putC, ↓e_putR, ↓e_iald, ↓e_zald, ↓e_cald, ↓e_lald, ↓e_dald, ↓e_iast, ↓e_zast, ↓e_cast, ↓e_last, ↓e_dast, ↓e_aald, ↓e_alen, ↓e_throw, ↓e_iret, ↓e_zret, ↓e_cret, ↓e_aret, ↓e_lret, ↓e_fret, ↓e_dret, ↓e_vret, ↓e_new, ↓e_newarr, ↓e_pop1, ↓e_scald, ↓e_salen, ↓e_call, ↓e_callV, ↓e_callI, ↓e_call0, ↓e_callR, PI_e, PFl_e, PD_e, PR_e, PO_e, PHd_e, PA_e, PA_n, IX_e, IX_0, reduceIte, lget, lset, lclr, fget, ctake, cdrop, c1, Nat.reduceAdd, List.reverse_cons, List.reverse_nil, List.nil_append, List.cons_append, Option.toList_some, Option.toList_none, List.length_cons, List.length_nil, true_and, and_true, true_or, or_true, Nat.reduceLeDiff, Nat.reduceLT, Nat.zero_le, List.append_nil]) | refine ⟨_, rfl, by omega, by omega, ?_⟩ | (refine And.intro ?_ ?_; focus (first | exact b2i_01 _ | assumption | decide | (simp; done))))
    | succ n ih =>
      intro k e
      have hk : ¬ nI S ≤ nI k := nI_ge (by omega) (by omega)
      have ih := ih (k + 1) (by omega)
      rw [sumI, opF] at ih
      by_cases h1 : cm 33 0 k = 0
      · rw [if_pos h1] at ih
        repeat (first | (refine hq _ ?_; exact hM) | exact ih | (refine run _ _ (i_Mo_openNow g) [(), (), (), ()] rfl (is_Mo_openNow g) _ _ _ _ _ ?_; (try simp only [Option.toList_some, Option.toList_none, List.cons_append, List.nil_append, List.append_nil]); simp -dsimp (disch := omega) only [hS2, hk, h1, thr_n, wdC_n, wrC_n, tchC_n, wpF_0, ↓hobj_c hM.obj, mf_len, mf_4, mf_33, ↓hAI_c (hM.ar 33 rfl), eq_self, nI_dec, ixE, nI_4m, nI_16m, nI_10m, nI_2m, nI_add, nI_1, nI_p2, nI_p3, nI_pred, c3_n, c3_s, c3_i, upd_s, upd_n, rowU_n, rowU_ge, true_imp_iff, false_imp_iff, not_true_eq_false, not_false_eq_true, b2i_t, b2i_f, i32_10, i32_00, i32_11, ite_true_I, false_and, and_false, true_and, and_true, or_true, true_or, false_or, or_false, w_Mo_openNow_0, w_Mo_openNow_4, w_Mo_openNow_26, w_Mo_openNow_27, w_Mo_openNow_35, ↓b_Mo_openNow_0, ↓b_Mo_openNow_4, ↓b_Mo_openNow_26, ↓b_Mo_openNow_27, ↓b_Mo_openNow_35, ↓wpL_n, ↓wpL_c, ↓e_iadd, ↓e_isub, ↓e_imul, ↓e_iand, ↓e_ior, ↓e_ixor, ↓e_ishl, ↓e_ishr, ↓e_iushr, ↓e_idiv, ↓e_irem, ↓e_ineg, ↓e_ladd, ↓e_lcmp, ↓e_i2l, ↓e_i2c, ↓e_i2d, ↓e_i2f, ↓e_l2f, ↓e_f2d, ↓e_fdiv, ↓e_ddiv, ↓e_dcmp_l, ↓e_fcmp_l, ↓e_dcmp_g, ↓e_fcmp_g, ↓e_push, ↓e_iload, ↓e_fload, ↓e_dload, ↓e_aload, ↓e_istore, ↓e_fstore, ↓e_astore, ↓e_iinc, ↓e_ifeq, ↓e_iceq, ↓e_ifne, ↓e_icne, ↓e_iflt, ↓e_iclt, ↓e_ifge, ↓e_icge, ↓e_ifgt, ↓e_icgt, ↓e_ifle, ↓e_icle, ↓e_goto, ↓e_dup, ↓e_pop, ↓e_dup_x1, ↓e_dup2, ↓e_getf, ↓e_putI, ↓e_putJ, ↓e_putC, ↓e_putR, ↓e_iald, ↓e_zald, ↓e_cald, ↓e_lald, ↓e_dald, ↓e_iast, ↓e_zast, ↓e_cast, ↓e_last, ↓e_dast, ↓e_aald, ↓e_alen, ↓e_throw, ↓e_iret, ↓e_zret, ↓e_cret, ↓e_aret, ↓e_lret, ↓e_fret, ↓e_dret, ↓e_vret, ↓e_new, ↓e_newarr, ↓e_pop1, ↓e_scald, ↓e_salen, ↓e_call, ↓e_callV, ↓e_callI, ↓e_call0, ↓e_callR, PI_e, PFl_e, PD_e, PR_e, PO_e, PHd_e, PA_e, PA_n, IX_e, IX_0, reduceIte, lget, lset, lclr, fget, ctake, cdrop, c1, Nat.reduceAdd, List.reverse_cons, List.reverse_nil, List.nil_append, List.cons_append, Option.toList_some, Option.toList_none, List.length_cons, List.length_nil, true_and, and_true, true_or, or_true, Nat.reduceLeDiff, Nat.reduceLT, Nat.zero_le, List.append_nil]) | refine ⟨_, rfl, by omega, by omega, ?_⟩ | (refine And.intro ?_ ?_; focus (first | exact b2i_01 _ | assumption | decide | (simp; done))))
      · rw [if_neg h1] at ih
        repeat (first | (refine hq _ ?_; exact hM) | exact ih | (refine run _ _ (i_Mo_openNow g) [(), (), (), ()] rfl (is_Mo_openNow g) _ _ _ _ _ ?_; (try simp only [Option.toList_some, Option.toList_none, List.cons_append, List.nil_append, List.append_nil]); simp -dsimp (disch := omega) only [hS2, hk, h1, thr_n, wdC_n, wrC_n, tchC_n, wpF_0, ↓hobj_c hM.obj, mf_len, mf_4, mf_33, ↓hAI_c (hM.ar 33 rfl), eq_self, nI_dec, ixE, nI_4m, nI_16m, nI_10m, nI_2m, nI_add, nI_1, nI_p2, nI_p3, nI_pred, c3_n, c3_s, c3_i, upd_s, upd_n, rowU_n, rowU_ge, true_imp_iff, false_imp_iff, not_true_eq_false, not_false_eq_true, b2i_t, b2i_f, i32_10, i32_00, i32_11, ite_true_I, false_and, and_false, true_and, and_true, or_true, true_or, false_or, or_false, w_Mo_openNow_0, w_Mo_openNow_4, w_Mo_openNow_26, w_Mo_openNow_27, w_Mo_openNow_35, ↓b_Mo_openNow_0, ↓b_Mo_openNow_4, ↓b_Mo_openNow_26, ↓b_Mo_openNow_27, ↓b_Mo_openNow_35, ↓wpL_n, ↓wpL_c, ↓e_iadd, ↓e_isub, ↓e_imul, ↓e_iand, ↓e_ior, ↓e_ixor, ↓e_ishl, ↓e_ishr, ↓e_iushr, ↓e_idiv, ↓e_irem, ↓e_ineg, ↓e_ladd, ↓e_lcmp, ↓e_i2l, ↓e_i2c, ↓e_i2d, ↓e_i2f, ↓e_l2f, ↓e_f2d, ↓e_fdiv, ↓e_ddiv, ↓e_dcmp_l, ↓e_fcmp_l, ↓e_dcmp_g, ↓e_fcmp_g, ↓e_push, ↓e_iload, ↓e_fload, ↓e_dload, ↓e_aload, ↓e_istore, ↓e_fstore, ↓e_astore, ↓e_iinc, ↓e_ifeq, ↓e_iceq, ↓e_ifne, ↓e_icne, ↓e_iflt, ↓e_iclt, ↓e_ifge, ↓e_icge, ↓e_ifgt, ↓e_icgt, ↓e_ifle, ↓e_icle, ↓e_goto, ↓e_dup, ↓e_pop, ↓e_dup_x1, ↓e_dup2, ↓e_getf, ↓e_putI, ↓e_putJ, ↓e_putC, ↓e_putR, ↓e_iald, ↓e_zald, ↓e_cald, ↓e_lald, ↓e_dald, ↓e_iast, ↓e_zast, ↓e_cast, ↓e_last, ↓e_dast, ↓e_aald, ↓e_alen, ↓e_throw, ↓e_iret, ↓e_zret, ↓e_cret, ↓e_aret, ↓e_lret, ↓e_fret, ↓e_dret, ↓e_vret, ↓e_new, ↓e_newarr, ↓e_pop1, ↓e_scald, ↓e_salen, ↓e_call, ↓e_callV, ↓e_callI, ↓e_call0, ↓e_callR, PI_e, PFl_e, PD_e, PR_e, PO_e, PHd_e, PA_e, PA_n, IX_e, IX_0, reduceIte, lget, lset, lclr, fget, ctake, cdrop, c1, Nat.reduceAdd, List.reverse_cons, List.reverse_nil, List.nil_append, List.cons_append, Option.toList_some, Option.toList_none, List.length_cons, List.length_nil, true_and, and_true, true_or, or_true, Nat.reduceLeDiff, Nat.reduceLT, Nat.zero_le, List.append_nil]) | refine ⟨_, rfl, by omega, by omega, ?_⟩ | (refine And.intro ?_ ?_; focus (first | exact b2i_01 _ | assumption | decide | (simp; done))))
  repeat (first | (refine hq _ ?_; exact hM) | exact loop S 0 (by omega) | (refine run _ _ (i_Mo_openNow g) [(), (), (), ()] rfl (is_Mo_openNow g) _ _ _ _ _ ?_; (try simp only [Option.toList_some, Option.toList_none, List.cons_append, List.nil_append, List.append_nil]); simp -dsimp (disch := omega) only [thr_n, wdC_n, wrC_n, tchC_n, wpF_0, ↓hobj_c hM.obj, mf_len, mf_4, mf_33, ↓hAI_c (hM.ar 33 rfl), eq_self, nI_dec, ixE, nI_4m, nI_16m, nI_10m, nI_2m, nI_add, nI_1, nI_p2, nI_p3, nI_pred, c3_n, c3_s, c3_i, upd_s, upd_n, rowU_n, rowU_ge, true_imp_iff, false_imp_iff, not_true_eq_false, not_false_eq_true, b2i_t, b2i_f, i32_10, i32_00, i32_11, ite_true_I, false_and, and_false, true_and, and_true, or_true, true_or, false_or, or_false, w_Mo_openNow_0, w_Mo_openNow_4, w_Mo_openNow_26, w_Mo_openNow_27, w_Mo_openNow_35, ↓b_Mo_openNow_0, ↓b_Mo_openNow_4, ↓b_Mo_openNow_26, ↓b_Mo_openNow_27, ↓b_Mo_openNow_35, ↓wpL_n, ↓wpL_c, ↓e_iadd, ↓e_isub, ↓e_imul, ↓e_iand, ↓e_ior, ↓e_ixor, ↓e_ishl, ↓e_ishr, ↓e_iushr, ↓e_idiv, ↓e_irem, ↓e_ineg, ↓e_ladd, ↓e_lcmp, ↓e_i2l, ↓e_i2c, ↓e_i2d, ↓e_i2f, ↓e_l2f, ↓e_f2d, ↓e_fdiv, ↓e_ddiv, ↓e_dcmp_l, ↓e_fcmp_l, ↓e_dcmp_g, ↓e_fcmp_g, ↓e_push, ↓e_iload, ↓e_fload, ↓e_dload, ↓e_aload, ↓e_istore, ↓e_fstore, ↓e_astore, ↓e_iinc, ↓e_ifeq, ↓e_iceq, ↓e_ifne, ↓e_icne, ↓e_iflt, ↓e_iclt, ↓e_ifge, ↓e_icge, ↓e_ifgt, ↓e_icgt, ↓e_ifle, ↓e_icle, ↓e_goto, ↓e_dup, ↓e_pop, ↓e_dup_x1, ↓e_dup2, ↓e_getf, ↓e_putI, ↓e_putJ, ↓e_putC, ↓e_putR, ↓e_iald, ↓e_zald, ↓e_cald, ↓e_lald, ↓e_dald, ↓e_iast, ↓e_zast, ↓e_cast, ↓e_last, ↓e_dast, ↓e_aald, ↓e_alen, ↓e_throw, ↓e_iret, ↓e_zret, ↓e_cret, ↓e_aret, ↓e_lret, ↓e_fret, ↓e_dret, ↓e_vret, ↓e_new, ↓e_newarr, ↓e_pop1, ↓e_scald, ↓e_salen, ↓e_call, ↓e_callV, ↓e_callI, ↓e_call0, ↓e_callR, PI_e, PFl_e, PD_e, PR_e, PO_e, PHd_e, PA_e, PA_n, IX_e, IX_0, reduceIte, lget, lset, lclr, fget, ctake, cdrop, c1, Nat.reduceAdd, List.reverse_cons, List.reverse_nil, List.nil_append, List.cons_append, Option.toList_some, Option.toList_none, List.length_cons, List.length_nil, true_and, and_true, true_or, or_true, Nat.reduceLeDiff, Nat.reduceLT, Nat.zero_le, List.append_nil]) | refine ⟨_, rfl, by omega, by omega, ?_⟩ | (refine And.intro ?_ ?_; focus (first | exact b2i_01 _ | assumption | decide | (simp; done))))

