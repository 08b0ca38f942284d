-- deps: 76.gpd
/-! ===== the class: isSound ===== -/
def KhOk (sh : Sh) (V : CV) : Prop := LsOk sh V 14 ∧ sh.S ≤ 40 ∧ FsOk sh V ∧ FlOk sh V ∧ RcOk sh V ∧ SsOk sh V ∧ sh.N 17 = 960 ∧ sh.N 18 = 4 ∧ ∀ i, i < sh.S → kpB (khT sh V i) (400 + 20 * i) (nn (khT sh V i (400 + 20 * i) 0)) = true → gLk sh (khT sh V (i + 1)) (400 + 20 * i + 4) 16 = true
def T_GP_isSound (g : GG) : Spec2 := fun as f Q X => ∃ (O : AH) (ad : Nat → Nat) (sh : Sh) (V : CV) (L : Int64) (o : Nat) , as = [.ref (ad o)] ∧ CR g O f ad sh V L ∧ kd sh o = 9 ∧ (o = 0 ∧ KhOk sh V ∧ LsOk sh V 4 ∧ sh.C ≤ 10 ∧ BsOk sh ∧ vlB sh (khT sh V sh.S) (nn (khT sh V sh.S 1 2)) = true) ∧ ∀ f', CR g O f' ad sh (khT sh V sh.S) (L) → Q (some (.int (b2i true))) f'
theorem i_GP_isSound_ {g : GG} {O : AH} {ad : Nat → Nat} {sh : Sh} {V : CV} {L : Int64} {o : Nat}  {f : AH} {Q : Option Value → AH → Prop} {X : String → AH → Prop} (hM : CR g O f ad sh V L) (hk : kd sh o = 9) (hp : o = 0 ∧ KhOk sh V ∧ LsOk sh V 4 ∧ sh.C ≤ 10 ∧ BsOk sh ∧ vlB sh (khT sh V sh.S) (nn (khT sh V sh.S 1 2)) = true) (h : ∀ f', CR g O f' ad sh (khT sh V sh.S) (L) → Q (some (.int (b2i true))) f') : T_GP_isSound g [.ref (ad o)] f Q X := ⟨O, ad, sh, V, L, o, rfl, hM, hk, hp, h⟩
abbrev m_GP_isSound (g : GG) (l : Launch) : MI := (RX8, cX8_isSound, 1, (some .boolean), [], false, 10, g, l)
def b_GP_isSound_0 (g : GG) : Blk := [(1, o_aload 0), (3, o_callR (o_call0 (T_GP_keptResultsHold g) 1) 9 1)]
def b_GP_isSound_4 (g : GG) : Blk := [(3, o_ifeq 18), (1, o_aload 0), (3, o_callR (o_call0 (T_GP_valuesLieWithinBounds g) 1) 9 1)]
def b_GP_isSound_11 (g : GG) : Blk := [(3, o_ifeq 18), (1, o_push (.int 1)), (3, o_goto 19)]
def b_GP_isSound_18 (g : GG) : Blk := [(1, o_push (.int 0))]
def b_GP_isSound_19 (g : GG) : Blk := [(1, o_zret)]
set_option maxRecDepth 8000 in
theorem okb_GP_isSound_0 (g : GG) (l : Launch) (hst : l.stackTraces = false) : BlkOk (m_GP_isSound g l) 0 (b_GP_isSound_0 g) := 
  ⟨ok_aload_n (by decide +kernel : decode cX8_isSound 0 = .ok (.aload_n 0, 1)) rfl,
  ⟨(ok_callV (k := 0) cls_9 (s_GP_keptResultsHold g l hst) (show 9 < 10 from by decide) (Nat.le_of_ble_eq_true rfl) rfl rfl tw_186 tw_188 ts_1 tw_1 tw_189 ⟨by decide, by decide, by decide⟩ (by decide +kernel : decode cX8_isSound 1 = .ok (.invokevirtual 296, 3))).mono callR0_of, trivial⟩⟩
set_option maxRecDepth 8000 in
theorem okb_GP_isSound_4 (g : GG) (l : Launch) (hst : l.stackTraces = false) : BlkOk (m_GP_isSound g l) 4 (b_GP_isSound_4 g) := 
  ⟨ok_ifeq (by decide) (by decide +kernel : decode cX8_isSound 4 = .ok (.ifCond .eq 14, 3)),
  ⟨ok_aload_n (by decide +kernel : decode cX8_isSound 7 = .ok (.aload_n 0, 1)) rfl,
  ⟨(ok_callV (k := 0) cls_9 (s_GP_valuesLieWithinBounds g l hst) (show 6 < 10 from by decide) (Nat.le_of_ble_eq_true rfl) rfl rfl tw_369 tw_371 ts_9 tw_1 tw_372 ⟨by decide, by decide, by decide⟩ (by decide +kernel : decode cX8_isSound 8 = .ok (.invokevirtual 299, 3))).mono callR0_of, trivial⟩⟩⟩
set_option maxRecDepth 8000 in
theorem okb_GP_isSound_11 (g : GG) (l : Launch) (hst : l.stackTraces = false) : BlkOk (m_GP_isSound g l) 11 (b_GP_isSound_11 g) := 
  ⟨ok_ifeq (by decide) (by decide +kernel : decode cX8_isSound 11 = .ok (.ifCond .eq 7, 3)),
  ⟨ok_iconst (by decide) (by decide +kernel : decode cX8_isSound 14 = .ok (.iconst 1, 1)),
  ⟨ok_goto (by decide) (by decide +kernel : decode cX8_isSound 15 = .ok (.goto 4, 3)), trivial⟩⟩⟩
set_option maxRecDepth 8000 in
theorem okb_GP_isSound_18 (g : GG) (l : Launch) (hst : l.stackTraces = false) : BlkOk (m_GP_isSound g l) 18 (b_GP_isSound_18 g) := 
  ⟨ok_iconst (by decide) (by decide +kernel : decode cX8_isSound 18 = .ok (.iconst 0, 1)), trivial⟩
set_option maxRecDepth 8000 in
theorem okb_GP_isSound_19 (g : GG) (l : Launch) (hst : l.stackTraces = false) : BlkOk (m_GP_isSound g l) 19 (b_GP_isSound_19 g) := 
  ⟨ok_zret rfl (by decide +kernel : decode cX8_isSound 19 = .ok (.ireturn, 1)), trivial⟩
def k_GP_isSound (g : GG) : List (Nat × Blk) := [(0, b_GP_isSound_0 g), (4, b_GP_isSound_4 g), (11, b_GP_isSound_11 g), (18, b_GP_isSound_18 g), (19, b_GP_isSound_19 g)]
theorem ok_GP_isSound (g : GG) (l : Launch) (hst : l.stackTraces = false) : ∀ b ∈ k_GP_isSound g, BlkOk (m_GP_isSound g l) b.1 b.2 := List.forall_mem_cons.mpr ⟨okb_GP_isSound_0 g l hst, List.forall_mem_cons.mpr ⟨okb_GP_isSound_4 g l hst, List.forall_mem_cons.mpr ⟨okb_GP_isSound_11 g l hst, List.forall_mem_cons.mpr ⟨okb_GP_isSound_18 g l hst, List.forall_mem_cons.mpr ⟨okb_GP_isSound_19 g l hst, fun _ h => by cases h⟩⟩⟩⟩⟩
def i_GP_isSound (g : GG) : List (Nat × Blk) := [(18, b_GP_isSound_18 g), (19, b_GP_isSound_19 g)]
theorem is_GP_isSound (g : GG) : ∀ x ∈ i_GP_isSound g, x ∈ k_GP_isSound g := sub_at [3, 4] rfl
theorem w_GP_isSound_0 (g : GG) (u : Unit) (n : List Unit) (B : Bx) (Q : Option Value → AH → Prop) (X : String → AH → Prop) (lv : LV) (st : List Value) (f : AH) (bc bs : Nat) : wpF (i_GP_isSound g) (u :: n) B Q X 0 lv st f bc bs = B 0 lv st f bc bs := (rfl)
theorem w_GP_isSound_4 (g : GG) (u : Unit) (n : List Unit) (B : Bx) (Q : Option Value → AH → Prop) (X : String → AH → Prop) (lv : LV) (st : List Value) (f : AH) (bc bs : Nat) : wpF (i_GP_isSound g) (u :: n) B Q X 4 lv st f bc bs = B 4 lv st f bc bs := (rfl)
theorem w_GP_isSound_11 (g : GG) (u : Unit) (n : List Unit) (B : Bx) (Q : Option Value → AH → Prop) (X : String → AH → Prop) (lv : LV) (st : List Value) (f : AH) (bc bs : Nat) : wpF (i_GP_isSound g) (u :: n) B Q X 11 lv st f bc bs = B 11 lv st f bc bs := (rfl)
theorem w_GP_isSound_18 (g : GG) (u : Unit) (n : List Unit) (B : Bx) (Q : Option Value → AH → Prop) (X : String → AH → Prop) (lv : LV) (st : List Value) (f : AH) (bc bs : Nat) : wpF (i_GP_isSound g) (u :: n) B Q X 18 lv st f bc bs = wpL (b_GP_isSound_18 g) 18 lv st f bc bs (wpF (i_GP_isSound g) n B Q X) Q X := (rfl)
theorem w_GP_isSound_19 (g : GG) (u : Unit) (n : List Unit) (B : Bx) (Q : Option Value → AH → Prop) (X : String → AH → Prop) (lv : LV) (st : List Value) (f : AH) (bc bs : Nat) : wpF (i_GP_isSound g) (u :: n) B Q X 19 lv st f bc bs = wpL (b_GP_isSound_19 g) 19 lv st f bc bs (wpF (i_GP_isSound g) n B Q X) Q X := (rfl)
set_option maxRecDepth 4000 in
set_option maxHeartbeats 4000000 in
theorem s_GP_isSound (g : GG) (l : Launch) (hst : l.stackTraces = false) : Snd yX8_isSound (m_GP_isSound g l) 0 0 (T_GP_isSound g) := by
  refine snd_of (plainFor_of_name (by decide)) rfl (fun h => by first | rfl | cases h) rfl hst (k_GP_isSound g) (ok_GP_isSound g l hst) ?_
  rintro as f Q X ⟨O, ad, sh, V, L, o, rfl, hM, hk, hp, hq⟩
  refine ⟨[some (.ref (ad o))], rfl, Nat.le_of_ble_eq_true rfl, fun B run => ?_⟩
  obtain ⟨rfl, hK, hL4, hC, hBs, hv⟩ := hp
  have hk2 : 0 = 0 ∧ LsOk sh V 14 ∧ sh.S ≤ 40 ∧ FsOk sh V ∧ FlOk sh V ∧ RcOk sh V ∧ SsOk sh V ∧ sh.N 17 = 960 ∧ sh.N 18 = 4 ∧ ∀ i, i < sh.S → kpB (khT sh V i) (400 + 20 * i) (nn (khT sh V i (400 + 20 * i) 0)) = true → gLk sh (khT sh V (i + 1)) (400 + 20 * i + 4) 16 = true := ⟨rfl, hK⟩
  have w1 : khT sh V sh.S 1 = V 1 := khT_n (by decide) (by decide) (by decide) (by decide) (by decide) (by decide) _
  have w4 : khT sh V sh.S 4 = V 4 := khT_n (by decide) (by decide) (by decide) (by decide) (by decide) (by decide) _
  have hvv : RcOk sh (khT sh V sh.S) ∧ LsOk sh (khT sh V sh.S) 4 ∧ sh.C ≤ 10 ∧ BsOk sh := by
    refine ⟨⟨RwOk_cg w1 hK.2.2.2.2.1.1, ?_⟩, ⟨hL4.1, ?_, hL4.2.2⟩, hC, hBs⟩
    · rw [w1]; exact hK.2.2.2.2.1.2
    · rw [w4]; exact hL4.2.1
  repeat (first | (refine hq _ ?_; exact hM) | (refine hx _ ?_; exact hM) | (refine i_GP_keptResultsHold_ hM hk hk2 fun f hM => ?_; rw [b2i_t]) | (refine j_GP_valuesLieWithinBounds_ (b := true) hM hk hvv hv fun f hM => ?_) | (refine i_GP_keptResultsHold_ hM ?_ ?_ fun f hM => ?_; (focus with_reducible assumption); (focus ((repeat' (first | assumption | omega | apply And.intro | rfl)); done))) | (refine j_GP_valuesLieWithinBounds_ (b := true) hM ?_ ?_ ?_ fun f hM => ?_; (focus with_reducible assumption); (focus ((repeat' (first | assumption | omega | apply And.intro | rfl)); done)); (focus with_reducible assumption)) | (refine j_GP_valuesLieWithinBounds_ (b := false) hM ?_ ?_ ?_ fun f hM => ?_; (focus with_reducible assumption); (focus ((repeat' (first | assumption | omega | apply And.intro | rfl)); done)); (focus with_reducible assumption)) | (refine i_GP_valuesLieWithinBounds_ hM ?_ ?_ fun f hM => ?_; (focus with_reducible assumption); (focus ((repeat' (first | assumption | omega | apply And.intro | rfl)); done))) | (refine run _ _ (i_GP_isSound g) [(), (), ()] rfl (is_GP_isSound g) _ _ _ _ _ ?_; (try simp only [Option.toList_some, Option.toList_none, List.cons_append, List.nil_append, List.append_nil]); simp -dsimp (disch := omega) only [b2i_t, thr_n, wdC_n, wrC_n, tchC_n, wpF_0, ↓e_no, ↓e_any, c2_n, ↓e_callX, ↓e_callX0, ↓e_acpy, cR_s, cR_n, ↓e_tbl, ↓e_callF0, ↓e_cstc, ↓hobj_c (hM.o9 hk), c2_s, c2_n, eq_self, nI_dec, ixE, nI_4m, nI_16m, nI_10m, nI_2m, nI_add, nI_1, nI_p2, nI_p3, nI_pred, c3_n, c3_s, c3_i, upd_s, upd_n, rowU_n, rowU_ge, true_imp_iff, false_imp_iff, not_true_eq_false, not_false_eq_true, b2i_t, b2i_f, i32_10, i32_00, i32_11, ite_true_I, false_and, and_false, true_and, and_true, or_true, true_or, false_or, or_false, w_GP_isSound_0, w_GP_isSound_4, w_GP_isSound_11, w_GP_isSound_18, w_GP_isSound_19, ↓b_GP_isSound_0, ↓b_GP_isSound_4, ↓b_GP_isSound_11, ↓b_GP_isSound_18, ↓b_GP_isSound_19, ↓wpL_n, ↓wpL_c, ↓e_iadd, ↓e_isub, ↓e_imul, ↓e_iand, ↓e_ior, ↓e_ixor, ↓e_ishl, ↓e_ishr, ↓e_iushr, ↓e_idiv, ↓e_irem, ↓e_ineg, ↓e_ladd, ↓e_lcmp, ↓e_i2l, ↓e_i2c, ↓e_i2d, ↓e_i2f, ↓e_l2f, ↓e_f2d, ↓e_fdiv, ↓e_ddiv, ↓e_dcmp_l, ↓e_fcmp_l, ↓e_dcmp_g, ↓e_fcmp_g, ↓e_push, ↓e_iload, ↓e_fload, ↓e_dload, ↓e_aload, ↓e_istore, ↓e_fstore, ↓e_astore, ↓e_iinc, ↓e_ifeq, ↓e_iceq, ↓e_ifne, ↓e_icne, ↓e_iflt, ↓e_iclt, ↓e_ifge, ↓e_icge, ↓e_ifgt, ↓e_icgt, ↓e_ifle, ↓e_icle, ↓e_goto, ↓e_dup, ↓e_pop, ↓e_dup_x1, ↓e_dup2, ↓e_getf, ↓e_putI, ↓e_putJ, ↓e_putC, ↓e_putR, ↓e_iald, ↓e_zald, ↓e_cald, ↓e_lald, ↓e_dald, ↓e_iast, ↓e_zast, ↓e_cast, ↓e_last, ↓e_dast, ↓e_aald, ↓e_alen, ↓e_throw, ↓e_iret, ↓e_zret, ↓e_cret, ↓e_aret, ↓e_lret, ↓e_fret, ↓e_dret, ↓e_vret, ↓e_new, ↓e_newarr, ↓e_pop1, ↓e_siald, ↓e_salen, ↓e_call, ↓e_callV, ↓e_callI, ↓e_call0, ↓e_callR, PI_e, PFl_e, PD_e, PR_e, PO_e, PHd_e, PA_e, PA_n, IX_e, IX_0, reduceIte, lget, lset, lclr, fget, ctake, cdrop, c1, Nat.reduceAdd, List.reverse_cons, List.reverse_nil, List.nil_append, List.cons_append, Option.toList_some, Option.toList_none, List.length_cons, List.length_nil, true_and, and_true, true_or, or_true, Nat.reduceLeDiff, Nat.reduceLT, Nat.zero_le, List.append_nil]) | refine ⟨_, rfl, by omega, by omega, ?_⟩ | (refine ⟨0, 0, rfl, rfl, ?_⟩) | (refine ⟨1, 6, rfl, rfl, ?_⟩) | (refine ⟨2, 12, rfl, rfl, ?_⟩) | (refine And.intro ?_ ?_; focus (first | exact b2i_01 _ | assumption | decide | (simp; done))))


