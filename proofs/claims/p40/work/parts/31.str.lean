-- deps: 23.mo3
/-! ===== the text that stands in the class: its letters ===== -/
def o_no : Op := fun _ _ _ _ _ _ _ _ _ => False
theorem ok_no {M : MI} {pc n : Nat} : OpOk M pc n o_no := by
  intro C Q X hC K hK B' hB lv st f bc bs h
  exact h.elim
theorem e_no (lv : LV) (st : List Value) (f : AH) (bc bs : Nat) (K : Kx) (B : Bx) (Q : Option Value → AH → Prop) (X : String → AH → Prop) : o_no lv st f bc bs K B Q X = False := (rfl)
/-- a value of which nothing is asked -/
def o_any : Op := fun lv st f bc bs K _ _ _ => K lv (.null :: st) f bc bs ∧ ∀ t : Nat, K lv (.ref t :: st) f bc bs
theorem e_any (lv : LV) (st : List Value) (f : AH) (bc bs : Nat) (K : Kx) (B : Bx) (Q : Option Value → AH → Prop) (X : String → AH → Prop) : o_any lv st f bc bs K B Q X = (K lv (.null :: st) f bc bs ∧ ∀ t : Nat, K lv (.ref t :: st) f bc bs) := (rfl)
def T_Pr_checkIndex : Spec2 := fun as f Q _ => ∃ (i : Nat) (n : Nat) (v : Value), as = [.int (nI i), .int (nI n), v] ∧ ((v = .null ∨ ∃ t : Nat, v = .ref t) ∧ i < n ∧ n < 2147483648) ∧ Q (some (.int (nI i))) f
theorem i_Pr_checkIndex_ {i : Nat} {n : Nat} {v : Value} {f : AH} {Q : Option Value → AH → Prop} {X : String → AH → Prop} (hp : (v = .null ∨ ∃ t : Nat, v = .ref t) ∧ i < n ∧ n < 2147483648) (h : Q (some (.int (nI i))) f) : T_Pr_checkIndex [.int (nI i), .int (nI n), v] f Q X := ⟨i, n, v, rfl, hp, h⟩
abbrev m_Pr_checkIndex (g : GG) (l : Launch) : MI := (RJ3, cJ3_checkIndex_8e157, 3, (some .int), [], false, 1, g, l)
def b_Pr_checkIndex_0 (g : GG) : Blk := [(1, o_iload 0), (3, o_iflt 9), (1, o_iload 0), (1, o_iload 1), (3, o_iclt 16)]
def b_Pr_checkIndex_9 (g : GG) : Blk := [(1, o_aload 2), (1, o_iload 0), (1, o_iload 1), (3, o_no), (1, o_no)]
def b_Pr_checkIndex_16 (g : GG) : Blk := [(1, o_iload 0), (1, o_iret)]
set_option maxRecDepth 8000 in
theorem okb_Pr_checkIndex_0 (g : GG) (l : Launch) (hst : l.stackTraces = false) : BlkOk (m_Pr_checkIndex g l) 0 (b_Pr_checkIndex_0 g) := 
  ⟨ok_iload_n (by decide +kernel : decode cJ3_checkIndex_8e157 0 = .ok (.iload_n 0, 1)) rfl,
  ⟨ok_iflt (by decide) (by decide +kernel : decode cJ3_checkIndex_8e157 1 = .ok (.ifCond .lt 8, 3)),
  ⟨ok_iload_n (by decide +kernel : decode cJ3_checkIndex_8e157 4 = .ok (.iload_n 0, 1)) rfl,
  ⟨ok_iload_n (by decide +kernel : decode cJ3_checkIndex_8e157 5 = .ok (.iload_n 1, 1)) rfl,
  ⟨ok_iclt (by decide) (by decide +kernel : decode cJ3_checkIndex_8e157 6 = .ok (.if_icmp .lt 10, 3)), trivial⟩⟩⟩⟩⟩
set_option maxRecDepth 8000 in
theorem okb_Pr_checkIndex_9 (g : GG) (l : Launch) (hst : l.stackTraces = false) : BlkOk (m_Pr_checkIndex g l) 9 (b_Pr_checkIndex_9 g) := 
  ⟨ok_aload_n (by decide +kernel : decode cJ3_checkIndex_8e157 9 = .ok (.aload_n 2, 1)) rfl,
  ⟨ok_iload_n (by decide +kernel : decode cJ3_checkIndex_8e157 10 = .ok (.iload_n 0, 1)) rfl,
  ⟨ok_iload_n (by decide +kernel : decode cJ3_checkIndex_8e157 11 = .ok (.iload_n 1, 1)) rfl,
  ⟨ok_no,
  ⟨ok_no, trivial⟩⟩⟩⟩⟩
set_option maxRecDepth 8000 in
theorem okb_Pr_checkIndex_16 (g : GG) (l : Launch) (hst : l.stackTraces = false) : BlkOk (m_Pr_checkIndex g l) 16 (b_Pr_checkIndex_16 g) := 
  ⟨ok_iload_n (by decide +kernel : decode cJ3_checkIndex_8e157 16 = .ok (.iload_n 0, 1)) rfl,
  ⟨ok_iret rfl (by decide +kernel : decode cJ3_checkIndex_8e157 17 = .ok (.ireturn, 1)), trivial⟩⟩
def k_Pr_checkIndex (g : GG) : List (Nat × Blk) := [(0, b_Pr_checkIndex_0 g), (9, b_Pr_checkIndex_9 g), (16, b_Pr_checkIndex_16 g)]
theorem ok_Pr_checkIndex (g : GG) (l : Launch) (hst : l.stackTraces = false) : ∀ b ∈ k_Pr_checkIndex g, BlkOk (m_Pr_checkIndex g l) b.1 b.2 := List.forall_mem_cons.mpr ⟨okb_Pr_checkIndex_0 g l hst, List.forall_mem_cons.mpr ⟨okb_Pr_checkIndex_9 g l hst, List.forall_mem_cons.mpr ⟨okb_Pr_checkIndex_16 g l hst, fun _ h => by cases h⟩⟩⟩
def i_Pr_checkIndex (g : GG) : List (Nat × Blk) := [(9, b_Pr_checkIndex_9 g), (16, b_Pr_checkIndex_16 g)]
theorem is_Pr_checkIndex (g : GG) : ∀ x ∈ i_Pr_checkIndex g, x ∈ k_Pr_checkIndex g := sub_at [1, 2] rfl
theorem w_Pr_checkIndex_0 (g : GG) (u : Unit) (n : List Unit) (B : Bx) (Q : Option Value → AH → Prop) (X : String → AH → Prop) (lv : LV) (st : List Value) (f : AH) (bc bs : Nat) : wpF (i_Pr_checkIndex g) (u :: n) B Q X 0 lv st f bc bs = B 0 lv st f bc bs := (rfl)
theorem w_Pr_checkIndex_9 (g : GG) (u : Unit) (n : List Unit) (B : Bx) (Q : Option Value → AH → Prop) (X : String → AH → Prop) (lv : LV) (st : List Value) (f : AH) (bc bs : Nat) : wpF (i_Pr_checkIndex g) (u :: n) B Q X 9 lv st f bc bs = wpL (b_Pr_checkIndex_9 g) 9 lv st f bc bs (wpF (i_Pr_checkIndex g) n B Q X) Q X := (rfl)
theorem w_Pr_checkIndex_16 (g : GG) (u : Unit) (n : List Unit) (B : Bx) (Q : Option Value → AH → Prop) (X : String → AH → Prop) (lv : LV) (st : List Value) (f : AH) (bc bs : Nat) : wpF (i_Pr_checkIndex g) (u :: n) B Q X 16 lv st f bc bs = wpL (b_Pr_checkIndex_16 g) 16 lv st f bc bs (wpF (i_Pr_checkIndex g) n B Q X) Q X := (rfl)
set_option maxRecDepth 4000 in
set_option maxHeartbeats 4000000 in
theorem s_Pr_checkIndex (g : GG) (l : Launch) (hst : l.stackTraces = false) : Snd yJ3_checkIndex_8e157 (m_Pr_checkIndex g l) 0 0 T_Pr_checkIndex := by
  refine snd_of (plainFor_of_name (by decide)) rfl (fun h => by first | rfl | cases h) rfl hst (k_Pr_checkIndex g) (ok_Pr_checkIndex g l hst) ?_
  rintro as f Q X ⟨i, n, v, rfl, hp, hq⟩
  refine ⟨[some (.int (nI i)), some (.int (nI n)), some (v)], rfl, (by rcases hp.1 with rfl | ⟨t, rfl⟩ <;> exact Nat.le_of_ble_eq_true rfl), fun B run => ?_⟩
  obtain ⟨-, h1, h2⟩ := hp
  have h3 : ¬ nI i < 0 := nI_pos (by omega)
  have h4 : nI i < nI n := nI_lt h1 h2
  repeat (first | exact hq | (refine run _ _ (i_Pr_checkIndex g) [(), (), ()] rfl (is_Pr_checkIndex g) _ _ _ _ _ ?_; (try simp only [Option.toList_some, Option.toList_none, List.cons_append, List.nil_append, List.append_nil]); simp -dsimp (disch := omega) only [h3, h4, thr_n, wdC_n, wrC_n, tchC_n, wpF_0, ↓e_no, ↓e_any, eq_self, nI_dec, ixE, nI_4m, nI_16m, nI_10m, nI_2m, nI_add, nI_1, nI_p2, nI_p3, nI_pred, c3_n, c3_s, c3_i, upd_s, upd_n, rowU_n, rowU_ge, true_imp_iff, false_imp_iff, not_true_eq_false, not_false_eq_true, b2i_t, b2i_f, i32_10, i32_00, i32_11, ite_true_I, false_and, and_false, true_and, and_true, or_true, true_or, false_or, or_false, w_Pr_checkIndex_0, w_Pr_checkIndex_9, w_Pr_checkIndex_16, ↓b_Pr_checkIndex_0, ↓b_Pr_checkIndex_9, ↓b_Pr_checkIndex_16, ↓wpL_n, ↓wpL_c, ↓e_iadd, ↓e_isub, ↓e_imul, ↓e_iand, ↓e_ior, ↓e_ixor, ↓e_ishl, ↓e_ishr, ↓e_iushr, ↓e_idiv, ↓e_irem, ↓e_ineg, ↓e_ladd, ↓e_lcmp, ↓e_i2l, ↓e_i2c, ↓e_i2d, ↓e_i2f, ↓e_l2f, ↓e_f2d, ↓e_fdiv, ↓e_ddiv, ↓e_dcmp_l, ↓e_fcmp_l, ↓e_dcmp_g, ↓e_fcmp_g, ↓e_push, ↓e_iload, ↓e_fload, ↓e_dload, ↓e_aload, ↓e_istore, ↓e_fstore, ↓e_astore, ↓e_iinc, ↓e_ifeq, ↓e_iceq, ↓e_ifne, ↓e_icne, ↓e_iflt, ↓e_iclt, ↓e_ifge, ↓e_icge, ↓e_ifgt, ↓e_icgt, ↓e_ifle, ↓e_icle, ↓e_goto, ↓e_dup, ↓e_pop, ↓e_dup_x1, ↓e_dup2, ↓e_getf, ↓e_putI, ↓e_putJ, ↓e_putC, ↓e_putR, ↓e_iald, ↓e_zald, ↓e_cald, ↓e_lald, ↓e_dald, ↓e_iast, ↓e_zast, ↓e_cast, ↓e_last, ↓e_dast, ↓e_aald, ↓e_alen, ↓e_throw, ↓e_iret, ↓e_zret, ↓e_cret, ↓e_aret, ↓e_lret, ↓e_fret, ↓e_dret, ↓e_vret, ↓e_new, ↓e_newarr, ↓e_pop1, ↓e_siald, ↓e_salen, ↓e_call, ↓e_callV, ↓e_callI, ↓e_call0, ↓e_callR, PI_e, PFl_e, PD_e, PR_e, PO_e, PHd_e, PA_e, PA_n, IX_e, IX_0, reduceIte, lget, lset, lclr, fget, ctake, cdrop, c1, Nat.reduceAdd, List.reverse_cons, List.reverse_nil, List.nil_append, List.cons_append, Option.toList_some, Option.toList_none, List.length_cons, List.length_nil, true_and, and_true, true_or, or_true, Nat.reduceLeDiff, Nat.reduceLT, Nat.zero_le, List.append_nil]) | refine ⟨_, rfl, by omega, by omega, ?_⟩ | (refine And.intro ?_ ?_; focus (first | exact b2i_01 _ | assumption | decide | (simp; done))))

