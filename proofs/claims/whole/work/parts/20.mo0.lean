/-! ===== the reference: small methods ===== -/
def b2i (b : Bool) : Int32 := if b then 1 else 0
theorem b2i_01 (b : Bool) : b2i b = 0 ∨ b2i b = 1 := by cases b <;> simp [b2i]
def T_Mo_isIn : Spec2 := fun as f Q _ => ∃ v lo hi : Int32, as = [.int v, .int lo, .int hi] ∧ Q (some (.int (b2i (decide (lo ≤ v ∧ v ≤ hi))))) f
abbrev m_Mo_isIn (g : GG) (l : Launch) : MI := (RX9, cX9_isIn, 3, (some .boolean), [], false, 1, g, l)
def b_Mo_isIn_0 (g : GG) : Blk := [(1, o_iload 0), (1, o_iload 1), (3, o_iclt 14), (1, o_iload 0), (1, o_iload 2), (3, o_icgt 14), (1, o_push (.int 1)), (3, o_goto 15)]
def b_Mo_isIn_14 (g : GG) : Blk := [(1, o_push (.int 0))]
def b_Mo_isIn_15 (g : GG) : Blk := [(1, o_zret)]
theorem okb_Mo_isIn_0 (g : GG) (l : Launch) (hst : l.stackTraces = false) : BlkOk (m_Mo_isIn g l) 0 (b_Mo_isIn_0 g) := 
  ⟨ok_iload_n (by decide +kernel : decode cX9_isIn 0 = .ok (.iload_n 0, 1)) rfl,
  ⟨ok_iload_n (by decide +kernel : decode cX9_isIn 1 = .ok (.iload_n 1, 1)) rfl,
  ⟨ok_iclt (by decide) (by decide +kernel : decode cX9_isIn 2 = .ok (.if_icmp .lt 12, 3)),
  ⟨ok_iload_n (by decide +kernel : decode cX9_isIn 5 = .ok (.iload_n 0, 1)) rfl,
  ⟨ok_iload_n (by decide +kernel : decode cX9_isIn 6 = .ok (.iload_n 2, 1)) rfl,
  ⟨ok_icgt (by decide) (by decide +kernel : decode cX9_isIn 7 = .ok (.if_icmp .gt 7, 3)),
  ⟨ok_iconst (by decide) (by decide +kernel : decode cX9_isIn 10 = .ok (.iconst 1, 1)),
  ⟨ok_goto (by decide) (by decide +kernel : decode cX9_isIn 11 = .ok (.goto 4, 3)), trivial⟩⟩⟩⟩⟩⟩⟩⟩
theorem okb_Mo_isIn_14 (g : GG) (l : Launch) (hst : l.stackTraces = false) : BlkOk (m_Mo_isIn g l) 14 (b_Mo_isIn_14 g) := 
  ⟨ok_iconst (by decide) (by decide +kernel : decode cX9_isIn 14 = .ok (.iconst 0, 1)), trivial⟩
theorem okb_Mo_isIn_15 (g : GG) (l : Launch) (hst : l.stackTraces = false) : BlkOk (m_Mo_isIn g l) 15 (b_Mo_isIn_15 g) := 
  ⟨ok_zret rfl (by decide +kernel : decode cX9_isIn 15 = .ok (.ireturn, 1)), trivial⟩
def k_Mo_isIn (g : GG) : List (Nat × Blk) := [(0, b_Mo_isIn_0 g), (14, b_Mo_isIn_14 g), (15, b_Mo_isIn_15 g)]
theorem ok_Mo_isIn (g : GG) (l : Launch) (hst : l.stackTraces = false) : ∀ b ∈ k_Mo_isIn g, BlkOk (m_Mo_isIn g l) b.1 b.2 := List.forall_mem_cons.mpr ⟨okb_Mo_isIn_0 g l hst, List.forall_mem_cons.mpr ⟨okb_Mo_isIn_14 g l hst, List.forall_mem_cons.mpr ⟨okb_Mo_isIn_15 g l hst, fun _ h => by cases h⟩⟩⟩
def i_Mo_isIn (g : GG) : List (Nat × Blk) := [(14, b_Mo_isIn_14 g), (15, b_Mo_isIn_15 g)]
theorem is_Mo_isIn (g : GG) : ∀ x ∈ i_Mo_isIn g, x ∈ k_Mo_isIn g := sub_at [1, 2] rfl
theorem s_Mo_isIn (g : GG) (l : Launch) (hst : l.stackTraces = false) : Snd yX9_isIn (m_Mo_isIn g l) 0 0 T_Mo_isIn := by
  refine snd_of (by decide) rfl (fun h => by first | rfl | cases h) rfl hst (k_Mo_isIn g) (ok_Mo_isIn g l hst) ?_
  rintro as f Q X ⟨v, lo, hi, rfl, hq⟩
  refine ⟨[some (.int v), some (.int lo), some (.int hi)], rfl, Nat.le_of_ble_eq_true rfl, fun B run => ?_⟩
  refine run 0 _ (i_Mo_isIn g) rfl (is_Mo_isIn g) _ _ _ _ _ ?_
  simp only [i_Mo_isIn, b_Mo_isIn_0, b_Mo_isIn_14, b_Mo_isIn_15, wpL, wpI, Nat.reduceBEq, cond_true, cond_false, lget, lset, lclr, fget, fset, ctake, cdrop, c1, Nat.reduceAdd, o_iadd, o_isub, o_imul, o_iand, o_ior, o_ixor, o_ishl, o_ishr, o_iushr, o_idiv, o_irem, o_ineg, o_ladd, o_lcmp, o_i2l, o_i2c, o_i2d, o_i2f, o_l2f, o_f2d, o_fdiv, o_ddiv, o_dcmp_l, o_dcmp_g, o_fcmp_l, o_fcmp_g, o_push, o_iload, o_fload, o_dload, o_aload, o_istore, o_fstore, o_astore, o_iinc, o_ifeq, o_ifne, o_iflt, o_ifge, o_ifgt, o_ifle, o_iceq, o_icne, o_iclt, o_icge, o_icgt, o_icle, o_goto, o_dup, o_pop, o_dup_x1, o_dup2, o_getf, o_putI, o_putJ, o_putC, o_putR, o_iald, o_zald, o_cald, o_lald, o_dald, o_iast, o_zast, o_cast, o_last, o_dast, o_aald, o_alen, o_throw, o_iret, o_zret, o_cret, o_aret, o_lret, o_fret, o_dret, o_vret, o_new, o_newarr, o_pop1, o_scald, o_salen, o_call, o_callV, o_callX, o_callI, List.reverse_cons, List.reverse_nil, List.nil_append, List.cons_append, Option.toList, List.length_cons, List.length_nil]
  trace_state
  sorry

