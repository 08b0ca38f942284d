/-! ===== the reference: small methods ===== -/
def b2i (b : Bool) : Int32 := if b then 1 else 0
theorem b2i_01 (b : Bool) : b2i b = 0 ∨ b2i b = 1 := by cases b <;> simp [b2i]
theorem b2i_0 {b : Bool} : b2i b = 0 ↔ b = false := by cases b <;> simp [b2i]
def inR (v lo hi : Int32) : Bool := decide (lo ≤ v) && decide (v ≤ hi)
theorem inR_nI {v : Int32} {m : Nat} (hm : m < 2147483648) : inR v 0 (nI m - 1) = true ↔ ∃ j : Nat, j < m ∧ v = nI j := by
  simp only [inR, Bool.and_eq_true, decide_eq_true_eq]
  constructor
  · rintro ⟨h1, h2⟩
    rcases Nat.eq_zero_or_pos m with rfl | hp
    · exfalso
      have h3 := Int32.le_iff_toInt_le.mp h1
      have h4 := Int32.le_iff_toInt_le.mp h2
      rw [show (nI 0 - 1).toInt = -1 from rfl] at h4
      rw [Int32.toInt_zero] at h3
      omega
    · rw [show m = (m - 1) + 1 by omega, nI_pred] at h2
      obtain ⟨j, hj, rfl⟩ := nI_of2 (nI_toInt (by omega)) (Int32.not_lt.mpr h1) h2
      exact ⟨j, by omega, rfl⟩
  · rintro ⟨j, hj, rfl⟩
    refine ⟨nI_pos' (by omega), ?_⟩
    rw [show m = (m - 1) + 1 by omega, nI_pred]
    exact nI_le (by omega) (by omega)
def T_Mo_isIn : Spec2 := fun as f Q _ => ∃ (v : Int32) (lo : Int32) (hi : Int32), as = [.int v, .int lo, .int hi] ∧ Q (some (.int (b2i (inR v lo hi)))) f
theorem i_Mo_isIn_ {v : Int32} {lo : Int32} {hi : Int32} {f : AH} {Q : Option Value → AH → Prop} {X : String → AH → Prop} (h : Q (some (.int (b2i (inR v lo hi)))) f) : T_Mo_isIn [.int v, .int lo, .int hi] f Q X := ⟨v, lo, hi, rfl, h⟩
abbrev m_Mo_isIn (g : GG) (l : Launch) : MI := (RX9, cX9_isIn, 3, (some .boolean), [], false, 1, g, l)
def b_Mo_isIn_0 (g : GG) : Blk := [(1, o_iload 0), (1, o_iload 1), (3, o_iclt 14), (1, o_iload 0), (1, o_iload 2), (3, o_icgt 14), (1, o_push (.int 1)), (3, o_goto 15)]
def b_Mo_isIn_14 (g : GG) : Blk := [(1, o_push (.int 0))]
def b_Mo_isIn_15 (g : GG) : Blk := [(1, o_zret)]
theorem okb_Mo_isIn_0 (g : GG) (l : Launch) (hst : l.stackTraces = false) : BlkOk (m_Mo_isIn g l) 0 (b_Mo_isIn_0 g) := 
  ⟨ok_iload_n (by decide +kernel : decode cX9_isIn 0 = .ok (.iload_n 0, 1)) rfl,
  ⟨ok_iload_n (by decide +kernel : decode cX9_isIn 1 = .ok (.iload_n 1, 1)) rfl,
  ⟨ok_iclt (by decide) (by decide +kernel : decode cX9_isIn 2 = .ok (.if_icmp .lt 12, 3)),
  ⟨ok_iload_n (by decide +kernel : decode cX9_isIn 5 = .ok (.iload_n 0, 1)) rfl,
  ⟨ok_iload_n (by decide +kernel : decode cX9_isIn 6 = .ok (.iload_n 2, 1)) rfl,
  ⟨ok_icgt (by decide) (by decide +kernel : decode cX9_isIn 7 = .ok (.if_icmp .gt 7, 3)),
  ⟨ok_iconst (by decide) (by decide +kernel : decode cX9_isIn 10 = .ok (.iconst 1, 1)),
  ⟨ok_goto (by decide) (by decide +kernel : decode cX9_isIn 11 = .ok (.goto 4, 3)), trivial⟩⟩⟩⟩⟩⟩⟩⟩
theorem okb_Mo_isIn_14 (g : GG) (l : Launch) (hst : l.stackTraces = false) : BlkOk (m_Mo_isIn g l) 14 (b_Mo_isIn_14 g) := 
  ⟨ok_iconst (by decide) (by decide +kernel : decode cX9_isIn 14 = .ok (.iconst 0, 1)), trivial⟩
theorem okb_Mo_isIn_15 (g : GG) (l : Launch) (hst : l.stackTraces = false) : BlkOk (m_Mo_isIn g l) 15 (b_Mo_isIn_15 g) := 
  ⟨ok_zret rfl (by decide +kernel : decode cX9_isIn 15 = .ok (.ireturn, 1)), trivial⟩
def k_Mo_isIn (g : GG) : List (Nat × Blk) := [(0, b_Mo_isIn_0 g), (14, b_Mo_isIn_14 g), (15, b_Mo_isIn_15 g)]
theorem ok_Mo_isIn (g : GG) (l : Launch) (hst : l.stackTraces = false) : ∀ b ∈ k_Mo_isIn g, BlkOk (m_Mo_isIn g l) b.1 b.2 := List.forall_mem_cons.mpr ⟨okb_Mo_isIn_0 g l hst, List.forall_mem_cons.mpr ⟨okb_Mo_isIn_14 g l hst, List.forall_mem_cons.mpr ⟨okb_Mo_isIn_15 g l hst, fun _ h => by cases h⟩⟩⟩
def i_Mo_isIn (g : GG) : List (Nat × Blk) := [(14, b_Mo_isIn_14 g), (15, b_Mo_isIn_15 g)]
theorem is_Mo_isIn (g : GG) : ∀ x ∈ i_Mo_isIn g, x ∈ k_Mo_isIn g := sub_at [1, 2] rfl
set_option maxHeartbeats 4000000 in
theorem s_Mo_isIn (g : GG) (l : Launch) (hst : l.stackTraces = false) : Snd yX9_isIn (m_Mo_isIn g l) 0 0 T_Mo_isIn := by
  refine snd_of (plainFor_of_name (by decide)) rfl (fun h => by first | rfl | cases h) rfl hst (k_Mo_isIn g) (ok_Mo_isIn g l hst) ?_
  rintro as f Q X ⟨v, lo, hi, rfl, hq⟩
  refine ⟨[some (.int v), some (.int lo), some (.int hi)], rfl, Nat.le_of_ble_eq_true rfl, fun B run => ?_⟩
  refine run _ _ (i_Mo_isIn g) rfl (is_Mo_isIn g) _ _ _ _ _ ?_; simp only [i_Mo_isIn, b_Mo_isIn_0, b_Mo_isIn_14, b_Mo_isIn_15, wpL, wpI, Nat.reduceBEq, cond_true, cond_false, lget, lset, lclr, fget, fset, ctake, cdrop, c1, Nat.reduceAdd, o_iadd, o_isub, o_imul, o_iand, o_ior, o_ixor, o_ishl, o_ishr, o_iushr, o_idiv, o_irem, o_ineg, o_ladd, o_lcmp, o_i2l, o_i2c, o_i2d, o_i2f, o_l2f, o_f2d, o_fdiv, o_ddiv, o_dcmp_l, o_dcmp_g, o_fcmp_l, o_fcmp_g, o_push, o_iload, o_fload, o_dload, o_aload, o_istore, o_fstore, o_astore, o_iinc, o_ifeq, o_ifne, o_iflt, o_ifge, o_ifgt, o_ifle, o_iceq, o_icne, o_iclt, o_icge, o_icgt, o_icle, o_goto, o_dup, o_pop, o_dup_x1, o_dup2, o_getf, o_putI, o_putJ, o_putC, o_putR, o_iald, o_zald, o_cald, o_lald, o_dald, o_iast, o_zast, o_cast, o_last, o_dast, o_aald, o_alen, o_throw, o_iret, o_zret, o_cret, o_aret, o_lret, o_fret, o_dret, o_vret, o_new, o_newarr, o_pop1, o_scald, o_salen, o_call, o_callV, o_callX, o_callI, o_call0, o_callR, List.reverse_cons, List.reverse_nil, List.nil_append, List.cons_append, Option.toList_some, Option.toList_none, List.length_cons, List.length_nil, true_and, and_true, true_or, or_true, Nat.reduceLeDiff, Nat.reduceLT, Nat.zero_le, List.append_nil, if_pos, Nat.reduceLeDiff]
  by_cases h1 : v < lo <;> by_cases h2 : hi < v <;> simp [h1, h2, inR, b2i, ← Int32.not_lt] at hq ⊢ <;> exact hq
/-- which exception the latest call threw -/
def thr (cm : CM) (b : Bool) (k : Int32) : CM := c3 cm 49 0 0 (if b then k else 0)
def T_Mo_isThrown : Spec2 := fun as f Q _ => ∃ (f0 : AH) (ad : Nat → Nat) (cm : CM) (cl : CL) (b : Bool) (k : Int32), as = [.ref (ad 0), .int (b2i b), .int k] ∧ MR f0 f ad cm cl ∧ ∀ f', MR f0 f' ad (thr cm b k) (cl) → Q (some (.int (b2i b))) f'
theorem i_Mo_isThrown_ {f0 : AH} {ad : Nat → Nat} {cm : CM} {cl : CL} {b : Bool} {k : Int32} {f : AH} {Q : Option Value → AH → Prop} {X : String → AH → Prop} (hM : MR f0 f ad cm cl) (h : ∀ f', MR f0 f' ad (thr cm b k) (cl) → Q (some (.int (b2i b))) f') : T_Mo_isThrown [.ref (ad 0), .int (b2i b), .int k] f Q X := ⟨f0, ad, cm, cl, b, k, rfl, hM, h⟩
abbrev m_Mo_isThrown (g : GG) (l : Launch) : MI := (RX9, cX9_isThrown, 3, (some .boolean), [], false, 1, g, l)
def b_Mo_isThrown_0 (g : GG) : Blk := [(1, o_aload 0), (1, o_iload 1), (3, o_ifeq 9), (1, o_iload 2), (3, o_goto 10)]
def b_Mo_isThrown_9 (g : GG) : Blk := [(1, o_push (.int 0))]
def b_Mo_isThrown_10 (g : GG) : Blk := [(3, o_putI 10 49), (1, o_iload 1), (1, o_zret)]
theorem okb_Mo_isThrown_0 (g : GG) (l : Launch) (hst : l.stackTraces = false) : BlkOk (m_Mo_isThrown g l) 0 (b_Mo_isThrown_0 g) := 
  ⟨ok_aload_n (by decide +kernel : decode cX9_isThrown 0 = .ok (.aload_n 0, 1)) rfl,
  ⟨ok_iload_n (by decide +kernel : decode cX9_isThrown 1 = .ok (.iload_n 1, 1)) rfl,
  ⟨ok_ifeq (by decide) (by decide +kernel : decode cX9_isThrown 2 = .ok (.ifCond .eq 7, 3)),
  ⟨ok_iload_n (by decide +kernel : decode cX9_isThrown 5 = .ok (.iload_n 2, 1)) rfl,
  ⟨ok_goto (by decide) (by decide +kernel : decode cX9_isThrown 6 = .ok (.goto 4, 3)), trivial⟩⟩⟩⟩⟩
theorem okb_Mo_isThrown_9 (g : GG) (l : Launch) (hst : l.stackTraces = false) : BlkOk (m_Mo_isThrown g l) 9 (b_Mo_isThrown_9 g) := 
  ⟨ok_iconst (by decide) (by decide +kernel : decode cX9_isThrown 9 = .ok (.iconst 0, 1)), trivial⟩
theorem okb_Mo_isThrown_10 (g : GG) (l : Launch) (hst : l.stackTraces = false) : BlkOk (m_Mo_isThrown g l) 10 (b_Mo_isThrown_10 g) := 
  ⟨ok_putI cls_10 (Nat.le_of_ble_eq_true rfl) tw_1307 rfl rfl rfl (by decide +kernel : decode cX9_isThrown 10 = .ok (.putfield 139, 3)),
  ⟨ok_iload_n (by decide +kernel : decode cX9_isThrown 13 = .ok (.iload_n 1, 1)) rfl,
  ⟨ok_zret rfl (by decide +kernel : decode cX9_isThrown 14 = .ok (.ireturn, 1)), trivial⟩⟩⟩
def k_Mo_isThrown (g : GG) : List (Nat × Blk) := [(0, b_Mo_isThrown_0 g), (9, b_Mo_isThrown_9 g), (10, b_Mo_isThrown_10 g)]
theorem ok_Mo_isThrown (g : GG) (l : Launch) (hst : l.stackTraces = false) : ∀ b ∈ k_Mo_isThrown g, BlkOk (m_Mo_isThrown g l) b.1 b.2 := List.forall_mem_cons.mpr ⟨okb_Mo_isThrown_0 g l hst, List.forall_mem_cons.mpr ⟨okb_Mo_isThrown_9 g l hst, List.forall_mem_cons.mpr ⟨okb_Mo_isThrown_10 g l hst, fun _ h => by cases h⟩⟩⟩
def i_Mo_isThrown (g : GG) : List (Nat × Blk) := [(9, b_Mo_isThrown_9 g), (10, b_Mo_isThrown_10 g)]
theorem is_Mo_isThrown (g : GG) : ∀ x ∈ i_Mo_isThrown g, x ∈ k_Mo_isThrown g := sub_at [1, 2] rfl
set_option maxHeartbeats 4000000 in
theorem s_Mo_isThrown (g : GG) (l : Launch) (hst : l.stackTraces = false) : Snd yX9_isThrown (m_Mo_isThrown g l) 0 0 T_Mo_isThrown := by
  refine snd_of (plainFor_of_name (by decide)) rfl (fun h => by first | rfl | cases h) rfl hst (k_Mo_isThrown g) (ok_Mo_isThrown g l hst) ?_
  rintro as f Q X ⟨f0, ad, cm, cl, b, k, rfl, hM, hq⟩
  refine ⟨[some (.ref (ad 0)), some (.int (b2i b)), some (.int k)], rfl, Nat.le_of_ble_eq_true rfl, fun B run => ?_⟩
  refine run _ _ (i_Mo_isThrown g) rfl (is_Mo_isThrown g) _ _ _ _ _ ?_; simp only [hobj_c hM.obj, mf_len, mf_49, i_Mo_isThrown, b_Mo_isThrown_0, b_Mo_isThrown_9, b_Mo_isThrown_10, wpL, wpI, Nat.reduceBEq, cond_true, cond_false, lget, lset, lclr, fget, fset, ctake, cdrop, c1, Nat.reduceAdd, o_iadd, o_isub, o_imul, o_iand, o_ior, o_ixor, o_ishl, o_ishr, o_iushr, o_idiv, o_irem, o_ineg, o_ladd, o_lcmp, o_i2l, o_i2c, o_i2d, o_i2f, o_l2f, o_f2d, o_fdiv, o_ddiv, o_dcmp_l, o_dcmp_g, o_fcmp_l, o_fcmp_g, o_push, o_iload, o_fload, o_dload, o_aload, o_istore, o_fstore, o_astore, o_iinc, o_ifeq, o_ifne, o_iflt, o_ifge, o_ifgt, o_ifle, o_iceq, o_icne, o_iclt, o_icge, o_icgt, o_icle, o_goto, o_dup, o_pop, o_dup_x1, o_dup2, o_getf, o_putI, o_putJ, o_putC, o_putR, o_iald, o_zald, o_cald, o_lald, o_dald, o_iast, o_zast, o_cast, o_last, o_dast, o_aald, o_alen, o_throw, o_iret, o_zret, o_cret, o_aret, o_lret, o_fret, o_dret, o_vret, o_new, o_newarr, o_pop1, o_scald, o_salen, o_call, o_callV, o_callX, o_callI, o_call0, o_callR, List.reverse_cons, List.reverse_nil, List.nil_append, List.cons_append, Option.toList_some, Option.toList_none, List.length_cons, List.length_nil, true_and, and_true, true_or, or_true, Nat.reduceLeDiff, Nat.reduceLT, Nat.zero_le, List.append_nil, if_pos, Nat.reduceLeDiff]
  have h01 := b2i_01 b
  refine ⟨fun h => ?_, fun h => ?_⟩
  · intro f1 ef1; have hM1 := hM.p49 0; rw [← ef1] at hM1
    refine ⟨h01, hq _ ?_⟩
    cases b
    · exact hM1
    · exact absurd h (by decide)
  · intro f1 ef1; have hM1 := hM.p49 k; rw [← ef1] at hM1
    refine ⟨h01, hq _ ?_⟩
    cases b
    · exact absurd rfl h
    · exact hM1
theorem j_Mo_isThrown {f0 : AH} {ad : Nat → Nat} {cm : CM} {cl : CL} {b : Bool} {k x : Int32} {f : AH} {Q : Option Value → AH → Prop} {X : String → AH → Prop} (hM : MR f0 f ad cm cl) (hx : x = b2i b) (h : ∀ f', MR f0 f' ad (thr cm b k) cl → Q (some (.int (b2i b))) f') : T_Mo_isThrown [.ref (ad 0), .int x, .int k] f Q X := by
  subst hx
  exact i_Mo_isThrown_ hM h
def noCell (cm : CM) (r c : Int32) : Bool := !(inR r 0 (cm 0 0 0 - 1) && inR c 0 3)
def T_Mo_isNoCell : Spec2 := fun as f Q _ => ∃ (f0 : AH) (ad : Nat → Nat) (cm : CM) (cl : CL) (r : Int32) (c : Int32), as = [.ref (ad 0), .int r, .int c] ∧ MR f0 f ad cm cl ∧ ∀ f', MR f0 f' ad (thr cm (noCell cm r c) 1) (cl) → Q (some (.int (b2i (noCell cm r c)))) f'
theorem i_Mo_isNoCell_ {f0 : AH} {ad : Nat → Nat} {cm : CM} {cl : CL} {r : Int32} {c : Int32} {f : AH} {Q : Option Value → AH → Prop} {X : String → AH → Prop} (hM : MR f0 f ad cm cl) (h : ∀ f', MR f0 f' ad (thr cm (noCell cm r c) 1) (cl) → Q (some (.int (b2i (noCell cm r c)))) f') : T_Mo_isNoCell [.ref (ad 0), .int r, .int c] f Q X := ⟨f0, ad, cm, cl, r, c, rfl, hM, h⟩
abbrev m_Mo_isNoCell (g : GG) (l : Launch) : MI := (RX9, cX9_isNoCell, 3, (some .boolean), [], false, 2, g, l)
def b_Mo_isNoCell_0 (g : GG) : Blk := [(1, o_aload 0), (1, o_iload 1), (1, o_push (.int 0)), (1, o_aload 0), (3, o_getf 10 0), (1, o_push (.int 1)), (1, o_isub), (3, o_call0 T_Mo_isIn 3)]
def b_Mo_isNoCell_12 (g : GG) : Blk := [(3, o_ifeq 24), (1, o_iload 2), (1, o_push (.int 0)), (1, o_push (.int 3)), (3, o_call0 T_Mo_isIn 3)]
def b_Mo_isNoCell_21 (g : GG) : Blk := [(3, o_ifne 28)]
def b_Mo_isNoCell_24 (g : GG) : Blk := [(1, o_push (.int 1)), (3, o_goto 29)]
def b_Mo_isNoCell_28 (g : GG) : Blk := [(1, o_push (.int 0))]
def b_Mo_isNoCell_29 (g : GG) : Blk := [(1, o_push (.int 1)), (3, o_callR (o_call0 T_Mo_isThrown 3) 10 3)]
def b_Mo_isNoCell_33 (g : GG) : Blk := [(1, o_zret)]
theorem okb_Mo_isNoCell_0 (g : GG) (l : Launch) (hst : l.stackTraces = false) : BlkOk (m_Mo_isNoCell g l) 0 (b_Mo_isNoCell_0 g) := 
  ⟨ok_aload_n (by decide +kernel : decode cX9_isNoCell 0 = .ok (.aload_n 0, 1)) rfl,
  ⟨ok_iload_n (by decide +kernel : decode cX9_isNoCell 1 = .ok (.iload_n 1, 1)) rfl,
  ⟨ok_iconst (by decide) (by decide +kernel : decode cX9_isNoCell 2 = .ok (.iconst 0, 1)),
  ⟨ok_aload_n (by decide +kernel : decode cX9_isNoCell 3 = .ok (.aload_n 0, 1)) rfl,
  ⟨ok_getf cls_10 (Nat.le_of_ble_eq_true rfl) tw_1258 rfl (by decide +kernel : decode cX9_isNoCell 4 = .ok (.getfield 143, 3)),
  ⟨ok_iconst (by decide) (by decide +kernel : decode cX9_isNoCell 7 = .ok (.iconst 1, 1)),
  ⟨ok_isub (by decide +kernel : decode cX9_isNoCell 8 = .ok (.isub, 1)),
  ⟨(ok_callS (k := 3) (s_Mo_isIn g l hst) (Nat.le_of_ble_eq_true rfl) (Nat.le_of_ble_eq_true rfl) rfl rfl tw_1424 tw_1425 tw_9 tw_1426 ⟨by decide, by decide, by decide⟩ (by decide +kernel : decode cX9_isNoCell 9 = .ok (.invokestatic 146, 3))).mono call0_of, trivial⟩⟩⟩⟩⟩⟩⟩⟩
theorem okb_Mo_isNoCell_12 (g : GG) (l : Launch) (hst : l.stackTraces = false) : BlkOk (m_Mo_isNoCell g l) 12 (b_Mo_isNoCell_12 g) := 
  ⟨ok_ifeq (by decide) (by decide +kernel : decode cX9_isNoCell 12 = .ok (.ifCond .eq 12, 3)),
  ⟨ok_iload_n (by decide +kernel : decode cX9_isNoCell 15 = .ok (.iload_n 2, 1)) rfl,
  ⟨ok_iconst (by decide) (by decide +kernel : decode cX9_isNoCell 16 = .ok (.iconst 0, 1)),
  ⟨ok_iconst (by decide) (by decide +kernel : decode cX9_isNoCell 17 = .ok (.iconst 3, 1)),
  ⟨(ok_callS (k := 3) (s_Mo_isIn g l hst) (Nat.le_of_ble_eq_true rfl) (Nat.le_of_ble_eq_true rfl) rfl rfl tw_1424 tw_1425 tw_9 tw_1426 ⟨by decide, by decide, by decide⟩ (by decide +kernel : decode cX9_isNoCell 18 = .ok (.invokestatic 146, 3))).mono call0_of, trivial⟩⟩⟩⟩⟩
theorem okb_Mo_isNoCell_21 (g : GG) (l : Launch) (hst : l.stackTraces = false) : BlkOk (m_Mo_isNoCell g l) 21 (b_Mo_isNoCell_21 g) := 
  ⟨ok_ifne (by decide) (by decide +kernel : decode cX9_isNoCell 21 = .ok (.ifCond .ne 7, 3)), trivial⟩
theorem okb_Mo_isNoCell_24 (g : GG) (l : Launch) (hst : l.stackTraces = false) : BlkOk (m_Mo_isNoCell g l) 24 (b_Mo_isNoCell_24 g) := 
  ⟨ok_iconst (by decide) (by decide +kernel : decode cX9_isNoCell 24 = .ok (.iconst 1, 1)),
  ⟨ok_goto (by decide) (by decide +kernel : decode cX9_isNoCell 25 = .ok (.goto 4, 3)), trivial⟩⟩
theorem okb_Mo_isNoCell_28 (g : GG) (l : Launch) (hst : l.stackTraces = false) : BlkOk (m_Mo_isNoCell g l) 28 (b_Mo_isNoCell_28 g) := 
  ⟨ok_iconst (by decide) (by decide +kernel : decode cX9_isNoCell 28 = .ok (.iconst 0, 1)), trivial⟩
theorem okb_Mo_isNoCell_29 (g : GG) (l : Launch) (hst : l.stackTraces = false) : BlkOk (m_Mo_isNoCell g l) 29 (b_Mo_isNoCell_29 g) := 
  ⟨ok_iconst (by decide) (by decide +kernel : decode cX9_isNoCell 29 = .ok (.iconst 1, 1)),
  ⟨(ok_callV (k := 2) cls_10 (s_Mo_isThrown g l hst) (Nat.le_of_ble_eq_true rfl) (Nat.le_of_ble_eq_true rfl) rfl rfl tw_1427 tw_1429 ts_43 tw_9 tw_1430 ⟨by decide, by decide, by decide⟩ (by decide +kernel : decode cX9_isNoCell 30 = .ok (.invokevirtual 149, 3))).mono callR0_of, trivial⟩⟩
theorem okb_Mo_isNoCell_33 (g : GG) (l : Launch) (hst : l.stackTraces = false) : BlkOk (m_Mo_isNoCell g l) 33 (b_Mo_isNoCell_33 g) := 
  ⟨ok_zret rfl (by decide +kernel : decode cX9_isNoCell 33 = .ok (.ireturn, 1)), trivial⟩
def k_Mo_isNoCell (g : GG) : List (Nat × Blk) := [(0, b_Mo_isNoCell_0 g), (12, b_Mo_isNoCell_12 g), (21, b_Mo_isNoCell_21 g), (24, b_Mo_isNoCell_24 g), (28, b_Mo_isNoCell_28 g), (29, b_Mo_isNoCell_29 g), (33, b_Mo_isNoCell_33 g)]
theorem ok_Mo_isNoCell (g : GG) (l : Launch) (hst : l.stackTraces = false) : ∀ b ∈ k_Mo_isNoCell g, BlkOk (m_Mo_isNoCell g l) b.1 b.2 := List.forall_mem_cons.mpr ⟨okb_Mo_isNoCell_0 g l hst, List.forall_mem_cons.mpr ⟨okb_Mo_isNoCell_12 g l hst, List.forall_mem_cons.mpr ⟨okb_Mo_isNoCell_21 g l hst, List.forall_mem_cons.mpr ⟨okb_Mo_isNoCell_24 g l hst, List.forall_mem_cons.mpr ⟨okb_Mo_isNoCell_28 g l hst, List.forall_mem_cons.mpr ⟨okb_Mo_isNoCell_29 g l hst, List.forall_mem_cons.mpr ⟨okb_Mo_isNoCell_33 g l hst, fun _ h => by cases h⟩⟩⟩⟩⟩⟩⟩
def i_Mo_isNoCell (g : GG) : List (Nat × Blk) := [(24, b_Mo_isNoCell_24 g), (28, b_Mo_isNoCell_28 g), (29, b_Mo_isNoCell_29 g)]
theorem is_Mo_isNoCell (g : GG) : ∀ x ∈ i_Mo_isNoCell g, x ∈ k_Mo_isNoCell g := sub_at [3, 4, 5] rfl
set_option maxHeartbeats 4000000 in
theorem s_Mo_isNoCell (g : GG) (l : Launch) (hst : l.stackTraces = false) : Snd yX9_isNoCell (m_Mo_isNoCell g l) 0 0 T_Mo_isNoCell := by
  refine snd_of (plainFor_of_name (by decide)) rfl (fun h => by first | rfl | cases h) rfl hst (k_Mo_isNoCell g) (ok_Mo_isNoCell g l hst) ?_
  rintro as f Q X ⟨f0, ad, cm, cl, r, c, rfl, hM, hq⟩
  refine ⟨[some (.ref (ad 0)), some (.int r), some (.int c)], rfl, Nat.le_of_ble_eq_true rfl, fun B run => ?_⟩
  refine run _ _ (i_Mo_isNoCell g) rfl (is_Mo_isNoCell g) _ _ _ _ _ ?_; simp only [hobj_c hM.obj, mf_len, mf_0, i_Mo_isNoCell, b_Mo_isNoCell_0, b_Mo_isNoCell_12, b_Mo_isNoCell_21, b_Mo_isNoCell_24, b_Mo_isNoCell_28, b_Mo_isNoCell_29, b_Mo_isNoCell_33, wpL, wpI, Nat.reduceBEq, cond_true, cond_false, lget, lset, lclr, fget, fset, ctake, cdrop, c1, Nat.reduceAdd, o_iadd, o_isub, o_imul, o_iand, o_ior, o_ixor, o_ishl, o_ishr, o_iushr, o_idiv, o_irem, o_ineg, o_ladd, o_lcmp, o_i2l, o_i2c, o_i2d, o_i2f, o_l2f, o_f2d, o_fdiv, o_ddiv, o_dcmp_l, o_dcmp_g, o_fcmp_l, o_fcmp_g, o_push, o_iload, o_fload, o_dload, o_aload, o_istore, o_fstore, o_astore, o_iinc, o_ifeq, o_ifne, o_iflt, o_ifge, o_ifgt, o_ifle, o_iceq, o_icne, o_iclt, o_icge, o_icgt, o_icle, o_goto, o_dup, o_pop, o_dup_x1, o_dup2, o_getf, o_putI, o_putJ, o_putC, o_putR, o_iald, o_zald, o_cald, o_lald, o_dald, o_iast, o_zast, o_cast, o_last, o_dast, o_aald, o_alen, o_throw, o_iret, o_zret, o_cret, o_aret, o_lret, o_fret, o_dret, o_vret, o_new, o_newarr, o_pop1, o_scald, o_salen, o_call, o_callV, o_callX, o_callI, o_call0, o_callR, List.reverse_cons, List.reverse_nil, List.nil_append, List.cons_append, Option.toList_some, Option.toList_none, List.length_cons, List.length_nil, true_and, and_true, true_or, or_true, Nat.reduceLeDiff, Nat.reduceLT, Nat.zero_le, List.append_nil, if_pos, Nat.reduceLeDiff]
  refine i_Mo_isIn_ ?_
  refine run _ _ (i_Mo_isNoCell g) rfl (is_Mo_isNoCell g) _ _ _ _ _ ?_; simp only [hobj_c hM.obj, mf_len, mf_0, i_Mo_isNoCell, b_Mo_isNoCell_0, b_Mo_isNoCell_12, b_Mo_isNoCell_21, b_Mo_isNoCell_24, b_Mo_isNoCell_28, b_Mo_isNoCell_29, b_Mo_isNoCell_33, wpL, wpI, Nat.reduceBEq, cond_true, cond_false, lget, lset, lclr, fget, fset, ctake, cdrop, c1, Nat.reduceAdd, o_iadd, o_isub, o_imul, o_iand, o_ior, o_ixor, o_ishl, o_ishr, o_iushr, o_idiv, o_irem, o_ineg, o_ladd, o_lcmp, o_i2l, o_i2c, o_i2d, o_i2f, o_l2f, o_f2d, o_fdiv, o_ddiv, o_dcmp_l, o_dcmp_g, o_fcmp_l, o_fcmp_g, o_push, o_iload, o_fload, o_dload, o_aload, o_istore, o_fstore, o_astore, o_iinc, o_ifeq, o_ifne, o_iflt, o_ifge, o_ifgt, o_ifle, o_iceq, o_icne, o_iclt, o_icge, o_icgt, o_icle, o_goto, o_dup, o_pop, o_dup_x1, o_dup2, o_getf, o_putI, o_putJ, o_putC, o_putR, o_iald, o_zald, o_cald, o_lald, o_dald, o_iast, o_zast, o_cast, o_last, o_dast, o_aald, o_alen, o_throw, o_iret, o_zret, o_cret, o_aret, o_lret, o_fret, o_dret, o_vret, o_new, o_newarr, o_pop1, o_scald, o_salen, o_call, o_callV, o_callX, o_callI, o_call0, o_callR, List.reverse_cons, List.reverse_nil, List.nil_append, List.cons_append, Option.toList_some, Option.toList_none, List.length_cons, List.length_nil, true_and, and_true, true_or, or_true, Nat.reduceLeDiff, Nat.reduceLT, Nat.zero_le, List.append_nil, if_pos, Nat.reduceLeDiff]
  have fin : ∀ (x : Int32), x = b2i (noCell cm r c) → T_Mo_isThrown [.ref (ad 0), .int x, .int 1] f (fun v f' => B 33 [some (.ref (ad 0)), some (.int r), some (.int c)] (v.toList ++ []) f' 0 0) X := fun x hx => by
    refine j_Mo_isThrown (b := noCell cm r c) hM hx fun f1 hM1 => ?_
    refine run _ _ (i_Mo_isNoCell g) rfl (is_Mo_isNoCell g) _ _ _ _ _ ?_; simp only [hobj_c hM1.obj, mf_len, mf_0, i_Mo_isNoCell, b_Mo_isNoCell_0, b_Mo_isNoCell_12, b_Mo_isNoCell_21, b_Mo_isNoCell_24, b_Mo_isNoCell_28, b_Mo_isNoCell_29, b_Mo_isNoCell_33, wpL, wpI, Nat.reduceBEq, cond_true, cond_false, lget, lset, lclr, fget, fset, ctake, cdrop, c1, Nat.reduceAdd, o_iadd, o_isub, o_imul, o_iand, o_ior, o_ixor, o_ishl, o_ishr, o_iushr, o_idiv, o_irem, o_ineg, o_ladd, o_lcmp, o_i2l, o_i2c, o_i2d, o_i2f, o_l2f, o_f2d, o_fdiv, o_ddiv, o_dcmp_l, o_dcmp_g, o_fcmp_l, o_fcmp_g, o_push, o_iload, o_fload, o_dload, o_aload, o_istore, o_fstore, o_astore, o_iinc, o_ifeq, o_ifne, o_iflt, o_ifge, o_ifgt, o_ifle, o_iceq, o_icne, o_iclt, o_icge, o_icgt, o_icle, o_goto, o_dup, o_pop, o_dup_x1, o_dup2, o_getf, o_putI, o_putJ, o_putC, o_putR, o_iald, o_zald, o_cald, o_lald, o_dald, o_iast, o_zast, o_cast, o_last, o_dast, o_aald, o_alen, o_throw, o_iret, o_zret, o_cret, o_aret, o_lret, o_fret, o_dret, o_vret, o_new, o_newarr, o_pop1, o_scald, o_salen, o_call, o_callV, o_callX, o_callI, o_call0, o_callR, List.reverse_cons, List.reverse_nil, List.nil_append, List.cons_append, Option.toList_some, Option.toList_none, List.length_cons, List.length_nil, true_and, and_true, true_or, or_true, Nat.reduceLeDiff, Nat.reduceLT, Nat.zero_le, List.append_nil, if_pos, Nat.reduceLeDiff]
    exact ⟨b2i_01 _, hq f1 hM1⟩
  refine ⟨fun h => fin _ ?_, fun h => i_Mo_isIn_ ?_⟩
  · simp [noCell, b2i_0.mp h, b2i]
  · refine run _ _ (i_Mo_isNoCell g) rfl (is_Mo_isNoCell g) _ _ _ _ _ ?_; simp only [hobj_c hM.obj, mf_len, mf_0, i_Mo_isNoCell, b_Mo_isNoCell_0, b_Mo_isNoCell_12, b_Mo_isNoCell_21, b_Mo_isNoCell_24, b_Mo_isNoCell_28, b_Mo_isNoCell_29, b_Mo_isNoCell_33, wpL, wpI, Nat.reduceBEq, cond_true, cond_false, lget, lset, lclr, fget, fset, ctake, cdrop, c1, Nat.reduceAdd, o_iadd, o_isub, o_imul, o_iand, o_ior, o_ixor, o_ishl, o_ishr, o_iushr, o_idiv, o_irem, o_ineg, o_ladd, o_lcmp, o_i2l, o_i2c, o_i2d, o_i2f, o_l2f, o_f2d, o_fdiv, o_ddiv, o_dcmp_l, o_dcmp_g, o_fcmp_l, o_fcmp_g, o_push, o_iload, o_fload, o_dload, o_aload, o_istore, o_fstore, o_astore, o_iinc, o_ifeq, o_ifne, o_iflt, o_ifge, o_ifgt, o_ifle, o_iceq, o_icne, o_iclt, o_icge, o_icgt, o_icle, o_goto, o_dup, o_pop, o_dup_x1, o_dup2, o_getf, o_putI, o_putJ, o_putC, o_putR, o_iald, o_zald, o_cald, o_lald, o_dald, o_iast, o_zast, o_cast, o_last, o_dast, o_aald, o_alen, o_throw, o_iret, o_zret, o_cret, o_aret, o_lret, o_fret, o_dret, o_vret, o_new, o_newarr, o_pop1, o_scald, o_salen, o_call, o_callV, o_callX, o_callI, o_call0, o_callR, List.reverse_cons, List.reverse_nil, List.nil_append, List.cons_append, Option.toList_some, Option.toList_none, List.length_cons, List.length_nil, true_and, and_true, true_or, or_true, Nat.reduceLeDiff, Nat.reduceLT, Nat.zero_le, List.append_nil, if_pos, Nat.reduceLeDiff]
    have h1 : inR r 0 (cm 0 0 0 - 1) = true := by cases e : inR r 0 (cm 0 0 0 - 1); rw [e] at h; exact absurd rfl h; rfl
    cases h2 : inR c 0 3
    · refine ⟨fun h => absurd rfl h, fun h => fin _ ?_⟩
      simp [noCell, h1, h2, b2i]
    · refine ⟨fun h => fin _ ?_, fun h => absurd h (by decide)⟩
      simp [noCell, h1, h2, b2i]
def imin (a b : Int32) : Int32 := if b < a then b else a
def imax (a b : Int32) : Int32 := if a < b then b else a
def T_Ma_min : Spec2 := fun as f Q _ => ∃ (a : Int32) (b : Int32), as = [.int a, .int b] ∧ Q (some (.int (imin a b))) f
theorem i_Ma_min_ {a : Int32} {b : Int32} {f : AH} {Q : Option Value → AH → Prop} {X : String → AH → Prop} (h : Q (some (.int (imin a b))) f) : T_Ma_min [.int a, .int b] f Q X := ⟨a, b, rfl, h⟩
abbrev m_Ma_min (g : GG) (l : Launch) : MI := (RJ9, cJ9_min_7cf53, 2, (some .int), [], false, 1, g, l)
def b_Ma_min_0 (g : GG) : Blk := [(1, o_iload 0), (1, o_iload 1), (3, o_icgt 9), (1, o_iload 0), (3, o_goto 10)]
def b_Ma_min_9 (g : GG) : Blk := [(1, o_iload 1)]
def b_Ma_min_10 (g : GG) : Blk := [(1, o_iret)]
theorem okb_Ma_min_0 (g : GG) (l : Launch) (hst : l.stackTraces = false) : BlkOk (m_Ma_min g l) 0 (b_Ma_min_0 g) := 
  ⟨ok_iload_n (by decide +kernel : decode cJ9_min_7cf53 0 = .ok (.iload_n 0, 1)) rfl,
  ⟨ok_iload_n (by decide +kernel : decode cJ9_min_7cf53 1 = .ok (.iload_n 1, 1)) rfl,
  ⟨ok_icgt (by decide) (by decide +kernel : decode cJ9_min_7cf53 2 = .ok (.if_icmp .gt 7, 3)),
  ⟨ok_iload_n (by decide +kernel : decode cJ9_min_7cf53 5 = .ok (.iload_n 0, 1)) rfl,
  ⟨ok_goto (by decide) (by decide +kernel : decode cJ9_min_7cf53 6 = .ok (.goto 4, 3)), trivial⟩⟩⟩⟩⟩
theorem okb_Ma_min_9 (g : GG) (l : Launch) (hst : l.stackTraces = false) : BlkOk (m_Ma_min g l) 9 (b_Ma_min_9 g) := 
  ⟨ok_iload_n (by decide +kernel : decode cJ9_min_7cf53 9 = .ok (.iload_n 1, 1)) rfl, trivial⟩
theorem okb_Ma_min_10 (g : GG) (l : Launch) (hst : l.stackTraces = false) : BlkOk (m_Ma_min g l) 10 (b_Ma_min_10 g) := 
  ⟨ok_iret rfl (by decide +kernel : decode cJ9_min_7cf53 10 = .ok (.ireturn, 1)), trivial⟩
def k_Ma_min (g : GG) : List (Nat × Blk) := [(0, b_Ma_min_0 g), (9, b_Ma_min_9 g), (10, b_Ma_min_10 g)]
theorem ok_Ma_min (g : GG) (l : Launch) (hst : l.stackTraces = false) : ∀ b ∈ k_Ma_min g, BlkOk (m_Ma_min g l) b.1 b.2 := List.forall_mem_cons.mpr ⟨okb_Ma_min_0 g l hst, List.forall_mem_cons.mpr ⟨okb_Ma_min_9 g l hst, List.forall_mem_cons.mpr ⟨okb_Ma_min_10 g l hst, fun _ h => by cases h⟩⟩⟩
def i_Ma_min (g : GG) : List (Nat × Blk) := [(9, b_Ma_min_9 g), (10, b_Ma_min_10 g)]
theorem is_Ma_min (g : GG) : ∀ x ∈ i_Ma_min g, x ∈ k_Ma_min g := sub_at [1, 2] rfl
set_option maxHeartbeats 4000000 in
theorem s_Ma_min (g : GG) (l : Launch) (hst : l.stackTraces = false) : Snd yJ9_min_7cf53 (m_Ma_min g l) 0 0 T_Ma_min := by
  refine snd_of (by decide +kernel) rfl (fun h => by first | rfl | cases h) rfl hst (k_Ma_min g) (ok_Ma_min g l hst) ?_
  rintro as f Q X ⟨a, b, rfl, hq⟩
  refine ⟨[some (.int a), some (.int b)], rfl, Nat.le_of_ble_eq_true rfl, fun B run => ?_⟩
  refine run _ _ (i_Ma_min g) rfl (is_Ma_min g) _ _ _ _ _ ?_; simp only [i_Ma_min, b_Ma_min_0, b_Ma_min_9, b_Ma_min_10, wpL, wpI, Nat.reduceBEq, cond_true, cond_false, lget, lset, lclr, fget, fset, ctake, cdrop, c1, Nat.reduceAdd, o_iadd, o_isub, o_imul, o_iand, o_ior, o_ixor, o_ishl, o_ishr, o_iushr, o_idiv, o_irem, o_ineg, o_ladd, o_lcmp, o_i2l, o_i2c, o_i2d, o_i2f, o_l2f, o_f2d, o_fdiv, o_ddiv, o_dcmp_l, o_dcmp_g, o_fcmp_l, o_fcmp_g, o_push, o_iload, o_fload, o_dload, o_aload, o_istore, o_fstore, o_astore, o_iinc, o_ifeq, o_ifne, o_iflt, o_ifge, o_ifgt, o_ifle, o_iceq, o_icne, o_iclt, o_icge, o_icgt, o_icle, o_goto, o_dup, o_pop, o_dup_x1, o_dup2, o_getf, o_putI, o_putJ, o_putC, o_putR, o_iald, o_zald, o_cald, o_lald, o_dald, o_iast, o_zast, o_cast, o_last, o_dast, o_aald, o_alen, o_throw, o_iret, o_zret, o_cret, o_aret, o_lret, o_fret, o_dret, o_vret, o_new, o_newarr, o_pop1, o_scald, o_salen, o_call, o_callV, o_callX, o_callI, o_call0, o_callR, List.reverse_cons, List.reverse_nil, List.nil_append, List.cons_append, Option.toList_some, Option.toList_none, List.length_cons, List.length_nil, true_and, and_true, true_or, or_true, Nat.reduceLeDiff, Nat.reduceLT, Nat.zero_le, List.append_nil, if_pos, Nat.reduceLeDiff]
  by_cases h : b < a <;> simp [h, imin] at hq ⊢ <;> exact hq
def T_Ma_max : Spec2 := fun as f Q _ => ∃ (a : Int32) (b : Int32), as = [.int a, .int b] ∧ Q (some (.int (imax a b))) f
theorem i_Ma_max_ {a : Int32} {b : Int32} {f : AH} {Q : Option Value → AH → Prop} {X : String → AH → Prop} (h : Q (some (.int (imax a b))) f) : T_Ma_max [.int a, .int b] f Q X := ⟨a, b, rfl, h⟩
abbrev m_Ma_max (g : GG) (l : Launch) : MI := (RJ9, cJ9_max_7cf53, 2, (some .int), [], false, 1, g, l)
def b_Ma_max_0 (g : GG) : Blk := [(1, o_iload 0), (1, o_iload 1), (3, o_iclt 9), (1, o_iload 0), (3, o_goto 10)]
def b_Ma_max_9 (g : GG) : Blk := [(1, o_iload 1)]
def b_Ma_max_10 (g : GG) : Blk := [(1, o_iret)]
theorem okb_Ma_max_0 (g : GG) (l : Launch) (hst : l.stackTraces = false) : BlkOk (m_Ma_max g l) 0 (b_Ma_max_0 g) := 
  ⟨ok_iload_n (by decide +kernel : decode cJ9_max_7cf53 0 = .ok (.iload_n 0, 1)) rfl,
  ⟨ok_iload_n (by decide +kernel : decode cJ9_max_7cf53 1 = .ok (.iload_n 1, 1)) rfl,
  ⟨ok_iclt (by decide) (by decide +kernel : decode cJ9_max_7cf53 2 = .ok (.if_icmp .lt 7, 3)),
  ⟨ok_iload_n (by decide +kernel : decode cJ9_max_7cf53 5 = .ok (.iload_n 0, 1)) rfl,
  ⟨ok_goto (by decide) (by decide +kernel : decode cJ9_max_7cf53 6 = .ok (.goto 4, 3)), trivial⟩⟩⟩⟩⟩
theorem okb_Ma_max_9 (g : GG) (l : Launch) (hst : l.stackTraces = false) : BlkOk (m_Ma_max g l) 9 (b_Ma_max_9 g) := 
  ⟨ok_iload_n (by decide +kernel : decode cJ9_max_7cf53 9 = .ok (.iload_n 1, 1)) rfl, trivial⟩
theorem okb_Ma_max_10 (g : GG) (l : Launch) (hst : l.stackTraces = false) : BlkOk (m_Ma_max g l) 10 (b_Ma_max_10 g) := 
  ⟨ok_iret rfl (by decide +kernel : decode cJ9_max_7cf53 10 = .ok (.ireturn, 1)), trivial⟩
def k_Ma_max (g : GG) : List (Nat × Blk) := [(0, b_Ma_max_0 g), (9, b_Ma_max_9 g), (10, b_Ma_max_10 g)]
theorem ok_Ma_max (g : GG) (l : Launch) (hst : l.stackTraces = false) : ∀ b ∈ k_Ma_max g, BlkOk (m_Ma_max g l) b.1 b.2 := List.forall_mem_cons.mpr ⟨okb_Ma_max_0 g l hst, List.forall_mem_cons.mpr ⟨okb_Ma_max_9 g l hst, List.forall_mem_cons.mpr ⟨okb_Ma_max_10 g l hst, fun _ h => by cases h⟩⟩⟩
def i_Ma_max (g : GG) : List (Nat × Blk) := [(9, b_Ma_max_9 g), (10, b_Ma_max_10 g)]
theorem is_Ma_max (g : GG) : ∀ x ∈ i_Ma_max g, x ∈ k_Ma_max g := sub_at [1, 2] rfl
set_option maxHeartbeats 4000000 in
theorem s_Ma_max (g : GG) (l : Launch) (hst : l.stackTraces = false) : Snd yJ9_max_7cf53 (m_Ma_max g l) 0 0 T_Ma_max := by
  refine snd_of (by decide +kernel) rfl (fun h => by first | rfl | cases h) rfl hst (k_Ma_max g) (ok_Ma_max g l hst) ?_
  rintro as f Q X ⟨a, b, rfl, hq⟩
  refine ⟨[some (.int a), some (.int b)], rfl, Nat.le_of_ble_eq_true rfl, fun B run => ?_⟩
  refine run _ _ (i_Ma_max g) rfl (is_Ma_max g) _ _ _ _ _ ?_; simp only [i_Ma_max, b_Ma_max_0, b_Ma_max_9, b_Ma_max_10, wpL, wpI, Nat.reduceBEq, cond_true, cond_false, lget, lset, lclr, fget, fset, ctake, cdrop, c1, Nat.reduceAdd, o_iadd, o_isub, o_imul, o_iand, o_ior, o_ixor, o_ishl, o_ishr, o_iushr, o_idiv, o_irem, o_ineg, o_ladd, o_lcmp, o_i2l, o_i2c, o_i2d, o_i2f, o_l2f, o_f2d, o_fdiv, o_ddiv, o_dcmp_l, o_dcmp_g, o_fcmp_l, o_fcmp_g, o_push, o_iload, o_fload, o_dload, o_aload, o_istore, o_fstore, o_astore, o_iinc, o_ifeq, o_ifne, o_iflt, o_ifge, o_ifgt, o_ifle, o_iceq, o_icne, o_iclt, o_icge, o_icgt, o_icle, o_goto, o_dup, o_pop, o_dup_x1, o_dup2, o_getf, o_putI, o_putJ, o_putC, o_putR, o_iald, o_zald, o_cald, o_lald, o_dald, o_iast, o_zast, o_cast, o_last, o_dast, o_aald, o_alen, o_throw, o_iret, o_zret, o_cret, o_aret, o_lret, o_fret, o_dret, o_vret, o_new, o_newarr, o_pop1, o_scald, o_salen, o_call, o_callV, o_callX, o_callI, o_call0, o_callR, List.reverse_cons, List.reverse_nil, List.nil_append, List.cons_append, Option.toList_some, Option.toList_none, List.length_cons, List.length_nil, true_and, and_true, true_or, or_true, Nat.reduceLeDiff, Nat.reduceLT, Nat.zero_le, List.append_nil, if_pos, Nat.reduceLeDiff]
  by_cases h : a < b <;> simp [h, imax] at hq ⊢ <;> exact hq
def flm (x y : Int32) : Int32 := if (x ^^^ y) < 0 ∧ ¬ (x - x / y * y = 0) then (x - x / y * y) + y else x - x / y * y
def T_Ma_floorMod : Spec2 := fun as f Q _ => ∃ (x : Int32) (y : Int32), as = [.int x, .int y] ∧ (¬ y = 0) ∧ Q (some (.int (flm x y))) f
theorem i_Ma_floorMod_ {x : Int32} {y : Int32} {f : AH} {Q : Option Value → AH → Prop} {X : String → AH → Prop} (hp : ¬ y = 0) (h : Q (some (.int (flm x y))) f) : T_Ma_floorMod [.int x, .int y] f Q X := ⟨x, y, rfl, hp, h⟩
abbrev m_Ma_floorMod (g : GG) (l : Launch) : MI := (RJ9, cJ9_floorMod_7cf53, 3, (some .int), [], false, 1, g, l)
def b_Ma_floorMod_0 (g : GG) : Blk := [(1, o_iload 0), (1, o_iload 1), (1, o_irem), (1, o_istore 2), (1, o_iload 0), (1, o_iload 1), (1, o_ixor), (3, o_ifge 18), (1, o_iload 2), (3, o_ifeq 18), (1, o_iload 2), (1, o_iload 1), (1, o_iadd), (1, o_iret)]
def b_Ma_floorMod_18 (g : GG) : Blk := [(1, o_iload 2), (1, o_iret)]
theorem okb_Ma_floorMod_0 (g : GG) (l : Launch) (hst : l.stackTraces = false) : BlkOk (m_Ma_floorMod g l) 0 (b_Ma_floorMod_0 g) := 
  ⟨ok_iload_n (by decide +kernel : decode cJ9_floorMod_7cf53 0 = .ok (.iload_n 0, 1)) rfl,
  ⟨ok_iload_n (by decide +kernel : decode cJ9_floorMod_7cf53 1 = .ok (.iload_n 1, 1)) rfl,
  ⟨ok_irem (by decide +kernel : decode cJ9_floorMod_7cf53 2 = .ok (.irem, 1)),
  ⟨ok_istore_n rfl (Nat.le_of_ble_eq_true rfl) (by decide +kernel : decode cJ9_floorMod_7cf53 3 = .ok (.istore_n 2, 1)),
  ⟨ok_iload_n (by decide +kernel : decode cJ9_floorMod_7cf53 4 = .ok (.iload_n 0, 1)) rfl,
  ⟨ok_iload_n (by decide +kernel : decode cJ9_floorMod_7cf53 5 = .ok (.iload_n 1, 1)) rfl,
  ⟨ok_ixor (by decide +kernel : decode cJ9_floorMod_7cf53 6 = .ok (.ixor, 1)),
  ⟨ok_ifge (by decide) (by decide +kernel : decode cJ9_floorMod_7cf53 7 = .ok (.ifCond .ge 11, 3)),
  ⟨ok_iload_n (by decide +kernel : decode cJ9_floorMod_7cf53 10 = .ok (.iload_n 2, 1)) rfl,
  ⟨ok_ifeq (by decide) (by decide +kernel : decode cJ9_floorMod_7cf53 11 = .ok (.ifCond .eq 7, 3)),
  ⟨ok_iload_n (by decide +kernel : decode cJ9_floorMod_7cf53 14 = .ok (.iload_n 2, 1)) rfl,
  ⟨ok_iload_n (by decide +kernel : decode cJ9_floorMod_7cf53 15 = .ok (.iload_n 1, 1)) rfl,
  ⟨ok_iadd (by decide +kernel : decode cJ9_floorMod_7cf53 16 = .ok (.iadd, 1)),
  ⟨ok_iret rfl (by decide +kernel : decode cJ9_floorMod_7cf53 17 = .ok (.ireturn, 1)), trivial⟩⟩⟩⟩⟩⟩⟩⟩⟩⟩⟩⟩⟩⟩
theorem okb_Ma_floorMod_18 (g : GG) (l : Launch) (hst : l.stackTraces = false) : BlkOk (m_Ma_floorMod g l) 18 (b_Ma_floorMod_18 g) := 
  ⟨ok_iload_n (by decide +kernel : decode cJ9_floorMod_7cf53 18 = .ok (.iload_n 2, 1)) rfl,
  ⟨ok_iret rfl (by decide +kernel : decode cJ9_floorMod_7cf53 19 = .ok (.ireturn, 1)), trivial⟩⟩
def k_Ma_floorMod (g : GG) : List (Nat × Blk) := [(0, b_Ma_floorMod_0 g), (18, b_Ma_floorMod_18 g)]
theorem ok_Ma_floorMod (g : GG) (l : Launch) (hst : l.stackTraces = false) : ∀ b ∈ k_Ma_floorMod g, BlkOk (m_Ma_floorMod g l) b.1 b.2 := List.forall_mem_cons.mpr ⟨okb_Ma_floorMod_0 g l hst, List.forall_mem_cons.mpr ⟨okb_Ma_floorMod_18 g l hst, fun _ h => by cases h⟩⟩
def i_Ma_floorMod (g : GG) : List (Nat × Blk) := [(18, b_Ma_floorMod_18 g)]
theorem is_Ma_floorMod (g : GG) : ∀ x ∈ i_Ma_floorMod g, x ∈ k_Ma_floorMod g := sub_at [1] rfl
set_option maxHeartbeats 4000000 in
theorem s_Ma_floorMod (g : GG) (l : Launch) (hst : l.stackTraces = false) : Snd yJ9_floorMod_7cf53 (m_Ma_floorMod g l) 0 0 T_Ma_floorMod := by
  refine snd_of (by decide +kernel) rfl (fun h => by first | rfl | cases h) rfl hst (k_Ma_floorMod g) (ok_Ma_floorMod g l hst) ?_
  rintro as f Q X ⟨x, y, rfl, hp, hq⟩
  refine ⟨[some (.int x), some (.int y), none], rfl, Nat.le_of_ble_eq_true rfl, fun B run => ?_⟩
  refine run _ _ (i_Ma_floorMod g) rfl (is_Ma_floorMod g) _ _ _ _ _ ?_; simp only [i_Ma_floorMod, b_Ma_floorMod_0, b_Ma_floorMod_18, wpL, wpI, Nat.reduceBEq, cond_true, cond_false, lget, lset, lclr, fget, fset, ctake, cdrop, c1, Nat.reduceAdd, o_iadd, o_isub, o_imul, o_iand, o_ior, o_ixor, o_ishl, o_ishr, o_iushr, o_idiv, o_irem, o_ineg, o_ladd, o_lcmp, o_i2l, o_i2c, o_i2d, o_i2f, o_l2f, o_f2d, o_fdiv, o_ddiv, o_dcmp_l, o_dcmp_g, o_fcmp_l, o_fcmp_g, o_push, o_iload, o_fload, o_dload, o_aload, o_istore, o_fstore, o_astore, o_iinc, o_ifeq, o_ifne, o_iflt, o_ifge, o_ifgt, o_ifle, o_iceq, o_icne, o_iclt, o_icge, o_icgt, o_icle, o_goto, o_dup, o_pop, o_dup_x1, o_dup2, o_getf, o_putI, o_putJ, o_putC, o_putR, o_iald, o_zald, o_cald, o_lald, o_dald, o_iast, o_zast, o_cast, o_last, o_dast, o_aald, o_alen, o_throw, o_iret, o_zret, o_cret, o_aret, o_lret, o_fret, o_dret, o_vret, o_new, o_newarr, o_pop1, o_scald, o_salen, o_call, o_callV, o_callX, o_callI, o_call0, o_callR, List.reverse_cons, List.reverse_nil, List.nil_append, List.cons_append, Option.toList_some, Option.toList_none, List.length_cons, List.length_nil, true_and, and_true, true_or, or_true, Nat.reduceLeDiff, Nat.reduceLT, Nat.zero_le, List.append_nil, if_pos, Nat.reduceLeDiff]
  refine ⟨hp, ?_⟩
  by_cases h : 0 ≤ (x ^^^ y) <;> by_cases h2 : x - x / y * y = 0 <;> simp [h, h2, flm, ← Int32.not_le] at hq ⊢ <;> exact hq
def T_Mo_thrown : Spec2 := fun as f Q _ => ∃ (f0 : AH) (ad : Nat → Nat) (cm : CM) (cl : CL), as = [.ref (ad 0)] ∧ MR f0 f ad cm cl ∧ ∀ f', MR f0 f' ad (cm) (cl) → Q (some (.int (cm 49 0 0))) f'
theorem i_Mo_thrown_ {f0 : AH} {ad : Nat → Nat} {cm : CM} {cl : CL}  {f : AH} {Q : Option Value → AH → Prop} {X : String → AH → Prop} (hM : MR f0 f ad cm cl) (h : ∀ f', MR f0 f' ad (cm) (cl) → Q (some (.int (cm 49 0 0))) f') : T_Mo_thrown [.ref (ad 0)] f Q X := ⟨f0, ad, cm, cl, rfl, hM, h⟩
abbrev m_Mo_thrown (g : GG) (l : Launch) : MI := (RX9, cX9_thrown, 1, (some .int), [], false, 1, g, l)
def b_Mo_thrown_0 (g : GG) : Blk := [(1, o_aload 0), (3, o_getf 10 49), (1, o_iret)]
theorem okb_Mo_thrown_0 (g : GG) (l : Launch) (hst : l.stackTraces = false) : BlkOk (m_Mo_thrown g l) 0 (b_Mo_thrown_0 g) := 
  ⟨ok_aload_n (by decide +kernel : decode cX9_thrown 0 = .ok (.aload_n 0, 1)) rfl,
  ⟨ok_getf cls_10 (Nat.le_of_ble_eq_true rfl) tw_1307 rfl (by decide +kernel : decode cX9_thrown 1 = .ok (.getfield 139, 3)),
  ⟨ok_iret rfl (by decide +kernel : decode cX9_thrown 4 = .ok (.ireturn, 1)), trivial⟩⟩⟩
def k_Mo_thrown (g : GG) : List (Nat × Blk) := [(0, b_Mo_thrown_0 g)]
theorem ok_Mo_thrown (g : GG) (l : Launch) (hst : l.stackTraces = false) : ∀ b ∈ k_Mo_thrown g, BlkOk (m_Mo_thrown g l) b.1 b.2 := List.forall_mem_cons.mpr ⟨okb_Mo_thrown_0 g l hst, fun _ h => by cases h⟩
def i_Mo_thrown (g : GG) : List (Nat × Blk) := []
theorem is_Mo_thrown (g : GG) : ∀ x ∈ i_Mo_thrown g, x ∈ k_Mo_thrown g := sub_at [] rfl
set_option maxHeartbeats 4000000 in
theorem s_Mo_thrown (g : GG) (l : Launch) (hst : l.stackTraces = false) : Snd yX9_thrown (m_Mo_thrown g l) 0 0 T_Mo_thrown := by
  refine snd_of (plainFor_of_name (by decide)) rfl (fun h => by first | rfl | cases h) rfl hst (k_Mo_thrown g) (ok_Mo_thrown g l hst) ?_
  rintro as f Q X ⟨f0, ad, cm, cl, rfl, hM, hq⟩
  refine ⟨[some (.ref (ad 0))], rfl, Nat.le_of_ble_eq_true rfl, fun B run => ?_⟩
  refine run _ _ (i_Mo_thrown g) rfl (is_Mo_thrown g) _ _ _ _ _ ?_; simp only [hobj_c hM.obj, mf_len, mf_49, i_Mo_thrown, b_Mo_thrown_0, wpL, wpI, Nat.reduceBEq, cond_true, cond_false, lget, lset, lclr, fget, fset, ctake, cdrop, c1, Nat.reduceAdd, o_iadd, o_isub, o_imul, o_iand, o_ior, o_ixor, o_ishl, o_ishr, o_iushr, o_idiv, o_irem, o_ineg, o_ladd, o_lcmp, o_i2l, o_i2c, o_i2d, o_i2f, o_l2f, o_f2d, o_fdiv, o_ddiv, o_dcmp_l, o_dcmp_g, o_fcmp_l, o_fcmp_g, o_push, o_iload, o_fload, o_dload, o_aload, o_istore, o_fstore, o_astore, o_iinc, o_ifeq, o_ifne, o_iflt, o_ifge, o_ifgt, o_ifle, o_iceq, o_icne, o_iclt, o_icge, o_icgt, o_icle, o_goto, o_dup, o_pop, o_dup_x1, o_dup2, o_getf, o_putI, o_putJ, o_putC, o_putR, o_iald, o_zald, o_cald, o_lald, o_dald, o_iast, o_zast, o_cast, o_last, o_dast, o_aald, o_alen, o_throw, o_iret, o_zret, o_cret, o_aret, o_lret, o_fret, o_dret, o_vret, o_new, o_newarr, o_pop1, o_scald, o_salen, o_call, o_callV, o_callX, o_callI, o_call0, o_callR, List.reverse_cons, List.reverse_nil, List.nil_append, List.cons_append, Option.toList_some, Option.toList_none, List.length_cons, List.length_nil, true_and, and_true, true_or, or_true, Nat.reduceLeDiff, Nat.reduceLT, Nat.zero_le, List.append_nil, if_pos, Nat.reduceLeDiff]
  exact hq _ hM
/-- the chunks there are -/
def chN (cm : CM) : Int32 := (cm 0 0 0 + 16 - 1) / 16
def T_Mo_chunksNow : Spec2 := fun as f Q _ => ∃ (f0 : AH) (ad : Nat → Nat) (cm : CM) (cl : CL), as = [.ref (ad 0)] ∧ MR f0 f ad cm cl ∧ ∀ f', MR f0 f' ad (cm) (cl) → Q (some (.int (chN cm))) f'
theorem i_Mo_chunksNow_ {f0 : AH} {ad : Nat → Nat} {cm : CM} {cl : CL}  {f : AH} {Q : Option Value → AH → Prop} {X : String → AH → Prop} (hM : MR f0 f ad cm cl) (h : ∀ f', MR f0 f' ad (cm) (cl) → Q (some (.int (chN cm))) f') : T_Mo_chunksNow [.ref (ad 0)] f Q X := ⟨f0, ad, cm, cl, rfl, hM, h⟩
abbrev m_Mo_chunksNow (g : GG) (l : Launch) : MI := (RX9, cX9_chunksNow, 1, (some .int), [], false, 1, g, l)
def b_Mo_chunksNow_0 (g : GG) : Blk := [(1, o_aload 0), (3, o_getf 10 0), (2, o_push (.int 16)), (1, o_iadd), (1, o_push (.int 1)), (1, o_isub), (2, o_push (.int 16)), (1, o_idiv), (1, o_iret)]
theorem okb_Mo_chunksNow_0 (g : GG) (l : Launch) (hst : l.stackTraces = false) : BlkOk (m_Mo_chunksNow g l) 0 (b_Mo_chunksNow_0 g) := 
  ⟨ok_aload_n (by decide +kernel : decode cX9_chunksNow 0 = .ok (.aload_n 0, 1)) rfl,
  ⟨ok_getf cls_10 (Nat.le_of_ble_eq_true rfl) tw_1258 rfl (by decide +kernel : decode cX9_chunksNow 1 = .ok (.getfield 143, 3)),
  ⟨ok_bipush (by decide) (by decide +kernel : decode cX9_chunksNow 4 = .ok (.bipush 16, 2)),
  ⟨ok_iadd (by decide +kernel : decode cX9_chunksNow 6 = .ok (.iadd, 1)),
  ⟨ok_iconst (by decide) (by decide +kernel : decode cX9_chunksNow 7 = .ok (.iconst 1, 1)),
  ⟨ok_isub (by decide +kernel : decode cX9_chunksNow 8 = .ok (.isub, 1)),
  ⟨ok_bipush (by decide) (by decide +kernel : decode cX9_chunksNow 9 = .ok (.bipush 16, 2)),
  ⟨ok_idiv (by decide +kernel : decode cX9_chunksNow 11 = .ok (.idiv, 1)),
  ⟨ok_iret rfl (by decide +kernel : decode cX9_chunksNow 12 = .ok (.ireturn, 1)), trivial⟩⟩⟩⟩⟩⟩⟩⟩⟩
def k_Mo_chunksNow (g : GG) : List (Nat × Blk) := [(0, b_Mo_chunksNow_0 g)]
theorem ok_Mo_chunksNow (g : GG) (l : Launch) (hst : l.stackTraces = false) : ∀ b ∈ k_Mo_chunksNow g, BlkOk (m_Mo_chunksNow g l) b.1 b.2 := List.forall_mem_cons.mpr ⟨okb_Mo_chunksNow_0 g l hst, fun _ h => by cases h⟩
def i_Mo_chunksNow (g : GG) : List (Nat × Blk) := []
theorem is_Mo_chunksNow (g : GG) : ∀ x ∈ i_Mo_chunksNow g, x ∈ k_Mo_chunksNow g := sub_at [] rfl
set_option maxHeartbeats 4000000 in
theorem s_Mo_chunksNow (g : GG) (l : Launch) (hst : l.stackTraces = false) : Snd yX9_chunksNow (m_Mo_chunksNow g l) 0 0 T_Mo_chunksNow := by
  refine snd_of (plainFor_of_name (by decide)) rfl (fun h => by first | rfl | cases h) rfl hst (k_Mo_chunksNow g) (ok_Mo_chunksNow g l hst) ?_
  rintro as f Q X ⟨f0, ad, cm, cl, rfl, hM, hq⟩
  refine ⟨[some (.ref (ad 0))], rfl, Nat.le_of_ble_eq_true rfl, fun B run => ?_⟩
  refine run _ _ (i_Mo_chunksNow g) rfl (is_Mo_chunksNow g) _ _ _ _ _ ?_; simp only [hobj_c hM.obj, mf_len, mf_0, i_Mo_chunksNow, b_Mo_chunksNow_0, wpL, wpI, Nat.reduceBEq, cond_true, cond_false, lget, lset, lclr, fget, fset, ctake, cdrop, c1, Nat.reduceAdd, o_iadd, o_isub, o_imul, o_iand, o_ior, o_ixor, o_ishl, o_ishr, o_iushr, o_idiv, o_irem, o_ineg, o_ladd, o_lcmp, o_i2l, o_i2c, o_i2d, o_i2f, o_l2f, o_f2d, o_fdiv, o_ddiv, o_dcmp_l, o_dcmp_g, o_fcmp_l, o_fcmp_g, o_push, o_iload, o_fload, o_dload, o_aload, o_istore, o_fstore, o_astore, o_iinc, o_ifeq, o_ifne, o_iflt, o_ifge, o_ifgt, o_ifle, o_iceq, o_icne, o_iclt, o_icge, o_icgt, o_icle, o_goto, o_dup, o_pop, o_dup_x1, o_dup2, o_getf, o_putI, o_putJ, o_putC, o_putR, o_iald, o_zald, o_cald, o_lald, o_dald, o_iast, o_zast, o_cast, o_last, o_dast, o_aald, o_alen, o_throw, o_iret, o_zret, o_cret, o_aret, o_lret, o_fret, o_dret, o_vret, o_new, o_newarr, o_pop1, o_scald, o_salen, o_call, o_callV, o_callX, o_callI, o_call0, o_callR, List.reverse_cons, List.reverse_nil, List.nil_append, List.cons_append, Option.toList_some, Option.toList_none, List.length_cons, List.length_nil, true_and, and_true, true_or, or_true, Nat.reduceLeDiff, Nat.reduceLT, Nat.zero_le, List.append_nil, if_pos, Nat.reduceLeDiff]
  exact ⟨by decide, hq _ hM⟩
def roN (cm : CM) (k : Int32) : Int32 := imin 16 (cm 0 0 0 - 16 * k)
def T_Mo_rowsOf : Spec2 := fun as f Q _ => ∃ (f0 : AH) (ad : Nat → Nat) (cm : CM) (cl : CL) (k : Int32), as = [.ref (ad 0), .int k] ∧ MR f0 f ad cm cl ∧ ∀ f', MR f0 f' ad (cm) (cl) → Q (some (.int (roN cm k))) f'
theorem i_Mo_rowsOf_ {f0 : AH} {ad : Nat → Nat} {cm : CM} {cl : CL} {k : Int32} {f : AH} {Q : Option Value → AH → Prop} {X : String → AH → Prop} (hM : MR f0 f ad cm cl) (h : ∀ f', MR f0 f' ad (cm) (cl) → Q (some (.int (roN cm k))) f') : T_Mo_rowsOf [.ref (ad 0), .int k] f Q X := ⟨f0, ad, cm, cl, k, rfl, hM, h⟩
abbrev m_Mo_rowsOf (g : GG) (l : Launch) : MI := (RX9, cX9_rowsOf, 2, (some .int), [], false, 2, g, l)
def b_Mo_rowsOf_0 (g : GG) : Blk := [(2, o_push (.int 16)), (1, o_aload 0), (3, o_getf 10 0), (2, o_push (.int 16)), (1, o_iload 1), (1, o_imul), (1, o_isub), (3, o_call0 T_Ma_min 2)]
def b_Mo_rowsOf_14 (g : GG) : Blk := [(1, o_iret)]
theorem okb_Mo_rowsOf_0 (g : GG) (l : Launch) (hst : l.stackTraces = false) : BlkOk (m_Mo_rowsOf g l) 0 (b_Mo_rowsOf_0 g) := 
  ⟨ok_bipush (by decide) (by decide +kernel : decode cX9_rowsOf 0 = .ok (.bipush 16, 2)),
  ⟨ok_aload_n (by decide +kernel : decode cX9_rowsOf 2 = .ok (.aload_n 0, 1)) rfl,
  ⟨ok_getf cls_10 (Nat.le_of_ble_eq_true rfl) tw_1258 rfl (by decide +kernel : decode cX9_rowsOf 3 = .ok (.getfield 143, 3)),
  ⟨ok_bipush (by decide) (by decide +kernel : decode cX9_rowsOf 6 = .ok (.bipush 16, 2)),
  ⟨ok_iload_n (by decide +kernel : decode cX9_rowsOf 8 = .ok (.iload_n 1, 1)) rfl,
  ⟨ok_imul (by decide +kernel : decode cX9_rowsOf 9 = .ok (.imul, 1)),
  ⟨ok_isub (by decide +kernel : decode cX9_rowsOf 10 = .ok (.isub, 1)),
  ⟨(ok_callS (k := 2) (s_Ma_min g l hst) (Nat.le_of_ble_eq_true rfl) (Nat.le_of_ble_eq_true rfl) rfl rfl tw_1436 tw_298 tw_15 tw_299 ⟨by decide, by decide, by decide⟩ (by decide +kernel : decode cX9_rowsOf 11 = .ok (.invokestatic 159, 3))).mono call0_of, trivial⟩⟩⟩⟩⟩⟩⟩⟩
theorem okb_Mo_rowsOf_14 (g : GG) (l : Launch) (hst : l.stackTraces = false) : BlkOk (m_Mo_rowsOf g l) 14 (b_Mo_rowsOf_14 g) := 
  ⟨ok_iret rfl (by decide +kernel : decode cX9_rowsOf 14 = .ok (.ireturn, 1)), trivial⟩
def k_Mo_rowsOf (g : GG) : List (Nat × Blk) := [(0, b_Mo_rowsOf_0 g), (14, b_Mo_rowsOf_14 g)]
theorem ok_Mo_rowsOf (g : GG) (l : Launch) (hst : l.stackTraces = false) : ∀ b ∈ k_Mo_rowsOf g, BlkOk (m_Mo_rowsOf g l) b.1 b.2 := List.forall_mem_cons.mpr ⟨okb_Mo_rowsOf_0 g l hst, List.forall_mem_cons.mpr ⟨okb_Mo_rowsOf_14 g l hst, fun _ h => by cases h⟩⟩
def i_Mo_rowsOf (g : GG) : List (Nat × Blk) := []
theorem is_Mo_rowsOf (g : GG) : ∀ x ∈ i_Mo_rowsOf g, x ∈ k_Mo_rowsOf g := sub_at [] rfl
set_option maxHeartbeats 4000000 in
theorem s_Mo_rowsOf (g : GG) (l : Launch) (hst : l.stackTraces = false) : Snd yX9_rowsOf (m_Mo_rowsOf g l) 0 0 T_Mo_rowsOf := by
  refine snd_of (plainFor_of_name (by decide)) rfl (fun h => by first | rfl | cases h) rfl hst (k_Mo_rowsOf g) (ok_Mo_rowsOf g l hst) ?_
  rintro as f Q X ⟨f0, ad, cm, cl, k, rfl, hM, hq⟩
  refine ⟨[some (.ref (ad 0)), some (.int k)], rfl, Nat.le_of_ble_eq_true rfl, fun B run => ?_⟩
  refine run _ _ (i_Mo_rowsOf g) rfl (is_Mo_rowsOf g) _ _ _ _ _ ?_; simp only [hobj_c hM.obj, mf_len, mf_0, i_Mo_rowsOf, b_Mo_rowsOf_0, b_Mo_rowsOf_14, wpL, wpI, Nat.reduceBEq, cond_true, cond_false, lget, lset, lclr, fget, fset, ctake, cdrop, c1, Nat.reduceAdd, o_iadd, o_isub, o_imul, o_iand, o_ior, o_ixor, o_ishl, o_ishr, o_iushr, o_idiv, o_irem, o_ineg, o_ladd, o_lcmp, o_i2l, o_i2c, o_i2d, o_i2f, o_l2f, o_f2d, o_fdiv, o_ddiv, o_dcmp_l, o_dcmp_g, o_fcmp_l, o_fcmp_g, o_push, o_iload, o_fload, o_dload, o_aload, o_istore, o_fstore, o_astore, o_iinc, o_ifeq, o_ifne, o_iflt, o_ifge, o_ifgt, o_ifle, o_iceq, o_icne, o_iclt, o_icge, o_icgt, o_icle, o_goto, o_dup, o_pop, o_dup_x1, o_dup2, o_getf, o_putI, o_putJ, o_putC, o_putR, o_iald, o_zald, o_cald, o_lald, o_dald, o_iast, o_zast, o_cast, o_last, o_dast, o_aald, o_alen, o_throw, o_iret, o_zret, o_cret, o_aret, o_lret, o_fret, o_dret, o_vret, o_new, o_newarr, o_pop1, o_scald, o_salen, o_call, o_callV, o_callX, o_callI, o_call0, o_callR, List.reverse_cons, List.reverse_nil, List.nil_append, List.cons_append, Option.toList_some, Option.toList_none, List.length_cons, List.length_nil, true_and, and_true, true_or, or_true, Nat.reduceLeDiff, Nat.reduceLT, Nat.zero_le, List.append_nil, if_pos, Nat.reduceLeDiff]
  refine i_Ma_min_ ?_
  refine run _ _ (i_Mo_rowsOf g) rfl (is_Mo_rowsOf g) _ _ _ _ _ ?_; simp only [hobj_c hM.obj, mf_len, mf_0, i_Mo_rowsOf, b_Mo_rowsOf_0, b_Mo_rowsOf_14, wpL, wpI, Nat.reduceBEq, cond_true, cond_false, lget, lset, lclr, fget, fset, ctake, cdrop, c1, Nat.reduceAdd, o_iadd, o_isub, o_imul, o_iand, o_ior, o_ixor, o_ishl, o_ishr, o_iushr, o_idiv, o_irem, o_ineg, o_ladd, o_lcmp, o_i2l, o_i2c, o_i2d, o_i2f, o_l2f, o_f2d, o_fdiv, o_ddiv, o_dcmp_l, o_dcmp_g, o_fcmp_l, o_fcmp_g, o_push, o_iload, o_fload, o_dload, o_aload, o_istore, o_fstore, o_astore, o_iinc, o_ifeq, o_ifne, o_iflt, o_ifge, o_ifgt, o_ifle, o_iceq, o_icne, o_iclt, o_icge, o_icgt, o_icle, o_goto, o_dup, o_pop, o_dup_x1, o_dup2, o_getf, o_putI, o_putJ, o_putC, o_putR, o_iald, o_zald, o_cald, o_lald, o_dald, o_iast, o_zast, o_cast, o_last, o_dast, o_aald, o_alen, o_throw, o_iret, o_zret, o_cret, o_aret, o_lret, o_fret, o_dret, o_vret, o_new, o_newarr, o_pop1, o_scald, o_salen, o_call, o_callV, o_callX, o_callI, o_call0, o_callR, List.reverse_cons, List.reverse_nil, List.nil_append, List.cons_append, Option.toList_some, Option.toList_none, List.length_cons, List.length_nil, true_and, and_true, true_or, or_true, Nat.reduceLeDiff, Nat.reduceLT, Nat.zero_le, List.append_nil, if_pos, Nat.reduceLeDiff]
  exact hq _ hM
def T_Mo_moment : Spec2 := fun as f Q _ => ∃ (f0 : AH) (ad : Nat → Nat) (cm : CM) (cl : CL), as = [.ref (ad 0)] ∧ MR f0 f ad cm cl ∧ ∀ f', MR f0 f' ad (thr cm false 0) (cl) → Q (some (.int (cm 1 0 0))) f'
theorem i_Mo_moment_ {f0 : AH} {ad : Nat → Nat} {cm : CM} {cl : CL}  {f : AH} {Q : Option Value → AH → Prop} {X : String → AH → Prop} (hM : MR f0 f ad cm cl) (h : ∀ f', MR f0 f' ad (thr cm false 0) (cl) → Q (some (.int (cm 1 0 0))) f') : T_Mo_moment [.ref (ad 0)] f Q X := ⟨f0, ad, cm, cl, rfl, hM, h⟩
abbrev m_Mo_moment (g : GG) (l : Launch) : MI := (RX9, cX9_moment, 1, (some .int), [], false, 1, g, l)
def b_Mo_moment_0 (g : GG) : Blk := [(1, o_aload 0), (1, o_push (.int 0)), (3, o_putI 10 49), (1, o_aload 0), (3, o_getf 10 1), (1, o_iret)]
theorem okb_Mo_moment_0 (g : GG) (l : Launch) (hst : l.stackTraces = false) : BlkOk (m_Mo_moment g l) 0 (b_Mo_moment_0 g) := 
  ⟨ok_aload_n (by decide +kernel : decode cX9_moment 0 = .ok (.aload_n 0, 1)) rfl,
  ⟨ok_iconst (by decide) (by decide +kernel : decode cX9_moment 1 = .ok (.iconst 0, 1)),
  ⟨ok_putI cls_10 (Nat.le_of_ble_eq_true rfl) tw_1307 rfl rfl rfl (by decide +kernel : decode cX9_moment 2 = .ok (.putfield 139, 3)),
  ⟨ok_aload_n (by decide +kernel : decode cX9_moment 5 = .ok (.aload_n 0, 1)) rfl,
  ⟨ok_getf cls_10 (Nat.le_of_ble_eq_true rfl) tw_1259 rfl (by decide +kernel : decode cX9_moment 6 = .ok (.getfield 156, 3)),
  ⟨ok_iret rfl (by decide +kernel : decode cX9_moment 9 = .ok (.ireturn, 1)), trivial⟩⟩⟩⟩⟩⟩
def k_Mo_moment (g : GG) : List (Nat × Blk) := [(0, b_Mo_moment_0 g)]
theorem ok_Mo_moment (g : GG) (l : Launch) (hst : l.stackTraces = false) : ∀ b ∈ k_Mo_moment g, BlkOk (m_Mo_moment g l) b.1 b.2 := List.forall_mem_cons.mpr ⟨okb_Mo_moment_0 g l hst, fun _ h => by cases h⟩
def i_Mo_moment (g : GG) : List (Nat × Blk) := []
theorem is_Mo_moment (g : GG) : ∀ x ∈ i_Mo_moment g, x ∈ k_Mo_moment g := sub_at [] rfl
set_option maxHeartbeats 4000000 in
theorem s_Mo_moment (g : GG) (l : Launch) (hst : l.stackTraces = false) : Snd yX9_moment (m_Mo_moment g l) 0 0 T_Mo_moment := by
  refine snd_of (plainFor_of_name (by decide)) rfl (fun h => by first | rfl | cases h) rfl hst (k_Mo_moment g) (ok_Mo_moment g l hst) ?_
  rintro as f Q X ⟨f0, ad, cm, cl, rfl, hM, hq⟩
  refine ⟨[some (.ref (ad 0))], rfl, Nat.le_of_ble_eq_true rfl, fun B run => ?_⟩
  refine run _ _ (i_Mo_moment g) rfl (is_Mo_moment g) _ _ _ _ _ ?_; simp only [hobj_c hM.obj, mf_len, mf_49, mf_1, i_Mo_moment, b_Mo_moment_0, wpL, wpI, Nat.reduceBEq, cond_true, cond_false, lget, lset, lclr, fget, fset, ctake, cdrop, c1, Nat.reduceAdd, o_iadd, o_isub, o_imul, o_iand, o_ior, o_ixor, o_ishl, o_ishr, o_iushr, o_idiv, o_irem, o_ineg, o_ladd, o_lcmp, o_i2l, o_i2c, o_i2d, o_i2f, o_l2f, o_f2d, o_fdiv, o_ddiv, o_dcmp_l, o_dcmp_g, o_fcmp_l, o_fcmp_g, o_push, o_iload, o_fload, o_dload, o_aload, o_istore, o_fstore, o_astore, o_iinc, o_ifeq, o_ifne, o_iflt, o_ifge, o_ifgt, o_ifle, o_iceq, o_icne, o_iclt, o_icge, o_icgt, o_icle, o_goto, o_dup, o_pop, o_dup_x1, o_dup2, o_getf, o_putI, o_putJ, o_putC, o_putR, o_iald, o_zald, o_cald, o_lald, o_dald, o_iast, o_zast, o_cast, o_last, o_dast, o_aald, o_alen, o_throw, o_iret, o_zret, o_cret, o_aret, o_lret, o_fret, o_dret, o_vret, o_new, o_newarr, o_pop1, o_scald, o_salen, o_call, o_callV, o_callX, o_callI, o_call0, o_callR, List.reverse_cons, List.reverse_nil, List.nil_append, List.cons_append, Option.toList_some, Option.toList_none, List.length_cons, List.length_nil, true_and, and_true, true_or, or_true, Nat.reduceLeDiff, Nat.reduceLT, Nat.zero_le, List.append_nil, if_pos, Nat.reduceLeDiff]
  intro f1 ef1; have hM1 := hM.p49 0; rw [← ef1] at hM1
  simp only [hobj_c hM1.obj, mf_len, mf_49, mf_1, i_Mo_moment, b_Mo_moment_0, wpL, wpI, Nat.reduceBEq, cond_true, cond_false, lget, lset, lclr, fget, fset, ctake, cdrop, c1, Nat.reduceAdd, o_iadd, o_isub, o_imul, o_iand, o_ior, o_ixor, o_ishl, o_ishr, o_iushr, o_idiv, o_irem, o_ineg, o_ladd, o_lcmp, o_i2l, o_i2c, o_i2d, o_i2f, o_l2f, o_f2d, o_fdiv, o_ddiv, o_dcmp_l, o_dcmp_g, o_fcmp_l, o_fcmp_g, o_push, o_iload, o_fload, o_dload, o_aload, o_istore, o_fstore, o_astore, o_iinc, o_ifeq, o_ifne, o_iflt, o_ifge, o_ifgt, o_ifle, o_iceq, o_icne, o_iclt, o_icge, o_icgt, o_icle, o_goto, o_dup, o_pop, o_dup_x1, o_dup2, o_getf, o_putI, o_putJ, o_putC, o_putR, o_iald, o_zald, o_cald, o_lald, o_dald, o_iast, o_zast, o_cast, o_last, o_dast, o_aald, o_alen, o_throw, o_iret, o_zret, o_cret, o_aret, o_lret, o_fret, o_dret, o_vret, o_new, o_newarr, o_pop1, o_scald, o_salen, o_call, o_callV, o_callX, o_callI, o_call0, o_callR, List.reverse_cons, List.reverse_nil, List.nil_append, List.cons_append, Option.toList_some, Option.toList_none, List.length_cons, List.length_nil, true_and, and_true, true_or, or_true, Nat.reduceLeDiff, Nat.reduceLT, Nat.zero_le, List.append_nil, if_pos, Nat.reduceLeDiff]
  exact hq _ hM1
def T_Mo_position : Spec2 := fun as f Q _ => ∃ (f0 : AH) (ad : Nat → Nat) (cm : CM) (cl : CL), as = [.ref (ad 0)] ∧ MR f0 f ad cm cl ∧ ∀ f', MR f0 f' ad (thr cm false 0) (cl) → Q (some (.int (cm 5 0 0))) f'
theorem i_Mo_position_ {f0 : AH} {ad : Nat → Nat} {cm : CM} {cl : CL}  {f : AH} {Q : Option Value → AH → Prop} {X : String → AH → Prop} (hM : MR f0 f ad cm cl) (h : ∀ f', MR f0 f' ad (thr cm false 0) (cl) → Q (some (.int (cm 5 0 0))) f') : T_Mo_position [.ref (ad 0)] f Q X := ⟨f0, ad, cm, cl, rfl, hM, h⟩
abbrev m_Mo_position (g : GG) (l : Launch) : MI := (RX9, cX9_position, 1, (some .int), [], false, 1, g, l)
def b_Mo_position_0 (g : GG) : Blk := [(1, o_aload 0), (1, o_push (.int 0)), (3, o_putI 10 49), (1, o_aload 0), (3, o_getf 10 5), (1, o_iret)]
theorem okb_Mo_position_0 (g : GG) (l : Launch) (hst : l.stackTraces = false) : BlkOk (m_Mo_position g l) 0 (b_Mo_position_0 g) := 
  ⟨ok_aload_n (by decide +kernel : decode cX9_position 0 = .ok (.aload_n 0, 1)) rfl,
  ⟨ok_iconst (by decide) (by decide +kernel : decode cX9_position 1 = .ok (.iconst 0, 1)),
  ⟨ok_putI cls_10 (Nat.le_of_ble_eq_true rfl) tw_1307 rfl rfl rfl (by decide +kernel : decode cX9_position 2 = .ok (.putfield 139, 3)),
  ⟨ok_aload_n (by decide +kernel : decode cX9_position 5 = .ok (.aload_n 0, 1)) rfl,
  ⟨ok_getf cls_10 (Nat.le_of_ble_eq_true rfl) tw_1263 rfl (by decide +kernel : decode cX9_position 6 = .ok (.getfield 282, 3)),
  ⟨ok_iret rfl (by decide +kernel : decode cX9_position 9 = .ok (.ireturn, 1)), trivial⟩⟩⟩⟩⟩⟩
def k_Mo_position (g : GG) : List (Nat × Blk) := [(0, b_Mo_position_0 g)]
theorem ok_Mo_position (g : GG) (l : Launch) (hst : l.stackTraces = false) : ∀ b ∈ k_Mo_position g, BlkOk (m_Mo_position g l) b.1 b.2 := List.forall_mem_cons.mpr ⟨okb_Mo_position_0 g l hst, fun _ h => by cases h⟩
def i_Mo_position (g : GG) : List (Nat × Blk) := []
theorem is_Mo_position (g : GG) : ∀ x ∈ i_Mo_position g, x ∈ k_Mo_position g := sub_at [] rfl
set_option maxHeartbeats 4000000 in
theorem s_Mo_position (g : GG) (l : Launch) (hst : l.stackTraces = false) : Snd yX9_position (m_Mo_position g l) 0 0 T_Mo_position := by
  refine snd_of (plainFor_of_name (by decide)) rfl (fun h => by first | rfl | cases h) rfl hst (k_Mo_position g) (ok_Mo_position g l hst) ?_
  rintro as f Q X ⟨f0, ad, cm, cl, rfl, hM, hq⟩
  refine ⟨[some (.ref (ad 0))], rfl, Nat.le_of_ble_eq_true rfl, fun B run => ?_⟩
  refine run _ _ (i_Mo_position g) rfl (is_Mo_position g) _ _ _ _ _ ?_; simp only [hobj_c hM.obj, mf_len, mf_5, mf_49, i_Mo_position, b_Mo_position_0, wpL, wpI, Nat.reduceBEq, cond_true, cond_false, lget, lset, lclr, fget, fset, ctake, cdrop, c1, Nat.reduceAdd, o_iadd, o_isub, o_imul, o_iand, o_ior, o_ixor, o_ishl, o_ishr, o_iushr, o_idiv, o_irem, o_ineg, o_ladd, o_lcmp, o_i2l, o_i2c, o_i2d, o_i2f, o_l2f, o_f2d, o_fdiv, o_ddiv, o_dcmp_l, o_dcmp_g, o_fcmp_l, o_fcmp_g, o_push, o_iload, o_fload, o_dload, o_aload, o_istore, o_fstore, o_astore, o_iinc, o_ifeq, o_ifne, o_iflt, o_ifge, o_ifgt, o_ifle, o_iceq, o_icne, o_iclt, o_icge, o_icgt, o_icle, o_goto, o_dup, o_pop, o_dup_x1, o_dup2, o_getf, o_putI, o_putJ, o_putC, o_putR, o_iald, o_zald, o_cald, o_lald, o_dald, o_iast, o_zast, o_cast, o_last, o_dast, o_aald, o_alen, o_throw, o_iret, o_zret, o_cret, o_aret, o_lret, o_fret, o_dret, o_vret, o_new, o_newarr, o_pop1, o_scald, o_salen, o_call, o_callV, o_callX, o_callI, o_call0, o_callR, List.reverse_cons, List.reverse_nil, List.nil_append, List.cons_append, Option.toList_some, Option.toList_none, List.length_cons, List.length_nil, true_and, and_true, true_or, or_true, Nat.reduceLeDiff, Nat.reduceLT, Nat.zero_le, List.append_nil, if_pos, Nat.reduceLeDiff]
  intro f1 ef1; have hM1 := hM.p49 0; rw [← ef1] at hM1
  simp only [hobj_c hM1.obj, mf_len, mf_5, mf_49, i_Mo_position, b_Mo_position_0, wpL, wpI, Nat.reduceBEq, cond_true, cond_false, lget, lset, lclr, fget, fset, ctake, cdrop, c1, Nat.reduceAdd, o_iadd, o_isub, o_imul, o_iand, o_ior, o_ixor, o_ishl, o_ishr, o_iushr, o_idiv, o_irem, o_ineg, o_ladd, o_lcmp, o_i2l, o_i2c, o_i2d, o_i2f, o_l2f, o_f2d, o_fdiv, o_ddiv, o_dcmp_l, o_dcmp_g, o_fcmp_l, o_fcmp_g, o_push, o_iload, o_fload, o_dload, o_aload, o_istore, o_fstore, o_astore, o_iinc, o_ifeq, o_ifne, o_iflt, o_ifge, o_ifgt, o_ifle, o_iceq, o_icne, o_iclt, o_icge, o_icgt, o_icle, o_goto, o_dup, o_pop, o_dup_x1, o_dup2, o_getf, o_putI, o_putJ, o_putC, o_putR, o_iald, o_zald, o_cald, o_lald, o_dald, o_iast, o_zast, o_cast, o_last, o_dast, o_aald, o_alen, o_throw, o_iret, o_zret, o_cret, o_aret, o_lret, o_fret, o_dret, o_vret, o_new, o_newarr, o_pop1, o_scald, o_salen, o_call, o_callV, o_callX, o_callI, o_call0, o_callR, List.reverse_cons, List.reverse_nil, List.nil_append, List.cons_append, Option.toList_some, Option.toList_none, List.length_cons, List.length_nil, true_and, and_true, true_or, or_true, Nat.reduceLeDiff, Nat.reduceLT, Nat.zero_le, List.append_nil, if_pos, Nat.reduceLeDiff]
  exact hq _ hM1
def T_Mo_chunksRead : Spec2 := fun as f Q _ => ∃ (f0 : AH) (ad : Nat → Nat) (cm : CM) (cl : CL), as = [.ref (ad 0)] ∧ MR f0 f ad cm cl ∧ ∀ f', MR f0 f' ad (thr cm false 0) (cl) → Q (some (.long (cl 46))) f'
theorem i_Mo_chunksRead_ {f0 : AH} {ad : Nat → Nat} {cm : CM} {cl : CL}  {f : AH} {Q : Option Value → AH → Prop} {X : String → AH → Prop} (hM : MR f0 f ad cm cl) (h : ∀ f', MR f0 f' ad (thr cm false 0) (cl) → Q (some (.long (cl 46))) f') : T_Mo_chunksRead [.ref (ad 0)] f Q X := ⟨f0, ad, cm, cl, rfl, hM, h⟩
abbrev m_Mo_chunksRead (g : GG) (l : Launch) : MI := (RX9, cX9_chunksRead, 1, (some .long), [], false, 1, g, l)
def b_Mo_chunksRead_0 (g : GG) : Blk := [(1, o_aload 0), (1, o_push (.int 0)), (3, o_putI 10 49), (1, o_aload 0), (3, o_getf 10 46), (1, o_lret)]
theorem okb_Mo_chunksRead_0 (g : GG) (l : Launch) (hst : l.stackTraces = false) : BlkOk (m_Mo_chunksRead g l) 0 (b_Mo_chunksRead_0 g) := 
  ⟨ok_aload_n (by decide +kernel : decode cX9_chunksRead 0 = .ok (.aload_n 0, 1)) rfl,
  ⟨ok_iconst (by decide) (by decide +kernel : decode cX9_chunksRead 1 = .ok (.iconst 0, 1)),
  ⟨ok_putI cls_10 (Nat.le_of_ble_eq_true rfl) tw_1307 rfl rfl rfl (by decide +kernel : decode cX9_chunksRead 2 = .ok (.putfield 139, 3)),
  ⟨ok_aload_n (by decide +kernel : decode cX9_chunksRead 5 = .ok (.aload_n 0, 1)) rfl,
  ⟨ok_getf cls_10 (Nat.le_of_ble_eq_true rfl) tw_1304 rfl (by decide +kernel : decode cX9_chunksRead 6 = .ok (.getfield 301, 3)),
  ⟨ok_lret rfl (by decide +kernel : decode cX9_chunksRead 9 = .ok (.lreturn, 1)), trivial⟩⟩⟩⟩⟩⟩
def k_Mo_chunksRead (g : GG) : List (Nat × Blk) := [(0, b_Mo_chunksRead_0 g)]
theorem ok_Mo_chunksRead (g : GG) (l : Launch) (hst : l.stackTraces = false) : ∀ b ∈ k_Mo_chunksRead g, BlkOk (m_Mo_chunksRead g l) b.1 b.2 := List.forall_mem_cons.mpr ⟨okb_Mo_chunksRead_0 g l hst, fun _ h => by cases h⟩
def i_Mo_chunksRead (g : GG) : List (Nat × Blk) := []
theorem is_Mo_chunksRead (g : GG) : ∀ x ∈ i_Mo_chunksRead g, x ∈ k_Mo_chunksRead g := sub_at [] rfl
set_option maxHeartbeats 4000000 in
theorem s_Mo_chunksRead (g : GG) (l : Launch) (hst : l.stackTraces = false) : Snd yX9_chunksRead (m_Mo_chunksRead g l) 0 0 T_Mo_chunksRead := by
  refine snd_of (plainFor_of_name (by decide)) rfl (fun h => by first | rfl | cases h) rfl hst (k_Mo_chunksRead g) (ok_Mo_chunksRead g l hst) ?_
  rintro as f Q X ⟨f0, ad, cm, cl, rfl, hM, hq⟩
  refine ⟨[some (.ref (ad 0))], rfl, Nat.le_of_ble_eq_true rfl, fun B run => ?_⟩
  refine run _ _ (i_Mo_chunksRead g) rfl (is_Mo_chunksRead g) _ _ _ _ _ ?_; simp only [hobj_c hM.obj, mf_len, mf_46, mf_49, i_Mo_chunksRead, b_Mo_chunksRead_0, wpL, wpI, Nat.reduceBEq, cond_true, cond_false, lget, lset, lclr, fget, fset, ctake, cdrop, c1, Nat.reduceAdd, o_iadd, o_isub, o_imul, o_iand, o_ior, o_ixor, o_ishl, o_ishr, o_iushr, o_idiv, o_irem, o_ineg, o_ladd, o_lcmp, o_i2l, o_i2c, o_i2d, o_i2f, o_l2f, o_f2d, o_fdiv, o_ddiv, o_dcmp_l, o_dcmp_g, o_fcmp_l, o_fcmp_g, o_push, o_iload, o_fload, o_dload, o_aload, o_istore, o_fstore, o_astore, o_iinc, o_ifeq, o_ifne, o_iflt, o_ifge, o_ifgt, o_ifle, o_iceq, o_icne, o_iclt, o_icge, o_icgt, o_icle, o_goto, o_dup, o_pop, o_dup_x1, o_dup2, o_getf, o_putI, o_putJ, o_putC, o_putR, o_iald, o_zald, o_cald, o_lald, o_dald, o_iast, o_zast, o_cast, o_last, o_dast, o_aald, o_alen, o_throw, o_iret, o_zret, o_cret, o_aret, o_lret, o_fret, o_dret, o_vret, o_new, o_newarr, o_pop1, o_scald, o_salen, o_call, o_callV, o_callX, o_callI, o_call0, o_callR, List.reverse_cons, List.reverse_nil, List.nil_append, List.cons_append, Option.toList_some, Option.toList_none, List.length_cons, List.length_nil, true_and, and_true, true_or, or_true, Nat.reduceLeDiff, Nat.reduceLT, Nat.zero_le, List.append_nil, if_pos, Nat.reduceLeDiff]
  intro f1 ef1; have hM1 := hM.p49 0; rw [← ef1] at hM1
  simp only [hobj_c hM1.obj, mf_len, mf_46, mf_49, i_Mo_chunksRead, b_Mo_chunksRead_0, wpL, wpI, Nat.reduceBEq, cond_true, cond_false, lget, lset, lclr, fget, fset, ctake, cdrop, c1, Nat.reduceAdd, o_iadd, o_isub, o_imul, o_iand, o_ior, o_ixor, o_ishl, o_ishr, o_iushr, o_idiv, o_irem, o_ineg, o_ladd, o_lcmp, o_i2l, o_i2c, o_i2d, o_i2f, o_l2f, o_f2d, o_fdiv, o_ddiv, o_dcmp_l, o_dcmp_g, o_fcmp_l, o_fcmp_g, o_push, o_iload, o_fload, o_dload, o_aload, o_istore, o_fstore, o_astore, o_iinc, o_ifeq, o_ifne, o_iflt, o_ifge, o_ifgt, o_ifle, o_iceq, o_icne, o_iclt, o_icge, o_icgt, o_icle, o_goto, o_dup, o_pop, o_dup_x1, o_dup2, o_getf, o_putI, o_putJ, o_putC, o_putR, o_iald, o_zald, o_cald, o_lald, o_dald, o_iast, o_zast, o_cast, o_last, o_dast, o_aald, o_alen, o_throw, o_iret, o_zret, o_cret, o_aret, o_lret, o_fret, o_dret, o_vret, o_new, o_newarr, o_pop1, o_scald, o_salen, o_call, o_callV, o_callX, o_callI, o_call0, o_callR, List.reverse_cons, List.reverse_nil, List.nil_append, List.cons_append, Option.toList_some, Option.toList_none, List.length_cons, List.length_nil, true_and, and_true, true_or, or_true, Nat.reduceLeDiff, Nat.reduceLT, Nat.zero_le, List.append_nil, if_pos, Nat.reduceLeDiff]
  exact hq _ hM1
def T_Mo_isSound : Spec2 := fun as f Q _ => ∃ (f0 : AH) (ad : Nat → Nat) (cm : CM) (cl : CL), as = [.ref (ad 0)] ∧ MR f0 f ad cm cl ∧ ∀ f', MR f0 f' ad (thr cm false 0) (cl) → Q (some (.int (b2i true))) f'
theorem i_Mo_isSound_ {f0 : AH} {ad : Nat → Nat} {cm : CM} {cl : CL}  {f : AH} {Q : Option Value → AH → Prop} {X : String → AH → Prop} (hM : MR f0 f ad cm cl) (h : ∀ f', MR f0 f' ad (thr cm false 0) (cl) → Q (some (.int (b2i true))) f') : T_Mo_isSound [.ref (ad 0)] f Q X := ⟨f0, ad, cm, cl, rfl, hM, h⟩
abbrev m_Mo_isSound (g : GG) (l : Launch) : MI := (RX9, cX9_isSound, 1, (some .boolean), [], false, 1, g, l)
def b_Mo_isSound_0 (g : GG) : Blk := [(1, o_aload 0), (1, o_push (.int 0)), (3, o_putI 10 49), (1, o_push (.int 1)), (1, o_zret)]
theorem okb_Mo_isSound_0 (g : GG) (l : Launch) (hst : l.stackTraces = false) : BlkOk (m_Mo_isSound g l) 0 (b_Mo_isSound_0 g) := 
  ⟨ok_aload_n (by decide +kernel : decode cX9_isSound 0 = .ok (.aload_n 0, 1)) rfl,
  ⟨ok_iconst (by decide) (by decide +kernel : decode cX9_isSound 1 = .ok (.iconst 0, 1)),
  ⟨ok_putI cls_10 (Nat.le_of_ble_eq_true rfl) tw_1307 rfl rfl rfl (by decide +kernel : decode cX9_isSound 2 = .ok (.putfield 139, 3)),
  ⟨ok_iconst (by decide) (by decide +kernel : decode cX9_isSound 5 = .ok (.iconst 1, 1)),
  ⟨ok_zret rfl (by decide +kernel : decode cX9_isSound 6 = .ok (.ireturn, 1)), trivial⟩⟩⟩⟩⟩
def k_Mo_isSound (g : GG) : List (Nat × Blk) := [(0, b_Mo_isSound_0 g)]
theorem ok_Mo_isSound (g : GG) (l : Launch) (hst : l.stackTraces = false) : ∀ b ∈ k_Mo_isSound g, BlkOk (m_Mo_isSound g l) b.1 b.2 := List.forall_mem_cons.mpr ⟨okb_Mo_isSound_0 g l hst, fun _ h => by cases h⟩
def i_Mo_isSound (g : GG) : List (Nat × Blk) := []
theorem is_Mo_isSound (g : GG) : ∀ x ∈ i_Mo_isSound g, x ∈ k_Mo_isSound g := sub_at [] rfl
set_option maxHeartbeats 4000000 in
theorem s_Mo_isSound (g : GG) (l : Launch) (hst : l.stackTraces = false) : Snd yX9_isSound (m_Mo_isSound g l) 0 0 T_Mo_isSound := by
  refine snd_of (plainFor_of_name (by decide)) rfl (fun h => by first | rfl | cases h) rfl hst (k_Mo_isSound g) (ok_Mo_isSound g l hst) ?_
  rintro as f Q X ⟨f0, ad, cm, cl, rfl, hM, hq⟩
  refine ⟨[some (.ref (ad 0))], rfl, Nat.le_of_ble_eq_true rfl, fun B run => ?_⟩
  refine run _ _ (i_Mo_isSound g) rfl (is_Mo_isSound g) _ _ _ _ _ ?_; simp only [hobj_c hM.obj, mf_len, mf_49, i_Mo_isSound, b_Mo_isSound_0, wpL, wpI, Nat.reduceBEq, cond_true, cond_false, lget, lset, lclr, fget, fset, ctake, cdrop, c1, Nat.reduceAdd, o_iadd, o_isub, o_imul, o_iand, o_ior, o_ixor, o_ishl, o_ishr, o_iushr, o_idiv, o_irem, o_ineg, o_ladd, o_lcmp, o_i2l, o_i2c, o_i2d, o_i2f, o_l2f, o_f2d, o_fdiv, o_ddiv, o_dcmp_l, o_dcmp_g, o_fcmp_l, o_fcmp_g, o_push, o_iload, o_fload, o_dload, o_aload, o_istore, o_fstore, o_astore, o_iinc, o_ifeq, o_ifne, o_iflt, o_ifge, o_ifgt, o_ifle, o_iceq, o_icne, o_iclt, o_icge, o_icgt, o_icle, o_goto, o_dup, o_pop, o_dup_x1, o_dup2, o_getf, o_putI, o_putJ, o_putC, o_putR, o_iald, o_zald, o_cald, o_lald, o_dald, o_iast, o_zast, o_cast, o_last, o_dast, o_aald, o_alen, o_throw, o_iret, o_zret, o_cret, o_aret, o_lret, o_fret, o_dret, o_vret, o_new, o_newarr, o_pop1, o_scald, o_salen, o_call, o_callV, o_callX, o_callI, o_call0, o_callR, List.reverse_cons, List.reverse_nil, List.nil_append, List.cons_append, Option.toList_some, Option.toList_none, List.length_cons, List.length_nil, true_and, and_true, true_or, or_true, Nat.reduceLeDiff, Nat.reduceLT, Nat.zero_le, List.append_nil, if_pos, Nat.reduceLeDiff]
  intro f1 ef1; have hM1 := hM.p49 0; rw [← ef1] at hM1
  simp only [hobj_c hM1.obj, mf_len, mf_49, i_Mo_isSound, b_Mo_isSound_0, wpL, wpI, Nat.reduceBEq, cond_true, cond_false, lget, lset, lclr, fget, fset, ctake, cdrop, c1, Nat.reduceAdd, o_iadd, o_isub, o_imul, o_iand, o_ior, o_ixor, o_ishl, o_ishr, o_iushr, o_idiv, o_irem, o_ineg, o_ladd, o_lcmp, o_i2l, o_i2c, o_i2d, o_i2f, o_l2f, o_f2d, o_fdiv, o_ddiv, o_dcmp_l, o_dcmp_g, o_fcmp_l, o_fcmp_g, o_push, o_iload, o_fload, o_dload, o_aload, o_istore, o_fstore, o_astore, o_iinc, o_ifeq, o_ifne, o_iflt, o_ifge, o_ifgt, o_ifle, o_iceq, o_icne, o_iclt, o_icge, o_icgt, o_icle, o_goto, o_dup, o_pop, o_dup_x1, o_dup2, o_getf, o_putI, o_putJ, o_putC, o_putR, o_iald, o_zald, o_cald, o_lald, o_dald, o_iast, o_zast, o_cast, o_last, o_dast, o_aald, o_alen, o_throw, o_iret, o_zret, o_cret, o_aret, o_lret, o_fret, o_dret, o_vret, o_new, o_newarr, o_pop1, o_scald, o_salen, o_call, o_callV, o_callX, o_callI, o_call0, o_callR, List.reverse_cons, List.reverse_nil, List.nil_append, List.cons_append, Option.toList_some, Option.toList_none, List.length_cons, List.length_nil, true_and, and_true, true_or, or_true, Nat.reduceLeDiff, Nat.reduceLT, Nat.zero_le, List.append_nil, if_pos, Nat.reduceLeDiff]
  exact hq _ hM1
def T_Mo_chunks : Spec2 := fun as f Q _ => ∃ (f0 : AH) (ad : Nat → Nat) (cm : CM) (cl : CL), as = [.ref (ad 0)] ∧ MR f0 f ad cm cl ∧ ∀ f', MR f0 f' ad (thr cm false 0) (cl) → Q (some (.int (chN cm))) f'
theorem i_Mo_chunks_ {f0 : AH} {ad : Nat → Nat} {cm : CM} {cl : CL}  {f : AH} {Q : Option Value → AH → Prop} {X : String → AH → Prop} (hM : MR f0 f ad cm cl) (h : ∀ f', MR f0 f' ad (thr cm false 0) (cl) → Q (some (.int (chN cm))) f') : T_Mo_chunks [.ref (ad 0)] f Q X := ⟨f0, ad, cm, cl, rfl, hM, h⟩
abbrev m_Mo_chunks (g : GG) (l : Launch) : MI := (RX9, cX9_chunks, 1, (some .int), [], false, 2, g, l)
def b_Mo_chunks_0 (g : GG) : Blk := [(1, o_aload 0), (1, o_push (.int 0)), (3, o_putI 10 49), (1, o_aload 0), (3, o_callR (o_call0 T_Mo_chunksNow 1) 10 1)]
def b_Mo_chunks_9 (g : GG) : Blk := [(1, o_iret)]
theorem okb_Mo_chunks_0 (g : GG) (l : Launch) (hst : l.stackTraces = false) : BlkOk (m_Mo_chunks g l) 0 (b_Mo_chunks_0 g) := 
  ⟨ok_aload_n (by decide +kernel : decode cX9_chunks 0 = .ok (.aload_n 0, 1)) rfl,
  ⟨ok_iconst (by decide) (by decide +kernel : decode cX9_chunks 1 = .ok (.iconst 0, 1)),
  ⟨ok_putI cls_10 (Nat.le_of_ble_eq_true rfl) tw_1307 rfl rfl rfl (by decide +kernel : decode cX9_chunks 2 = .ok (.putfield 139, 3)),
  ⟨ok_aload_n (by decide +kernel : decode cX9_chunks 5 = .ok (.aload_n 0, 1)) rfl,
  ⟨(ok_callV (k := 0) cls_10 (s_Mo_chunksNow g l hst) (Nat.le_of_ble_eq_true rfl) (Nat.le_of_ble_eq_true rfl) rfl rfl tw_1482 tw_1484 ts_50 tw_9 tw_1485 ⟨by decide, by decide, by decide⟩ (by decide +kernel : decode cX9_chunks 6 = .ok (.invokevirtual 189, 3))).mono callR0_of, trivial⟩⟩⟩⟩⟩
theorem okb_Mo_chunks_9 (g : GG) (l : Launch) (hst : l.stackTraces = false) : BlkOk (m_Mo_chunks g l) 9 (b_Mo_chunks_9 g) := 
  ⟨ok_iret rfl (by decide +kernel : decode cX9_chunks 9 = .ok (.ireturn, 1)), trivial⟩
def k_Mo_chunks (g : GG) : List (Nat × Blk) := [(0, b_Mo_chunks_0 g), (9, b_Mo_chunks_9 g)]
theorem ok_Mo_chunks (g : GG) (l : Launch) (hst : l.stackTraces = false) : ∀ b ∈ k_Mo_chunks g, BlkOk (m_Mo_chunks g l) b.1 b.2 := List.forall_mem_cons.mpr ⟨okb_Mo_chunks_0 g l hst, List.forall_mem_cons.mpr ⟨okb_Mo_chunks_9 g l hst, fun _ h => by cases h⟩⟩
def i_Mo_chunks (g : GG) : List (Nat × Blk) := []
theorem is_Mo_chunks (g : GG) : ∀ x ∈ i_Mo_chunks g, x ∈ k_Mo_chunks g := sub_at [] rfl
set_option maxHeartbeats 4000000 in
theorem s_Mo_chunks (g : GG) (l : Launch) (hst : l.stackTraces = false) : Snd yX9_chunks (m_Mo_chunks g l) 0 0 T_Mo_chunks := by
  refine snd_of (plainFor_of_name (by decide)) rfl (fun h => by first | rfl | cases h) rfl hst (k_Mo_chunks g) (ok_Mo_chunks g l hst) ?_
  rintro as f Q X ⟨f0, ad, cm, cl, rfl, hM, hq⟩
  refine ⟨[some (.ref (ad 0))], rfl, Nat.le_of_ble_eq_true rfl, fun B run => ?_⟩
  refine run _ _ (i_Mo_chunks g) rfl (is_Mo_chunks g) _ _ _ _ _ ?_; simp only [hobj_c hM.obj, mf_len, mf_49, i_Mo_chunks, b_Mo_chunks_0, b_Mo_chunks_9, wpL, wpI, Nat.reduceBEq, cond_true, cond_false, lget, lset, lclr, fget, fset, ctake, cdrop, c1, Nat.reduceAdd, o_iadd, o_isub, o_imul, o_iand, o_ior, o_ixor, o_ishl, o_ishr, o_iushr, o_idiv, o_irem, o_ineg, o_ladd, o_lcmp, o_i2l, o_i2c, o_i2d, o_i2f, o_l2f, o_f2d, o_fdiv, o_ddiv, o_dcmp_l, o_dcmp_g, o_fcmp_l, o_fcmp_g, o_push, o_iload, o_fload, o_dload, o_aload, o_istore, o_fstore, o_astore, o_iinc, o_ifeq, o_ifne, o_iflt, o_ifge, o_ifgt, o_ifle, o_iceq, o_icne, o_iclt, o_icge, o_icgt, o_icle, o_goto, o_dup, o_pop, o_dup_x1, o_dup2, o_getf, o_putI, o_putJ, o_putC, o_putR, o_iald, o_zald, o_cald, o_lald, o_dald, o_iast, o_zast, o_cast, o_last, o_dast, o_aald, o_alen, o_throw, o_iret, o_zret, o_cret, o_aret, o_lret, o_fret, o_dret, o_vret, o_new, o_newarr, o_pop1, o_scald, o_salen, o_call, o_callV, o_callX, o_callI, o_call0, o_callR, List.reverse_cons, List.reverse_nil, List.nil_append, List.cons_append, Option.toList_some, Option.toList_none, List.length_cons, List.length_nil, true_and, and_true, true_or, or_true, Nat.reduceLeDiff, Nat.reduceLT, Nat.zero_le, List.append_nil, if_pos, Nat.reduceLeDiff]
  intro f1 ef1; have hM1 := hM.p49 0; rw [← ef1] at hM1
  simp only [hobj_c hM1.obj, mf_len, mf_49, i_Mo_chunks, b_Mo_chunks_0, b_Mo_chunks_9, wpL, wpI, Nat.reduceBEq, cond_true, cond_false, lget, lset, lclr, fget, fset, ctake, cdrop, c1, Nat.reduceAdd, o_iadd, o_isub, o_imul, o_iand, o_ior, o_ixor, o_ishl, o_ishr, o_iushr, o_idiv, o_irem, o_ineg, o_ladd, o_lcmp, o_i2l, o_i2c, o_i2d, o_i2f, o_l2f, o_f2d, o_fdiv, o_ddiv, o_dcmp_l, o_dcmp_g, o_fcmp_l, o_fcmp_g, o_push, o_iload, o_fload, o_dload, o_aload, o_istore, o_fstore, o_astore, o_iinc, o_ifeq, o_ifne, o_iflt, o_ifge, o_ifgt, o_ifle, o_iceq, o_icne, o_iclt, o_icge, o_icgt, o_icle, o_goto, o_dup, o_pop, o_dup_x1, o_dup2, o_getf, o_putI, o_putJ, o_putC, o_putR, o_iald, o_zald, o_cald, o_lald, o_dald, o_iast, o_zast, o_cast, o_last, o_dast, o_aald, o_alen, o_throw, o_iret, o_zret, o_cret, o_aret, o_lret, o_fret, o_dret, o_vret, o_new, o_newarr, o_pop1, o_scald, o_salen, o_call, o_callV, o_callX, o_callI, o_call0, o_callR, List.reverse_cons, List.reverse_nil, List.nil_append, List.cons_append, Option.toList_some, Option.toList_none, List.length_cons, List.length_nil, true_and, and_true, true_or, or_true, Nat.reduceLeDiff, Nat.reduceLT, Nat.zero_le, List.append_nil, if_pos, Nat.reduceLeDiff]
  refine i_Mo_chunksNow_ hM1 fun f2 hM2 => ?_
  refine run _ _ (i_Mo_chunks g) rfl (is_Mo_chunks g) _ _ _ _ _ ?_; simp only [hobj_c hM2.obj, mf_len, mf_49, i_Mo_chunks, b_Mo_chunks_0, b_Mo_chunks_9, wpL, wpI, Nat.reduceBEq, cond_true, cond_false, lget, lset, lclr, fget, fset, ctake, cdrop, c1, Nat.reduceAdd, o_iadd, o_isub, o_imul, o_iand, o_ior, o_ixor, o_ishl, o_ishr, o_iushr, o_idiv, o_irem, o_ineg, o_ladd, o_lcmp, o_i2l, o_i2c, o_i2d, o_i2f, o_l2f, o_f2d, o_fdiv, o_ddiv, o_dcmp_l, o_dcmp_g, o_fcmp_l, o_fcmp_g, o_push, o_iload, o_fload, o_dload, o_aload, o_istore, o_fstore, o_astore, o_iinc, o_ifeq, o_ifne, o_iflt, o_ifge, o_ifgt, o_ifle, o_iceq, o_icne, o_iclt, o_icge, o_icgt, o_icle, o_goto, o_dup, o_pop, o_dup_x1, o_dup2, o_getf, o_putI, o_putJ, o_putC, o_putR, o_iald, o_zald, o_cald, o_lald, o_dald, o_iast, o_zast, o_cast, o_last, o_dast, o_aald, o_alen, o_throw, o_iret, o_zret, o_cret, o_aret, o_lret, o_fret, o_dret, o_vret, o_new, o_newarr, o_pop1, o_scald, o_salen, o_call, o_callV, o_callX, o_callI, o_call0, o_callR, List.reverse_cons, List.reverse_nil, List.nil_append, List.cons_append, Option.toList_some, Option.toList_none, List.length_cons, List.length_nil, true_and, and_true, true_or, or_true, Nat.reduceLeDiff, Nat.reduceLT, Nat.zero_le, List.append_nil, if_pos, Nat.reduceLeDiff]
  exact hq _ hM2

